/-! a trace comes -/
def kdT (s : Nat → Nat) (cl kd n : Nat) : Prop := kd ≤ 6 ∧ n ≤ 400 ∧ (kd = 0 → n < s 0) ∧ (kd = 1 → n ≤ 3) ∧ (kd = 2 → n ≤ 3) ∧ (kd = 5 → 1 ≤ n ∧ cl % 8 ≠ 7) ∧ (kd = 6 → n = 0)
def okT (s : Nat → Nat) (x k v : Int32) : Prop := iB x 0 47 ∧ iB k 0 6 ∧ iB v 0 400 ∧ kdT s (vN x) (vN k) (vN v)
def sTr (s : Nat → Nat) (cl kd n : Nat) : Nat → Nat := up (up (up (up (up s (60 + 4 * s 1) cl) (61 + 4 * s 1) kd) (62 + 4 * s 1) n) (63 + 4 * s 1) 0) 1 (s 1 + 1)
theorem sTr_o {s : Nat → Nat} {cl kd n j : Nat} (h0 : j ≠ 1) (h1 : j < 60 + 4 * s 1 ∨ 64 + 4 * s 1 ≤ j) : sTr s cl kd n j = s j := by
  unfold sTr
  rw [upN h0, upN (by omega), upN (by omega), upN (by omega), upN (by omega)]
theorem sTr_n {s : Nat → Nat} {cl kd n : Nat} : sTr s cl kd n 1 = s 1 + 1 ∧ sTr s cl kd n (60 + 4 * s 1) = cl ∧ sTr s cl kd n (61 + 4 * s 1) = kd ∧ sTr s cl kd n (62 + 4 * s 1) = n ∧ sTr s cl kd n (63 + 4 * s 1) = 0 := by
  unfold sTr
  refine ⟨upS, ?_, ?_, ?_, ?_⟩
  · rw [upN (by omega), upN (by omega), upN (by omega), upN (by omega), upS]
  · rw [upN (by omega), upN (by omega), upN (by omega), upS]
  · rw [upN (by omega), upN (by omega), upS]
  · rw [upN (by omega), upS]
noncomputable def f_trace (x k v : Int32) (s : Nat → Nat) : Int32 × (Nat → Nat) := pqI (okT s x k v) (pqI (s 1 = 20) (-4, s) (nI (s 1), sTr s (vN x) (vN k) (vN v))) (-2, s)
theorem WF_trace {x k v : Int32} {s c : Nat → Nat} (h : WF s c) : WF (f_trace x k v s).2 c := by
  unfold f_trace
  by_cases q : okT s x k v
  · rw [pqI_t q]
    by_cases z : s 1 = 20
    · rw [pqI_t z]; exact h
    · rw [pqI_f z]
      obtain ⟨q1, q2, q3, q4⟩ := q
      obtain ⟨_, _, v1⟩ := iB_v (by decide) q1
      show WF (sTr s (vN x) (vN k) (vN v)) c
      obtain ⟨h1, h2, h3, h4, h5, h6, h7, h8, h9, h10⟩ := h
      generalize vN x = cl at *
      generalize vN k = kd at *
      generalize vN v = n at *
      obtain ⟨k1, k2, k3, k4, k5, k6, k7⟩ := q4
      obtain ⟨e0, e1, e2, e3, e4⟩ := sTr_n (s := s) (cl := cl) (kd := kd) (n := n)
      refine ⟨by rw [sTr_o (by omega) (by omega)]; exact h1, by omega, fun i hi => by rw [sTr_o (by omega) (by omega)]; exact h3 i hi, by rw [sTr_o (by omega) (by omega)]; exact h4, by rw [sTr_o (by omega) (by omega)]; exact h5, by rw [sTr_o (by omega) (by omega)]; exact h6, fun k hk => by rw [sTr_o (by omega) (by omega)]; exact h7 k hk, fun a ha => ?_, fun u hu => ?_, fun k hk => by rw [sTr_o (by omega) (by omega)]; exact h10 k hk⟩
      · rw [sTr_o (by omega) (by omega)] at ha
        have := h8 a ha
        unfold wSt at this ⊢
        rw [sTr_o (by omega) (by omega), sTr_o (by omega) (by omega), sTr_o (by omega) (by omega), sTr_o (by omega) (by omega)]
        exact this
      · rw [e0] at hu
        unfold wTr
        by_cases y : u = s 1
        · subst y
          rw [e1, e2, e3, e4, sTr_o (j := 0) (by omega) (by omega)]
          exact ⟨by omega, k1, k2, by omega, k3, k4, k5, k6⟩
        · have := h9 u (by omega)
          unfold wTr at this
          rw [sTr_o (by omega) (by omega), sTr_o (by omega) (by omega), sTr_o (by omega) (by omega), sTr_o (by omega) (by omega), sTr_o (j := 0) (by omega) (by omega)]
          exact this
  · rw [pqI_f q]; exact h
theorem iB_sub {x : Int32} {lo hi lo' hi' : Nat} (h : iB x lo hi) (h1 : lo' ≤ lo) (h2 : hi ≤ hi') : iB x lo' hi' := by
  obtain ⟨n, a, b, e⟩ := h
  exact ⟨n, by omega, by omega, e⟩
theorem bl_iB {x : Int32} {n hi : Nat} (h : bl x n) (h2 : n ≤ hi + 1) : iB x 0 hi := by
  obtain ⟨a, h1, e⟩ := h
  exact ⟨a, by omega, by omega, e⟩
theorem sp_canTell {b : Nat} {x k v : Int32} {s c : Nat → Nat} {M : mM} {Q : Int32 → Prop} (hs : ST M b s c) (w0 : s 0 ≤ 4) (hx : iB x 0 47) (h1 : okT s x k v → Q 1) (h0 : ¬ okT s x k v → Q 0) : p_X2_canTell b x k v M Q := by
  have fr0 : ∀ (n : Nat) (q : k = nI n), n < 7 → vN k = n := fun n q hn => by rw [q]; exact vN_n (by omega)
  have mk : ∀ kd : Nat, k = nI kd → kd ≤ 6 → iB v 0 400 → kdT s (vN x) kd (vN v) → Q 1 := fun kd e l a q => h1 ⟨hx, ⟨kd, by omega, l, e⟩, a, by rw [fr0 kd e (by omega)]; exact q⟩
  have no : ∀ kd : Nat, k = nI kd → kd ≤ 6 → (iB v 0 400 → ¬ kdT s (vN x) kd (vN v)) → Q 0 := fun kd e l q => h0 (fun r => q r.2.2.1 (by have := r.2.2.2; rw [fr0 kd e (by omega)] at this; exact this))
  refine ⟨fun e => ?_, fun e => ?_, fun e => ?_, fun e => ?_, fun e => ?_, fun e => ?_, fun e => ?_, fun e0 e1 e2 e3 e4 e5 e6 => ?_⟩
  · refine sp_isStuffX hs w0 (fun a => ⟨by decide, ?_⟩) (fun a => ⟨by decide, ?_⟩)
    · have a2 := bl_iB (hi := 400) a (by omega)
      obtain ⟨_, a1⟩ := bl_v (by omega) a
      exact mk 0 e (by omega) a2 ⟨by omega, by omega, fun _ => a1, fun z => by omega, fun z => by omega, fun z => by omega, fun z => by omega⟩
    · exact no 0 e (by omega) (fun b z => a ⟨vN v, z.2.2.1 rfl, (iB_v (by decide) b).1⟩)
  · refine sp_within (lo := 0) (hi := 3) (by decide) (by decide) (fun a => ⟨by decide, ?_⟩) (fun a => ⟨by decide, ?_⟩)
    · obtain ⟨_, _, a1⟩ := iB_v (by decide) a
      exact mk 1 e (by omega) (iB_sub a (by omega) (by omega)) ⟨by omega, by omega, fun z => by omega, fun _ => a1, fun z => by omega, fun z => by omega, fun z => by omega⟩
    · exact no 1 e (by omega) (fun b z => a ⟨vN v, by omega, z.2.2.2.1 rfl, (iB_v (by decide) b).1⟩)
  · refine sp_within (lo := 0) (hi := 3) (by decide) (by decide) (fun a => ⟨by decide, ?_⟩) (fun a => ⟨by decide, ?_⟩)
    · obtain ⟨_, _, a1⟩ := iB_v (by decide) a
      exact mk 2 e (by omega) (iB_sub a (by omega) (by omega)) ⟨by omega, by omega, fun z => by omega, fun z => by omega, fun _ => a1, fun z => by omega, fun z => by omega⟩
    · exact no 2 e (by omega) (fun b z => a ⟨vN v, by omega, z.2.2.2.2.1 rfl, (iB_v (by decide) b).1⟩)
  · refine sp_within (lo := 0) (hi := 400) (by decide) (by decide) (fun a => ⟨by decide, ?_⟩) (fun a => ⟨by decide, ?_⟩)
    · obtain ⟨_, _, a1⟩ := iB_v (by decide) a
      exact mk 3 e (by omega) a ⟨by omega, a1, fun z => by omega, fun z => by omega, fun z => by omega, fun z => by omega, fun z => by omega⟩
    · exact no 3 e (by omega) (fun b z => a b)
  · refine sp_within (lo := 0) (hi := 400) (by decide) (by decide) (fun a => ⟨by decide, ?_⟩) (fun a => ⟨by decide, ?_⟩)
    · obtain ⟨_, _, a1⟩ := iB_v (by decide) a
      exact mk 4 e (by omega) a ⟨by omega, a1, fun z => by omega, fun z => by omega, fun z => by omega, fun z => by omega, fun z => by omega⟩
    · exact no 4 e (by omega) (fun b z => a b)
  · obtain ⟨x1, x2, x3⟩ := iB_v (by decide) hx
    have e7 : x - x / 8 * 8 = nI (vN x % 8) := by
      generalize vN x = cl at *
      subst x1
      exact pk_rem (d := 8) (by omega) (by decide) (by decide)
    refine sp_within (lo := 1) (hi := 400) (by decide) (by decide) (fun a => ⟨fun z => absurd z (by decide), fun _ => ?_⟩) (fun a => ⟨fun _ => ?_, fun z => absurd rfl z⟩)
    · obtain ⟨_, a1, a2⟩ := iB_v (by decide) a
      rw [e7]
      refine ⟨fun z => no 5 e (by omega) (fun b y => (y.2.2.2.2.2.1 rfl).2 (eqi (b := 7) (by omega) (by decide) z)), fun z => mk 5 e (by omega) (iB_sub a (by omega) (by omega)) ⟨by omega, a2, fun z => by omega, fun z => by omega, fun z => by omega, fun _ => ⟨a1, fun y => z (by rw [y]; rfl)⟩, fun z => by omega⟩⟩
    · exact no 5 e (by omega) (fun b z => a ⟨vN v, (z.2.2.2.2.2.1 rfl).1, z.2.1, (iB_v (by decide) b).1⟩)
  · refine ⟨fun z => no 6 e (by omega) (fun b y => z ?_), fun z => mk 6 e (by omega) ⟨0, by omega, by omega, z⟩ ⟨by omega, by rw [z]; decide, fun z => by omega, fun z => by omega, fun z => by omega, fun z => by omega, fun _ => by rw [z]; decide⟩⟩
    have := (iB_v (by decide) b).1
    rw [y.2.2.2.2.2.2 rfl] at this
    exact this
  · refine h0 (fun r => ?_)
    obtain ⟨n, _, n6, en⟩ := r.2.1
    have : n = 0 ∨ n = 1 ∨ n = 2 ∨ n = 3 ∨ n = 4 ∨ n = 5 ∨ n = 6 := by omega
    rcases this with rfl | rfl | rfl | rfl | rfl | rfl | rfl
    · exact e0 en
    · exact e1 en
    · exact e2 en
    · exact e3 en
    · exact e4 en
    · exact e5 en
    · exact e6 en
theorem sp7_isTraceX {m : Nat} {x k v : Int32} {s c : Nat → Nat} {M : mM} {Q : Int32 → Prop} (hs : BK M m s c) (w0 : s 0 ≤ 4) (hx : iB x 0 47) (h1 : okT s x k v → Q 1) (h0 : ¬ okT s x k v → Q 0) : p_X7_isTrace m x k v M Q := by
  have fr0 : ∀ (n : Nat) (q : k = nI n), n < 7 → vN k = n := fun n q hn => by rw [q]; exact vN_n (by omega)
  have mk : ∀ kd : Nat, k = nI kd → kd ≤ 6 → iB v 0 400 → kdT s (vN x) kd (vN v) → Q 1 := fun kd e l a q => h1 ⟨hx, ⟨kd, by omega, l, e⟩, a, by rw [fr0 kd e (by omega)]; exact q⟩
  have no : ∀ kd : Nat, k = nI kd → kd ≤ 6 → (iB v 0 400 → ¬ kdT s (vN x) kd (vN v)) → Q 0 := fun kd e l q => h0 (fun r => q r.2.2.1 (by have := r.2.2.2; rw [fr0 kd e (by omega)] at this; exact this))
  refine ⟨fun e => ?_, fun e => ?_, fun e => ?_, fun e => ?_, fun e => ?_, fun e => ?_, fun e => ?_, fun e0 e1 e2 e3 e4 e5 e6 => ?_⟩
  · refine sp7_isStuffX hs w0 (fun a => ⟨by decide, ?_⟩) (fun a => ⟨by decide, ?_⟩)
    · have a2 := bl_iB (hi := 400) a (by omega)
      obtain ⟨_, a1⟩ := bl_v (by omega) a
      exact mk 0 e (by omega) a2 ⟨by omega, by omega, fun _ => a1, fun z => by omega, fun z => by omega, fun z => by omega, fun z => by omega⟩
    · exact no 0 e (by omega) (fun b z => a ⟨vN v, z.2.2.1 rfl, (iB_v (by decide) b).1⟩)
  · refine sp7_inI (lo := 0) (hi := 3) (by decide) (by decide) (fun a => ⟨by decide, ?_⟩) (fun a => ⟨by decide, ?_⟩)
    · obtain ⟨_, _, a1⟩ := iB_v (by decide) a
      exact mk 1 e (by omega) (iB_sub a (by omega) (by omega)) ⟨by omega, by omega, fun z => by omega, fun _ => a1, fun z => by omega, fun z => by omega, fun z => by omega⟩
    · exact no 1 e (by omega) (fun b z => a ⟨vN v, by omega, z.2.2.2.1 rfl, (iB_v (by decide) b).1⟩)
  · refine sp7_inI (lo := 0) (hi := 3) (by decide) (by decide) (fun a => ⟨by decide, ?_⟩) (fun a => ⟨by decide, ?_⟩)
    · obtain ⟨_, _, a1⟩ := iB_v (by decide) a
      exact mk 2 e (by omega) (iB_sub a (by omega) (by omega)) ⟨by omega, by omega, fun z => by omega, fun z => by omega, fun _ => a1, fun z => by omega, fun z => by omega⟩
    · exact no 2 e (by omega) (fun b z => a ⟨vN v, by omega, z.2.2.2.2.1 rfl, (iB_v (by decide) b).1⟩)
  · refine sp7_inI (lo := 0) (hi := 400) (by decide) (by decide) (fun a => ⟨by decide, ?_⟩) (fun a => ⟨by decide, ?_⟩)
    · obtain ⟨_, _, a1⟩ := iB_v (by decide) a
      exact mk 3 e (by omega) a ⟨by omega, a1, fun z => by omega, fun z => by omega, fun z => by omega, fun z => by omega, fun z => by omega⟩
    · exact no 3 e (by omega) (fun b z => a b)
  · refine sp7_inI (lo := 0) (hi := 400) (by decide) (by decide) (fun a => ⟨by decide, ?_⟩) (fun a => ⟨by decide, ?_⟩)
    · obtain ⟨_, _, a1⟩ := iB_v (by decide) a
      exact mk 4 e (by omega) a ⟨by omega, a1, fun z => by omega, fun z => by omega, fun z => by omega, fun z => by omega, fun z => by omega⟩
    · exact no 4 e (by omega) (fun b z => a b)
  · obtain ⟨x1, x2, x3⟩ := iB_v (by decide) hx
    have e7 : x - x / 8 * 8 = nI (vN x % 8) := by
      generalize vN x = cl at *
      subst x1
      exact pk_rem (d := 8) (by omega) (by decide) (by decide)
    refine sp7_inI (lo := 1) (hi := 400) (by decide) (by decide) (fun a => ⟨fun z => absurd z (by decide), fun _ => ?_⟩) (fun a => ⟨fun _ => ?_, fun z => absurd rfl z⟩)
    · obtain ⟨_, a1, a2⟩ := iB_v (by decide) a
      rw [e7]
      refine ⟨fun z => no 5 e (by omega) (fun b y => (y.2.2.2.2.2.1 rfl).2 (eqi (b := 7) (by omega) (by decide) z)), fun z => mk 5 e (by omega) (iB_sub a (by omega) (by omega)) ⟨by omega, a2, fun z => by omega, fun z => by omega, fun z => by omega, fun _ => ⟨a1, fun y => z (by rw [y]; rfl)⟩, fun z => by omega⟩⟩
    · exact no 5 e (by omega) (fun b z => a ⟨vN v, (z.2.2.2.2.2.1 rfl).1, z.2.1, (iB_v (by decide) b).1⟩)
  · refine ⟨fun z => no 6 e (by omega) (fun b y => z ?_), fun z => mk 6 e (by omega) ⟨0, by omega, by omega, z⟩ ⟨by omega, by rw [z]; decide, fun z => by omega, fun z => by omega, fun z => by omega, fun z => by omega, fun _ => by rw [z]; decide⟩⟩
    have := (iB_v (by decide) b).1
    rw [y.2.2.2.2.2.2 rfl] at this
    exact this
  · refine h0 (fun r => ?_)
    obtain ⟨n, _, n6, en⟩ := r.2.1
    have : n = 0 ∨ n = 1 ∨ n = 2 ∨ n = 3 ∨ n = 4 ∨ n = 5 ∨ n = 6 := by omega
    rcases this with rfl | rfl | rfl | rfl | rfl | rfl | rfl
    · exact e0 en
    · exact e1 en
    · exact e2 en
    · exact e3 en
    · exact e4 en
    · exact e5 en
    · exact e6 en
theorem sp_addTrace {b : Nat} {x1 x2 x3 : Int32} {s c : Nat → Nat} {M : mM} {Q : Int32 → mM → Prop} (hs : ST M b s c) (w0 : s 0 ≤ 4) (w1 : s 1 ≤ 20) (h : ∀ M', fr M M' b (b + 12) → ST M' b (f_trace x1 x2 x3 s).2 c → Q (f_trace x1 x2 x3 s).1 M') : p_X2_addTrace b x1 x2 x3 M Q := by
  unfold f_trace at h
  have bad : ¬ okT s x1 x2 x3 → Q (-2) M := fun q => by
    rw [pqI_f q] at h
    exact h M fr.rf hs
  refine sp_isCellX (fun a1 => ⟨fun e => absurd e (by decide), fun _ => sp_canTell hs w0 a1 (fun ok => ⟨fun _ => ?_, fun e => absurd e (by decide)⟩) (fun ok => ⟨fun e => absurd rfl e, fun _ => bad ok⟩)⟩) (fun a1 => ⟨fun _ => bad (fun q => a1 q.1), fun e => absurd rfl e⟩)
  rw [pqI_t ok] at h
  obtain ⟨u1, _, _⟩ := iB_v (by decide) a1
  obtain ⟨u2, _, _⟩ := iB_v (by decide) ok.2.1
  obtain ⟨u3, _, _⟩ := iB_v (by decide) ok.2.2.1
  clear ok bad a1
  generalize vN x1 = cl at *
  generalize vN x2 = kd at *
  generalize vN x3 = n at *
  subst u1 u2 u3
  obtain ⟨g1, g2, g3, g4, g5, g6, g7⟩ := hs
  rw [g2]
  refine ⟨fun q => ?_, fun q => ?_⟩
  · have q := lti (b := 20) (by omega) (by decide) q
    rw [pqI_f (by omega)] at h
    have vi : vp_in (nI (s 1)) 20 := vin q (by decide)
    refine ⟨vi, fun M5 e5 => ?_⟩
    have n5 : M5.1 b 12 = nI (s 1) := by rw [e5, mI_o (by omega)]; exact g2
    rw [n5]
    refine ⟨vi, fun M7 e7 => ?_⟩
    have n7 : M7.1 b 12 = nI (s 1) := by rw [e7, mI_o (by omega)]; exact n5
    rw [n7]
    refine ⟨vi, fun M9 e9 => ?_⟩
    have n9 : M9.1 b 12 = nI (s 1) := by rw [e9, mI_o (by omega)]; exact n7
    rw [n9]
    refine ⟨vi, fun M11 e11 => ?_⟩
    have n11 : M11.1 b 12 = nI (s 1) := by rw [e11, mI_o (by omega)]; exact n9
    rw [n11, show nI (s 1) + 1 = nI (s 1 + 1) from nI_add _ 1]
    intro M13 e13
    rw [clp (by omega)] at e5 e7 e9 e11
    have f13 : fr M M13 b (b + 12) := by
      rw [e13, e11, e9, e7, e5]
      exact ((((fr.rf.mI (by omega) (by omega)).mI (by omega) (by omega)).mI (by omega) (by omega)).mI (by omega) (by omega)).mI (by omega) (by omega)
    have z : ∀ q, q ≠ b → q ≠ b + 7 → q ≠ b + 8 → q ≠ b + 9 → q ≠ b + 10 → M13.1 q = M.1 q := fun q z0 z1 z2 z3 z4 => by rw [e13, mI_n z0, e11, mI_n z4, e9, mI_n z3, e7, mI_n z2, e5, mI_n z1]
    have c0 : M13.1 b = upd (M.1 b) 12 (nI (s 1 + 1)) := by rw [e13, mI_s, e11, mI_n (by omega), e9, mI_n (by omega), e7, mI_n (by omega), e5, mI_n (by omega)]
    have c1 : M13.1 (b + 7) = upd (M.1 (b + 7)) (s 1) (nI cl) := by rw [e13, mI_n (by omega), e11, mI_n (by omega), e9, mI_n (by omega), e7, mI_n (by omega), e5, mI_s]
    have c2 : M13.1 (b + 8) = upd (M.1 (b + 8)) (s 1) (nI kd) := by rw [e13, mI_n (by omega), e11, mI_n (by omega), e9, mI_n (by omega), e7, mI_s, e5, mI_n (by omega)]
    have c3 : M13.1 (b + 9) = upd (M.1 (b + 9)) (s 1) (nI n) := by rw [e13, mI_n (by omega), e11, mI_n (by omega), e9, mI_s, e7, mI_n (by omega), e5, mI_n (by omega)]
    have c4 : M13.1 (b + 10) = upd (M.1 (b + 10)) (s 1) 0 := by rw [e13, mI_n (by omega), e11, mI_s, e9, mI_n (by omega), e7, mI_n (by omega), e5, mI_n (by omega)]
    obtain ⟨k0, k1, k2, k3, k4⟩ := sTr_n (s := s) (cl := cl) (kd := kd) (n := n)
    refine h M13 f13 ⟨?_, ?_, fun i hi => ?_, fun k hk => ?_, fun a ha => ?_, fun u hu => ?_, fun k hk => ?_⟩
    · show M13.1 b 11 = nI (sTr s cl kd n 0)
      rw [c0, updN (by decide), sTr_o (by omega) (by omega)]; exact g1
    · show M13.1 b 12 = nI (sTr s cl kd n 1)
      rw [c0, updS, k0]
    · show M13.1 (b + 5) i = nI (sTr s cl kd n (2 + i))
      rw [z _ (by omega) (by omega) (by omega) (by omega) (by omega), sTr_o (by omega) (by omega)]; exact g3 i hi
    · show M13.1 (b + 6) k = nI (sTr s cl kd n (10 + k))
      rw [z _ (by omega) (by omega) (by omega) (by omega) (by omega), sTr_o (by omega) (by omega)]; exact g4 k hk
    · show stS M13 b (sTr s cl kd n) a
      have ha : a < sTr s cl kd n 0 := ha
      rw [sTr_o (by omega) (by omega)] at ha
      unfold stS
      rw [z _ (by omega) (by omega) (by omega) (by omega) (by omega), z _ (by omega) (by omega) (by omega) (by omega) (by omega), z _ (by omega) (by omega) (by omega) (by omega) (by omega), z _ (by omega) (by omega) (by omega) (by omega) (by omega), sTr_o (by omega) (by omega), sTr_o (by omega) (by omega), sTr_o (by omega) (by omega), sTr_o (by omega) (by omega)]
      exact g5 a ha
    · show stT M13 b (sTr s cl kd n) u
      have hu : u < sTr s cl kd n 1 := hu
      rw [k0] at hu
      unfold stT
      rw [c1, c2, c3, c4]
      by_cases y : u = s 1
      · subst y
        rw [updS, updS, updS, updS, k1, k2, k3, k4]
        exact ⟨rfl, rfl, rfl, rfl⟩
      · rw [updN y, updN y, updN y, updN y, sTr_o (by omega) (by omega), sTr_o (by omega) (by omega), sTr_o (by omega) (by omega), sTr_o (by omega) (by omega)]
        exact g6 u (by omega)
    · rw [z _ (by omega) (by omega) (by omega) (by omega) (by omega)]; exact g7 k hk
  · have q := nlti (b := 20) (by omega) (by decide) q
    rw [pqI_t (by omega)] at h
    exact h M fr.rf ⟨g1, g2, g3, g4, g5, g6, g7⟩
theorem sp7_trace {m : Nat} {x1 x2 x3 : Int32} {s c : Nat → Nat} {M : mM} {Q : Int32 → mM → Prop} (hs : BK M m s c) (w0 : s 0 ≤ 4) (w1 : s 1 ≤ 20) (h : okT s x1 x2 x3 → s 1 ≠ 20 → ∀ M', fq M M' (bkS m) → BK M' m (f_trace x1 x2 x3 s).2 c → Q (f_trace x1 x2 x3 s).1 M') (hb : ¬ okT s x1 x2 x3 → p_X7_bad m M Q) (hf : okT s x1 x2 x3 → s 1 = 20 → p_X7_full m M Q) : p_X7_trace m x1 x2 x3 M Q := by
  unfold f_trace at h
  refine sp7_isCellX (fun a1 => ⟨fun e => absurd e (by decide), fun _ => sp7_isTraceX hs w0 a1 (fun ok => ⟨fun _ => ?_, fun e => absurd e (by decide)⟩) (fun ok => ⟨fun e => absurd rfl e, fun _ => hb ok⟩)⟩) (fun a1 => ⟨fun _ => hb (fun q => a1 q.1), fun e => absurd rfl e⟩)
  replace h := h ok
  replace hf := hf ok
  rw [pqI_t ok] at h
  obtain ⟨u1, _, _⟩ := iB_v (by decide) a1
  obtain ⟨u2, _, _⟩ := iB_v (by decide) ok.2.1
  obtain ⟨u3, _, _⟩ := iB_v (by decide) ok.2.2.1
  clear ok hb a1
  generalize vN x1 = t at *
  generalize vN x2 = p at *
  generalize vN x3 = g at *
  subst u1 u2 u3
  rw [show M.1 (m + 1) (1 : Int32).toNatClampNeg = nI (s 1) from hs.1 1 (by decide)]
  refine ⟨fun q => ?_, fun q => hf (eqi (b := 20) (by omega) (by decide) q)⟩
  have q : s 1 ≠ 20 := fun e => q (by rw [e]; rfl)
  replace h := h q
  rw [pqI_f q] at h
  intro x11 e11
  have e11 : x11 = nI (60 + 4 * s 1) := by rw [e11, show (4 : Int32) * nI (s 1) = nI (4 * s 1) from pk_mul 4 _, show (60 : Int32) + nI (4 * s 1) = nI (60 + 4 * s 1) from nI_add 60 _]
  subst e11
  rw [show nI (60 + 4 * s 1) + 1 = nI (61 + 4 * s 1) from by rw [show nI (60 + 4 * s 1) + 1 = nI (60 + 4 * s 1 + 1) from nI_add _ 1]; congr 1; omega, show nI (60 + 4 * s 1) + 2 = nI (62 + 4 * s 1) from by rw [show nI (60 + 4 * s 1) + 2 = nI (60 + 4 * s 1 + 2) from nI_add _ 2]; congr 1; omega, show nI (60 + 4 * s 1) + 3 = nI (63 + 4 * s 1) from by rw [show nI (60 + 4 * s 1) + 3 = nI (60 + 4 * s 1 + 3) from nI_add _ 3]; congr 1; omega]
  rw [clp (by omega), clp (by omega), clp (by omega), clp (by omega)]
  refine ⟨vin (by omega) (by decide), fun M12 e12 => ?_⟩
  have b1 : BK M12 m (up s (60 + 4 * s 1) t) c := by rw [e12]; exact BK.up hs (by omega)
  have f1 : fq M M12 (bkS m) := by rw [e12]; exact fq.rf.mI rfl
  refine ⟨vin (by omega) (by decide), fun M14 e14 => ?_⟩
  have b2 : BK M14 m (up (up s (60 + 4 * s 1) t) (61 + 4 * s 1) p) c := by rw [e14]; exact BK.up b1 (by omega)
  have f2 : fq M M14 (bkS m) := by rw [e14]; exact f1.mI rfl
  refine ⟨vin (by omega) (by decide), fun M16 e16 => ?_⟩
  have b3 : BK M16 m (up (up (up s (60 + 4 * s 1) t) (61 + 4 * s 1) p) (62 + 4 * s 1) g) c := by rw [e16]; exact BK.up b2 (by omega)
  have f3 : fq M M16 (bkS m) := by rw [e16]; exact f2.mI rfl
  refine ⟨vin (by omega) (by decide), fun M18 e18 => ?_⟩
  have b4 : BK M18 m (up (up (up (up s (60 + 4 * s 1) t) (61 + 4 * s 1) p) (62 + 4 * s 1) g) (63 + 4 * s 1) 0) c := by rw [e18]; exact BK.up (v := 0) b3 (by omega)
  have f4 : fq M M18 (bkS m) := by rw [e18]; exact f3.mI rfl
  have z4 := b4.1 1 (by decide)
  rw [upN (by omega), upN (by omega), upN (by omega), upN (by omega)] at z4
  intro M20 e20
  rw [show (1 : Int32).toNatClampNeg = 1 from rfl, z4, show nI (s 1) + 1 = nI (s 1 + 1) from nI_add _ 1] at e20
  have b5 : BK M20 m (sTr s t p g) c := by rw [e20]; exact BK.up b4 (by decide)
  have f5 : fq M M20 (bkS m) := by rw [e20]; exact f4.mI rfl
  have z5 := b5.1 1 (by decide)
  rw [sTr_n.1] at z5
  rw [show (1 : Int32).toNatClampNeg = 1 from rfl, z5, show nI (s 1 + 1) - 1 = nI (s 1) from pk_sub (a := s 1 + 1) (b := 1) (by omega)]
  exact h M20 f5 b5
