/-! the row tells an item in silence -/
theorem upd_id {f : Nat → Int32} {k : Nat} : upd f k (f k + 0) = f := by
  funext j
  unfold upd
  split
  · rename_i e; rw [e, Int32.add_zero]
  · rfl
theorem mI_id {M : mM} {k : Nat} : mI M k (M.1 k) = M := by
  unfold mI
  refine Prod.ext ?_ rfl
  funext q
  show (if q = k then M.1 k else M.1 q) = M.1 q
  split
  · rename_i e; rw [e]
  · rfl
theorem sp7_still {m k : Nat} {x : Int32} {M : mM} {Q : Int32 → mM → Prop} (hk : k < 3) (hq : M.1 m 5 = 1) (h : Q x M) : p_X7_refuses m (nI k) x M Q := by
  unfold p_X7_refuses
  rw [hq, clp (show k < 2147483648 by omega)]
  refine ⟨vin hk (by decide), fun q => absurd q (by decide), fun _ => ⟨vin hk (by decide), ?_⟩⟩
  rintro M4 rfl
  rw [upd_id, mI_id]
  exact h
/-- what the teller asks of an answer -/
def qA (Q : Int32 → mM → Prop) (r : Int32) (M : mM) : Prop := (r < 0 → Q 0 M) ∧ (¬ r < 0 → Q 1 M)
theorem tok_n {n : Nat} (h : n < 1000) : tokR (nI n) ∧ ¬ nI n < 0 := by
  refine ⟨fun q => ?_, fun q => ?_⟩
  · rw [jI_n, show (-1 : Int32) = jI (-1) from rfl, jI_lt (by omega) (by omega) (by decide) (by decide)] at q
    omega
  · exact absurd (lti (b := 0) (by omega) (by decide) q) (by omega)
theorem tok_o {n : Nat} (h : n < 1000) : tokR (oI n) ∧ ¬ oI n = -10 := by
  refine ⟨fun q => ?_, fun q => ?_⟩
  · rw [oI, show (-1 : Int32) = jI (-1) from rfl, jI_lt (by omega) (by omega) (by decide) (by decide)] at q
    omega
  · rw [oI, show (-10 : Int32) = jI (-10) from rfl, jI_eq (by omega) (by omega) (by decide) (by decide)] at q
    omega
theorem tok_b : ¬ tokR (-2) := fun q => q (by decide)
theorem tok_f : ¬ tokR (-4) := fun q => q (by decide)
theorem tok_c : ¬ tokR (-10) := fun q => q (by decide)
theorem q_stuff {m : Nat} {x1 x2 x3 x4 : Int32} {s c : Nat → Nat} {M : mM} {Q : Int32 → mM → Prop} (hs : BK M m s c) (w : WF s c) (hq : M.1 m 5 = 1) (h1 : tokR (f_stuff x1 x2 x3 x4 s).1 → ∀ M', fq M M' (bkS m) → BK M' m (f_stuff x1 x2 x3 x4 s).2 c → Q 1 M') (h0 : ¬ tokR (f_stuff x1 x2 x3 x4 s).1 → ∀ M', fq M M' (bkS m) → Q 0 M') : p_X7_stuff m x1 x2 x3 x4 M (qA Q) := by
  have w0 := w.1
  refine sp7_stuff hs w0 (fun ok ne M1 f1 b1 => ?_) (fun ok => sp7_still (k := 0) (by decide) hq ?_) (fun ok z => sp7_still (k := 2) (by decide) hq ?_)
  · have en : f_stuff x1 x2 x3 x4 s = (nI (s 0), sSt s (vN x1) (vN x2) (vN x3) (vN x4)) := by unfold f_stuff; rw [pqI_t ok, pqI_f ne]
    rw [en] at b1 h1 ⊢
    have t := tok_n (n := s 0) (by omega)
    exact ⟨fun e => absurd e t.2, fun _ => h1 t.1 M1 f1 b1⟩
  · have en : f_stuff x1 x2 x3 x4 s = (-2, s) := by unfold f_stuff; rw [pqI_f ok]
    rw [en] at h0
    exact ⟨fun _ => h0 tok_b M fq.rf, fun e => absurd (by decide) e⟩
  · have en : f_stuff x1 x2 x3 x4 s = (-4, s) := by unfold f_stuff; rw [pqI_t ok, pqI_t z]
    rw [en] at h0
    exact ⟨fun _ => h0 tok_f M fq.rf, fun e => absurd (by decide) e⟩
theorem q_put {m : Nat} {x y : Int32} {s c : Nat → Nat} {M : mM} {Q : Int32 → mM → Prop} (hs : BK M m s c) (w : WF s c) (hq : M.1 m 5 = 1) (h1 : tokR (f_put x y s).1 → ∀ M', fq M M' (bkS m) → BK M' m (f_put x y s).2 c → Q 1 M') (h0 : ¬ tokR (f_put x y s).1 → ∀ M', fq M M' (bkS m) → Q 0 M') : p_X7_put m x y M (qA Q) := by
  refine sp7_put hs (fun ok M1 f1 b1 => ?_) (fun ok => sp7_still (k := 0) (by decide) hq ?_)
  · obtain ⟨_, _, v1⟩ := iB_v (by decide) ok.1
    have v := wf_s w v1
    have en : f_put x y s = (nI (s (2 + vN x)), up s (2 + vN x) (vN y)) := by unfold f_put; rw [pqI_t ok]
    rw [en] at b1 h1 ⊢
    have t := tok_n (n := s (2 + vN x)) (by omega)
    exact ⟨fun e => absurd e t.2, fun _ => h1 t.1 M1 f1 b1⟩
  · have en : f_put x y s = (-2, s) := by unfold f_put; rw [pqI_f ok]
    rw [en] at h0
    exact ⟨fun _ => h0 tok_b M fq.rf, fun e => absurd (by decide) e⟩
theorem q_habit {m : Nat} {x y : Int32} {s c : Nat → Nat} {M : mM} {Q : Int32 → mM → Prop} (hs : BK M m s c) (w : WF s c) (hq : M.1 m 5 = 1) (h1 : tokR (f_habit x y s).1 → ∀ M', fq M M' (bkS m) → BK M' m (f_habit x y s).2 c → Q 1 M') (h0 : ¬ tokR (f_habit x y s).1 → ∀ M', fq M M' (bkS m) → Q 0 M') : p_X7_habit m x y M (qA Q) := by
  refine sp7_habit_ hs (fun ok M1 f1 b1 => ?_) (fun ok => sp7_still (k := 0) (by decide) hq ?_)
  · obtain ⟨_, _, v1⟩ := iB_v (by decide) ok.1
    have v := w.hb (vN x) (by omega)
    have en : f_habit x y s = (nI (s (10 + vN x)), up s (10 + vN x) (vN y)) := by unfold f_habit; rw [pqI_t ok]
    rw [en] at b1 h1 ⊢
    have t := tok_n (n := s (10 + vN x)) (by omega)
    exact ⟨fun e => absurd e t.2, fun _ => h1 t.1 M1 f1 b1⟩
  · have en : f_habit x y s = (-2, s) := by unfold f_habit; rw [pqI_f ok]
    rw [en] at h0
    exact ⟨fun _ => h0 tok_b M fq.rf, fun e => absurd (by decide) e⟩
theorem q_trace {m : Nat} {x1 x2 x3 : Int32} {s c : Nat → Nat} {M : mM} {Q : Int32 → mM → Prop} (hs : BK M m s c) (w : WF s c) (hq : M.1 m 5 = 1) (h1 : tokR (f_trace x1 x2 x3 s).1 → ∀ M', fq M M' (bkS m) → BK M' m (f_trace x1 x2 x3 s).2 c → Q 1 M') (h0 : ¬ tokR (f_trace x1 x2 x3 s).1 → ∀ M', fq M M' (bkS m) → Q 0 M') : p_X7_trace m x1 x2 x3 M (qA Q) := by
  have w0 := w.1
  have w1 := w.2.1
  refine sp7_trace hs w0 w1 (fun ok ne M1 f1 b1 => ?_) (fun ok => sp7_still (k := 0) (by decide) hq ?_) (fun ok z => sp7_still (k := 2) (by decide) hq ?_)
  · have en : f_trace x1 x2 x3 s = (nI (s 1), sTr s (vN x1) (vN x2) (vN x3)) := by unfold f_trace; rw [pqI_t ok, pqI_f ne]
    rw [en] at b1 h1 ⊢
    have t := tok_n (n := s 1) (by omega)
    exact ⟨fun e => absurd e t.2, fun _ => h1 t.1 M1 f1 b1⟩
  · have en : f_trace x1 x2 x3 s = (-2, s) := by unfold f_trace; rw [pqI_f ok]
    rw [en] at h0
    exact ⟨fun _ => h0 tok_b M fq.rf, fun e => absurd (by decide) e⟩
  · have en : f_trace x1 x2 x3 s = (-4, s) := by unfold f_trace; rw [pqI_t ok, pqI_t z]
    rw [en] at h0
    exact ⟨fun _ => h0 tok_f M fq.rf, fun e => absurd (by decide) e⟩
theorem q_copy {m : Nat} {x y : Int32} {s c : Nat → Nat} {M : mM} {Q : Int32 → mM → Prop} (hs : BK M m s c) (w : WF s c) (hq : M.1 m 5 = 1) (h1 : tokR (f_copy x y s c).1 → ∀ M', fq M M' (bkS m) → BK M' m s (f_copy x y s c).2 → Q 1 M') (h0 : ¬ tokR (f_copy x y s c).1 → ∀ M', fq M M' (bkS m) → Q 0 M') : p_X7_copy m x y M (fun r M' => (r = -10 → Q 0 M') ∧ (¬ r = -10 → Q 1 M')) := by
  have w0 := w.1
  refine sp7_copy hs w0 (fun ok M1 f1 b1 => ?_) (fun ok => sp7_still (k := 0) (by decide) hq ?_)
  · obtain ⟨_, _, v1⟩ := iB_v (by decide) ok.1
    have cv := w.cp (vN x) (by omega)
    have en : f_copy x y s c = (oI (c (vN x)), up c (vN x) (aNo y)) := by unfold f_copy; rw [pqI_t ok]
    rw [en] at b1 h1 ⊢
    have t := tok_o (n := c (vN x)) (by omega)
    exact ⟨fun e => absurd e t.2, fun _ => h1 t.1 M1 f1 b1⟩
  · have en : f_copy x y s c = (-10, c) := by unfold f_copy; rw [pqI_f ok]
    rw [en] at h0
    exact ⟨fun _ => h0 tok_c M fq.rf, fun e => absurd rfl e⟩
theorem mC_v : ∀ k, k < 14 → mC k = [20, 21, 22, 23, 24, 25, 10, 11, 12, 13, 14, 15, 16, 26].getD k 0 := fun _ _ => rfl
theorem sp7_tellsItem {m n wd : Nat} {nm : Nat → Nat} {x : zX} {M : mM} {Q : Int32 → mM → Prop} (hs : BK M m x.1 x.2) (w : WF x.1 x.2) (hq : M.1 m 5 = 1) (hi : n < 300) (hwd : wd < 14) (hv : M.1 (m + 9) n = nI (mC wd)) (hn : ∀ j, j < nmb wd → M.1 (m + 10) (4 * n + j) = nI (nm j)) (hl : ∀ j, nm j < 1000) (h1 : tokR (tI wd nm x).1 → ∀ M', fq M M' (bkS m) → BK M' m (tI wd nm x).2.1 (tI wd nm x).2.2 → Q 1 M') (h0 : ¬ tokR (tI wd nm x).1 → ∀ M', fq M M' (bkS m) → Q 0 M') : p_X7_tellsItem m (nI n) M Q := by
  have mb := mC_b wd hwd
  have e : ∀ c : Nat, c < 1000 → (nI (mC wd) = nI c → mC wd = c) := fun c hc q => eqi (by omega) (by omega) q
  unfold tI at h1 h0
  unfold p_X7_tellsItem
  rw [show (4 : Int32) * nI n = nI (4 * n) from pk_mul 4 n, show nI (4 * n) + 1 = nI (4 * n + 1) from nI_add _ 1, show nI (4 * n) + 2 = nI (4 * n + 2) from nI_add _ 2, show nI (4 * n) + 3 = nI (4 * n + 3) from nI_add _ 3, clp (i := 4 * n) (by omega), clp (i := 4 * n + 1) (by omega), clp (i := 4 * n + 2) (by omega), clp (i := 4 * n + 3) (by omega), clp (i := n) (by omega), hv]
  refine ⟨vin (by omega) (by decide), ?_⟩
  intro x2 e2
  refine ⟨vin (by omega) (by decide), ?_⟩
  intro x4 e4
  have p1 := (nmb_b wd hwd).1
  have v0 : x2 = nI (nm 0) := by rw [e2]; exact hn 0 (by omega)
  have l0 := hl 0
  have wk : ∀ c d : Nat, (∀ k, k < 14 → mC k = c → k = d) → mC wd = c → wd = d := fun c d hc q => hc wd hwd q
  refine ⟨vin hi (by decide), fun q => ?_, fun q => ?_, fun q => ?_, fun q => ?_, fun q => ?_, fun q => ?_, fun q => ?_, fun q0 q1 q2 q3 q4 q5 q13 => ?_⟩
  · have q := wk 20 0 (by decide) (e 20 (by decide) q)
    subst q
    refine ⟨vin (by omega) (by decide), vin (by omega) (by decide), ?_⟩
    rw [if_pos rfl] at h1 h0
    rw [v0, show x4 = nI (nm 1) from by rw [e4]; exact hn 1 (by decide), show M.1 (m + 10) (4 * n + 2) = nI (nm 2) from hn 2 (by decide), show M.1 (m + 10) (4 * n + 3) = nI (nm 3) from hn 3 (by decide)]
    exact q_stuff hs w hq h1 h0
  · have q := wk 21 1 (by decide) (e 21 (by decide) q)
    subst q
    rw [if_neg (by decide), if_pos rfl] at h1 h0
    rw [v0, show x4 = nI (nm 1) from by rw [e4]; exact hn 1 (by decide)]
    refine ⟨fun z => ?_, fun z => ?_⟩
    · have z := lei (a := 4) (by decide) (by omega) z
      rw [if_neg (by omega)] at h0
      exact h0 tok_b M fq.rf
    · have z := nlei (a := 4) (by decide) (by omega) z
      rw [if_pos z] at h1 h0
      exact q_put hs w hq h1 h0
  · have q := wk 22 2 (by decide) (e 22 (by decide) q)
    subst q
    rw [if_neg (by decide), if_neg (by decide), if_pos rfl] at h1 h0
    rw [v0]
    exact q_put hs w hq h1 h0
  · have q := wk 23 3 (by decide) (e 23 (by decide) q)
    subst q
    rw [if_neg (by decide), if_neg (by decide), if_neg (by decide), if_pos rfl] at h1 h0
    rw [v0]
    exact q_put hs w hq h1 h0
  · have q := wk 24 4 (by decide) (e 24 (by decide) q)
    subst q
    rw [if_neg (by decide), if_neg (by decide), if_neg (by decide), if_neg (by decide), if_pos rfl] at h1 h0
    rw [v0]
    exact q_put hs w hq h1 h0
  · have q := wk 25 5 (by decide) (e 25 (by decide) q)
    subst q
    rw [if_neg (by decide), if_neg (by decide), if_neg (by decide), if_neg (by decide), if_neg (by decide), if_pos rfl] at h1 h0
    rw [v0, show x4 = nI (nm 1) from by rw [e4]; exact hn 1 (by decide)]
    exact q_habit hs w hq h1 h0
  · have q := wk 26 13 (by decide) (e 26 (by decide) q)
    subst q
    rw [if_neg (by decide), if_neg (by decide), if_neg (by decide), if_neg (by decide), if_neg (by decide), if_neg (by decide), if_neg (by decide), if_pos rfl] at h1 h0
    rw [v0, show x4 = nI (nm 1) from by rw [e4]; exact hn 1 (by decide)]
    exact q_copy hs w hq h1 h0
  · refine ⟨vin hi (by decide), vin hi (by decide), ?_⟩
    have ne : ∀ c d : Nat, ¬ nI (mC wd) = nI d → mC c = d → wd ≠ c := fun c d y z r => y (by rw [r, z])
    have r0 := ne 0 20 q0 rfl
    have r1 := ne 1 21 q1 rfl
    have r2 := ne 2 22 q2 rfl
    have r3 := ne 3 23 q3 rfl
    have r4 := ne 4 24 q4 rfl
    have r5 := ne 5 25 q5 rfl
    have r13 := ne 13 26 q13 rfl
    rw [if_neg r0, if_neg r1, if_neg r2, if_neg r3, if_neg r4, if_neg r5] at h1 h0
    have hm : mC wd = wd + 4 := by
      have : ∀ k, k < 14 → (k ≠ 0 ∧ k ≠ 1 ∧ k ≠ 2 ∧ k ≠ 3 ∧ k ≠ 4 ∧ k ≠ 5 ∧ k ≠ 13) → mC k = k + 4 := by decide
      exact this wd hwd ⟨r0, r1, r2, r3, r4, r5, r13⟩
    rw [hm, v0, show nI (wd + 4) - 10 = nI (wd - 6) from by
      rw [show nI (wd + 4) - 10 = nI (wd + 4 - 10) from pk_sub (b := 10) (by omega), show wd + 4 - 10 = wd - 6 by omega]]
    refine ⟨fun y => ?_, fun y => ?_⟩
    · have y : wd ≠ 12 := fun r => y (by rw [r]; rfl)
      rw [if_neg y, if_neg r13] at h1 h0
      have nm2 : nmb wd = 2 := by
        have : ∀ k, k < 14 → (k ≠ 0 ∧ k ≠ 1 ∧ k ≠ 2 ∧ k ≠ 3 ∧ k ≠ 4 ∧ k ≠ 5 ∧ k ≠ 13 ∧ k ≠ 12) → nmb k = 2 := by decide
        exact this wd hwd ⟨r0, r1, r2, r3, r4, r5, r13, y⟩
      rw [show x4 = nI (nm 1) from by rw [e4]; exact hn 1 (by omega)]
      exact q_trace hs w hq h1 h0
    · have y := eqi (b := 16) (by omega) (by decide) y
      have y : wd = 12 := by omega
      subst y
      rw [if_pos rfl] at h1 h0
      exact q_trace hs w hq h1 h0
