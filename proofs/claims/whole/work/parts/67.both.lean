/-! the small operations of both -/
theorem SW_st {S : zS} {s c : Nat → Nat} (h : SW S) (w : WF s c) : SW (zSt S s c) := ⟨w, h.2⟩
theorem SW_rf {S : zS} {k : Nat} (h : SW S) : SW (zRf S k) := h
theorem SW_fc {S : zS} {n d : Nat} (h : SW S) : SW (zFr S n d) := h
theorem SW_tld {S : zS} {r : Int32} (h : SW S) : SW (tld S r) := by
  unfold tld
  split
  · exact h
  · split
    · exact h
    · split
      · exact h
      · exact h
/-- of an answer and a new statue -/
def opF (S : zS) (y : Int32 × (Nat → Nat)) : Int32 × zS := (y.1, tld (zSt S y.2 (zc S)) y.1)
theorem zSt_id (S : zS) : zSt S (zs S) (zc S) = S := rfl
theorem opF_n {S : zS} {n : Nat} {s : Nat → Nat} (h : n < 2147483648) : opF S (nI n, s) = (nI n, zSt S s (zc S)) := by
  unfold opF
  rw [tld_n h]
theorem frC {M M' : mM} {g : Nat} (f : fr M M' (g + 1) (g + 1 + 12)) : fr M M' (g + 1) (g + 13) := f
theorem bo_stuff {g m : Nat} {S : zS} (x1 x2 x3 x4 : Int32) : BO g m S (opF S (f_stuff x1 x2 x3 x4 (zs S))) (fun M Q => p_X6_stuff g x1 x2 x3 x4 M Q) (fun M Q => p_X7_stuff m x1 x2 x3 x4 M Q) := by
  intro hS
  refine ⟨SW_tld (SW_st hS (WF_stuff hS.1)), fun M Q hC h => ?_, fun M Q hM h => ?_⟩
  · exact sp_addStuff hC.1 hS.1.1 (fun M1 f1 s1 => sp_told (CR_st hC f1 s1) (fun M2 f2 c2 => h M2 ((f1.wd (by omega) (by omega)).tr f2) c2))
  · have e2 : ¬ okS x1 x2 x3 x4 → opF S (f_stuff x1 x2 x3 x4 (zs S)) = (-2, tld S (-2)) := fun q => by unfold f_stuff; rw [pqI_f q]; rfl
    have e4 : okS x1 x2 x3 x4 → zs S 0 = 4 → opF S (f_stuff x1 x2 x3 x4 (zs S)) = (-4, tld S (-4)) := fun q z => by unfold f_stuff; rw [pqI_t q, pqI_t z]; rfl
    refine sp7_stuff hM.1 hS.1.1 (fun ok ne M1 f1 b1 => h M1 (bkS.fr f1) ?_) (fun ok => ?_) (fun ok z => ?_)
    · have w0 := hS.1.1
      have en : f_stuff x1 x2 x3 x4 (zs S) = (nI (zs S 0), sSt (zs S) (vN x1) (vN x2) (vN x3) (vN x4)) := by unfold f_stuff; rw [pqI_t ok, pqI_f ne]
      rw [en] at b1 ⊢
      rw [opF_n (by omega)]
      exact MR_bk hM f1 b1
    · rw [e2 ok] at h; exact sp7_badR hM h
    · rw [e4 ok z] at h; exact sp7_fullR hM h
theorem wf_s {s c : Nat → Nat} (w : WF s c) {n : Nat} (h : n ≤ 6) : s (2 + n) ≤ 60 := by
  have : n < 4 ∨ n = 4 ∨ n = 5 ∨ n = 6 := by omega
  rcases this with z | rfl | rfl | rfl
  · have := w.rn n z; omega
  · exact w.yr
  · have := w.tn; show s 7 ≤ 60; omega
  · have := w.lk; show s 8 ≤ 60; omega
theorem bo_put {g m : Nat} {S : zS} (x1 x2 : Int32) : BO g m S (opF S (f_put x1 x2 (zs S))) (fun M Q => p_X6_put g x1 x2 M Q) (fun M Q => p_X7_put m x1 x2 M Q) := by
  intro hS
  refine ⟨SW_tld (SW_st hS (WF_put hS.1)), fun M Q hC h => ?_, fun M Q hM h => ?_⟩
  · exact sp_set_ hC.1 (fun M1 f1 s1 => sp_told (CR_st hC f1 s1) (fun M2 f2 c2 => h M2 ((f1.wd (by omega) (by omega)).tr f2) c2))
  · refine sp7_put hM.1 (fun ok M1 f1 b1 => h M1 (bkS.fr f1) ?_) (fun ok => ?_)
    · obtain ⟨_, _, v1⟩ := iB_v (by decide) ok.1
      have := wf_s hS.1 v1
      have en : f_put x1 x2 (zs S) = (nI (zs S (2 + vN x1)), up (zs S) (2 + vN x1) (vN x2)) := by unfold f_put; rw [pqI_t ok]
      rw [en] at b1 ⊢
      rw [opF_n (by omega)]
      exact MR_bk hM f1 b1
    · have e2 : opF S (f_put x1 x2 (zs S)) = (-2, tld S (-2)) := by unfold f_put; rw [pqI_f ok]; rfl
      rw [e2] at h; exact sp7_badR hM h
theorem bo_habit {g m : Nat} {S : zS} (x1 x2 : Int32) : BO g m S (opF S (f_habit x1 x2 (zs S))) (fun M Q => p_X6_habit g x1 x2 M Q) (fun M Q => p_X7_habit m x1 x2 M Q) := by
  intro hS
  refine ⟨SW_tld (SW_st hS (WF_habit hS.1)), fun M Q hC h => ?_, fun M Q hM h => ?_⟩
  · exact sp_habit_ hC.1 (fun M1 f1 s1 => sp_told (CR_st hC f1 s1) (fun M2 f2 c2 => h M2 ((f1.wd (by omega) (by omega)).tr f2) c2))
  · refine sp7_habit_ hM.1 (fun ok M1 f1 b1 => h M1 (bkS.fr f1) ?_) (fun ok => ?_)
    · obtain ⟨_, _, v1⟩ := iB_v (by decide) ok.1
      have := hS.1.hb (vN x1) (by omega)
      have en : f_habit x1 x2 (zs S) = (nI (zs S (10 + vN x1)), up (zs S) (10 + vN x1) (vN x2)) := by unfold f_habit; rw [pqI_t ok]
      rw [en] at b1 ⊢
      rw [opF_n (by omega)]
      exact MR_bk hM f1 b1
    · have e2 : opF S (f_habit x1 x2 (zs S)) = (-2, tld S (-2)) := by unfold f_habit; rw [pqI_f ok]; rfl
      rw [e2] at h; exact sp7_badR hM h
theorem bo_trace {g m : Nat} {S : zS} (x1 x2 x3 : Int32) : BO g m S (opF S (f_trace x1 x2 x3 (zs S))) (fun M Q => p_X6_trace g x1 x2 x3 M Q) (fun M Q => p_X7_trace m x1 x2 x3 M Q) := by
  intro hS
  have w1 := hS.1.2.1
  refine ⟨SW_tld (SW_st hS (WF_trace hS.1)), fun M Q hC h => ?_, fun M Q hM h => ?_⟩
  · exact sp_addTrace hC.1 hS.1.1 w1 (fun M1 f1 s1 => sp_told (CR_st hC f1 s1) (fun M2 f2 c2 => h M2 ((f1.wd (by omega) (by omega)).tr f2) c2))
  · refine sp7_trace hM.1 hS.1.1 w1 (fun ok ne M1 f1 b1 => h M1 (bkS.fr f1) ?_) (fun ok => ?_) (fun ok z => ?_)
    · have en : f_trace x1 x2 x3 (zs S) = (nI (zs S 1), sTr (zs S) (vN x1) (vN x2) (vN x3)) := by unfold f_trace; rw [pqI_t ok, pqI_f ne]
      rw [en] at b1 ⊢
      rw [opF_n (by omega)]
      exact MR_bk hM f1 b1
    · have e2 : opF S (f_trace x1 x2 x3 (zs S)) = (-2, tld S (-2)) := by unfold f_trace; rw [pqI_f ok]; rfl
      rw [e2] at h; exact sp7_badR hM h
    · have e4 : opF S (f_trace x1 x2 x3 (zs S)) = (-4, tld S (-4)) := by unfold f_trace; rw [pqI_t ok, pqI_t z]; rfl
      rw [e4] at h; exact sp7_fullR hM h
theorem bo_aside {g m p : Nat} {S : zS} (x : Int32) (hp : p ≤ 1) : BO g m S (opF S (f_aside x p (zs S))) (fun M Q => p_X6_aside g x (nI p) M Q) (fun M Q => p_X7_aside m x (nI p) M Q) := by
  intro hS
  refine ⟨SW_tld (SW_st hS (WF_aside hS.1 hp)), fun M Q hC h => ?_, fun M Q hM h => ?_⟩
  · exact sp_setAside hC.1 hS.1 hp (fun M1 f1 s1 => sp_told (CR_st hC f1 s1) (fun M2 f2 c2 => h M2 ((f1.wd (by omega) (by omega)).tr f2) c2))
  · refine sp7_aside hM.1 hS.1 hp (fun ok ne M1 f1 b1 => h M1 (bkS.fr f1) ?_) (fun ok => ?_) (fun ok z => ?_)
    · have en : f_aside x p (zs S) = (nI 1, up (zs S) (63 + 4 * vN x) p) := by unfold f_aside; rw [pqI_t ok, pqI_f ne]; rfl
      rw [en] at b1 ⊢
      rw [opF_n (by omega)]
      exact MR_bk hM f1 b1
    · have e2 : opF S (f_aside x p (zs S)) = (-2, tld S (-2)) := by unfold f_aside; rw [pqI_f ok]; rfl
      rw [e2] at h; exact sp7_badR hM h
    · have e3 : opF S (f_aside x p (zs S)) = (-3, tld S (-3)) := by unfold f_aside; rw [pqI_t ok, pqI_t z]; rfl
      rw [e3] at h; exact sp7_noR hM h
noncomputable def F_copy (x y : Int32) (S : zS) : Int32 × zS := pqI (okC (zs S) x y) (oI (zc S (vN x)), zSt S (zs S) (up (zc S) (vN x) (aNo y))) (-10, zRf S 0)
theorem bo_copy {g m : Nat} {S : zS} (x y : Int32) : BO g m S (F_copy x y S) (fun M Q => p_X6_copy g x y M Q) (fun M Q => p_X7_copy m x y M Q) := by
  intro hS
  have w0 := hS.1.1
  have wc := WF_copy (x := x) (y := y) hS.1
  unfold f_copy at wc
  unfold F_copy
  by_cases ok : okC (zs S) x y
  · rw [pqI_t ok] at wc ⊢
    obtain ⟨_, _, v1⟩ := iB_v (by decide) ok.1
    have cv := hS.1.cp (vN x) (by omega)
    refine ⟨SW_st hS wc, fun M Q hC h => ?_, fun M Q hM h => ?_⟩
    · refine sp_paint hC.1 w0 (fun M1 f1 s1 => ?_)
      unfold f_copy at s1 ⊢
      rw [pqI_t ok] at s1 ⊢
      refine ⟨fun _ => h M1 (f1.wd (by omega) (by omega)) (CR_st hC f1 s1), fun e => ?_⟩
      exfalso
      have e : oI (zc S (vN x)) = -10 := e
      rw [oI, show (-10 : Int32) = jI (-10) from rfl, jI_eq (by omega) (by omega) (by decide) (by decide)] at e
      omega
    · refine sp7_copy hM.1 w0 (fun _ M1 f1 b1 => ?_) (fun no => absurd ok no)
      unfold f_copy at b1 ⊢
      rw [pqI_t ok] at b1 ⊢
      exact h M1 (bkS.fr f1) (MR_bk hM f1 b1)
  · rw [pqI_f ok]
    refine ⟨SW_rf hS, fun M Q hC h => ?_, fun M Q hM h => ?_⟩
    · refine sp_paint hC.1 w0 (fun M1 f1 s1 => ?_)
      unfold f_copy at s1 ⊢
      rw [pqI_f ok] at s1 ⊢
      have c1 : CR M1 g S := CR_st hC f1 s1
      exact ⟨fun e => absurd rfl e, fun _ => sp_told (r := -2) c1 (fun M2 f2 c2 => h M2 ((f1.wd (by omega) (by omega)).tr f2) c2)⟩
    · refine sp7_copy hM.1 w0 (fun y => absurd y ok) (fun _ => ?_)
      exact sp7_refuses (k := 0) (by decide) hM.2.2.2.2.2 (h _ (fr.rf.mI (by omega) (by omega)) (MR_rf hM (by decide)))
