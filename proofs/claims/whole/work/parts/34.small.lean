/-! a statue as numbers: s as in one row, c the copies (0: none) -/
def gc (k : Nat) : Nat := if k < 5 then k else (k - 5) / 4 + 1
def uc (k : Nat) : Nat := if k < 5 then 0 else (k - 5) % 4 + 1
def tc (k : Nat) : Nat := if k < 5 then k else (k - 5) % 4 + 1
def stk (s : Nat → Nat) (k : Nat) : Prop := k < 21 ∧ gc k ≤ s 0 ∧ uc k ≤ s 0
def th (s : Nat → Nat) (a : Nat) : Nat := if a = 0 then 0 else s (40 + 4 * (a - 1))
def wr (s : Nat → Nat) (d : Nat) : Nat := s 6 * s (2 + (d + s 7) % 4)
def lfU (s : Nat → Nat) (d k : Nat) : Nat := th s (uc k) - wr s d
def lfG (s : Nat → Nat) (d k : Nat) : Nat := min (th s (gc k)) (th s (gc k) + th s (uc k) - wr s d)
def lfL (s : Nat → Nat) (d k : Nat) : Nat := wr s d - th s (gc k) - th s (uc k)
def wTr (s : Nat → Nat) (t : Nat) : Prop := s (60 + 4 * t) < 48 ∧ s (61 + 4 * t) ≤ 6 ∧ s (62 + 4 * t) ≤ 400 ∧ s (63 + 4 * t) ≤ 1 ∧ (s (61 + 4 * t) = 0 → s (62 + 4 * t) < s 0) ∧ (s (61 + 4 * t) = 1 → s (62 + 4 * t) ≤ 3) ∧ (s (61 + 4 * t) = 2 → s (62 + 4 * t) ≤ 3) ∧ (s (61 + 4 * t) = 5 → 1 ≤ s (62 + 4 * t) ∧ s (60 + 4 * t) % 8 ≠ 7)
def wSt (s : Nat → Nat) (a : Nat) : Prop := (1 ≤ s (40 + 4 * a) ∧ s (40 + 4 * a) ≤ 60) ∧ s (41 + 4 * a) ≤ 9 ∧ s (42 + 4 * a) ≤ 15 ∧ 1 ≤ s (43 + 4 * a) ∧ s (43 + 4 * a) ≤ 9
def WF (s c : Nat → Nat) : Prop := s 0 ≤ 4 ∧ s 1 ≤ 20 ∧ (∀ i, i < 4 → s (2 + i) ≤ 5) ∧ s 6 ≤ 60 ∧ s 7 ≤ 3 ∧ (1 ≤ s 8 ∧ s 8 ≤ 9) ∧ (∀ k, k < 21 → s (10 + k) ≤ 9) ∧ (∀ a, a < s 0 → wSt s a) ∧ (∀ t, t < s 1 → wTr s t) ∧ ∀ k, k < 48 → c k ≤ s 0
theorem WF.st {s c : Nat → Nat} (h : WF s c) : ∀ a, a < s 0 → wSt s a := h.2.2.2.2.2.2.2.1
theorem WF.tr {s c : Nat → Nat} (h : WF s c) : ∀ t, t < s 1 → wTr s t := h.2.2.2.2.2.2.2.2.1
theorem WF.cp {s c : Nat → Nat} (h : WF s c) : ∀ k, k < 48 → c k ≤ s 0 := h.2.2.2.2.2.2.2.2.2
theorem WF.hb {s c : Nat → Nat} (h : WF s c) : ∀ k, k < 21 → s (10 + k) ≤ 9 := h.2.2.2.2.2.2.1
theorem WF.lk {s c : Nat → Nat} (h : WF s c) : 1 ≤ s 8 ∧ s 8 ≤ 9 := h.2.2.2.2.2.1
theorem WF.tn {s c : Nat → Nat} (h : WF s c) : s 7 ≤ 3 := h.2.2.2.2.1
theorem WF.yr {s c : Nat → Nat} (h : WF s c) : s 6 ≤ 60 := h.2.2.2.1
theorem WF.rn {s c : Nat → Nat} (h : WF s c) : ∀ i, i < 4 → s (2 + i) ≤ 5 := h.2.2.1
def BK (M : mM) (b : Nat) (s c : Nat → Nat) : Prop := (∀ i, i < 150 → M.1 (b + 1) i = nI (s i)) ∧ ∀ k, k < 48 → M.1 (b + 1) (150 + k) = oI (c k)
def stS (M : mM) (b : Nat) (s : Nat → Nat) (a : Nat) : Prop := M.1 (b + 1) a = nI (s (40 + 4 * a)) ∧ M.1 (b + 2) a = nI (s (41 + 4 * a)) ∧ M.1 (b + 3) a = nI (s (42 + 4 * a)) ∧ M.1 (b + 4) a = nI (s (43 + 4 * a))
def stT (M : mM) (b : Nat) (s : Nat → Nat) (t : Nat) : Prop := M.1 (b + 7) t = nI (s (60 + 4 * t)) ∧ M.1 (b + 8) t = nI (s (61 + 4 * t)) ∧ M.1 (b + 9) t = nI (s (62 + 4 * t)) ∧ M.1 (b + 10) t = nI (s (63 + 4 * t))
def ST (M : mM) (b : Nat) (s c : Nat → Nat) : Prop := M.1 b 11 = nI (s 0) ∧ M.1 b 12 = nI (s 1) ∧ (∀ i, i < 7 → M.1 (b + 5) i = nI (s (2 + i))) ∧ (∀ k, k < 21 → M.1 (b + 6) k = nI (s (10 + k))) ∧ (∀ a, a < s 0 → stS M b s a) ∧ (∀ t, t < s 1 → stT M b s t) ∧ ∀ k, k < 48 → M.1 (b + 11) k = oI (c k)
theorem ST.fr {M M' : mM} {b lo hi : Nat} {s c : Nat → Nat} (h : ST M b s c) (f : fr M M' lo hi) (q : b + 12 ≤ lo ∨ hi ≤ b) : ST M' b s c := by
  obtain ⟨h1, h2, h3, h4, h5, h6, h7⟩ := h
  refine ⟨?_, ?_, ?_, ?_, ?_, ?_, ?_⟩
  · rw [f.1 b (by omega)]; exact h1
  · rw [f.1 b (by omega)]; exact h2
  · intro i hi; rw [f.1 _ (by omega)]; exact h3 i hi
  · intro i hi; rw [f.1 _ (by omega)]; exact h4 i hi
  · intro i hi
    obtain ⟨a1, a2, a3, a4⟩ := h5 i hi
    refine ⟨?_, ?_, ?_, ?_⟩
    · rw [f.1 _ (by omega)]; exact a1
    · rw [f.1 _ (by omega)]; exact a2
    · rw [f.1 _ (by omega)]; exact a3
    · rw [f.1 _ (by omega)]; exact a4
  · intro i hi
    obtain ⟨a1, a2, a3, a4⟩ := h6 i hi
    refine ⟨?_, ?_, ?_, ?_⟩
    · rw [f.1 _ (by omega)]; exact a1
    · rw [f.1 _ (by omega)]; exact a2
    · rw [f.1 _ (by omega)]; exact a3
    · rw [f.1 _ (by omega)]; exact a4
  · intro i hi; rw [f.1 _ (by omega)]; exact h7 i hi
theorem gc_le {k : Nat} (h : k < 21) : gc k ≤ 4 := by unfold gc; split <;> omega
theorem uc_le (k : Nat) : uc k ≤ 4 := by unfold uc; split <;> omega
theorem tc_le (k : Nat) : tc k ≤ 4 := by unfold tc; split <;> omega
theorem tc_s {s : Nat → Nat} {k : Nat} (h : stk s k) : tc k ≤ s 0 := by
  have h1 := h.2.1
  have h2 := h.2.2
  unfold gc at h1
  unfold uc at h2
  unfold tc
  by_cases q : k < 5
  · rw [if_pos q] at h1 ⊢; exact h1
  · rw [if_neg q] at h2 ⊢; exact h2
theorem th_le {s c : Nat → Nat} {a : Nat} (h : WF s c) (ha : a ≤ s 0) : th s a ≤ 60 := by
  unfold th
  split
  · omega
  · exact (h.st (a - 1) (by omega)).1.2
theorem wr_le {s c : Nat → Nat} (h : WF s c) (d : Nat) : wr s d ≤ 300 := by
  unfold wr
  have h1 := h.yr
  have h2 := h.rn ((d + s 7) % 4) (by omega)
  exact Nat.le_trans (Nat.mul_le_mul h1 h2) (by decide)
theorem e6_gO : ∀ k, k < 21 → (0 < nI k → 4 < nI k → ((nI k - 1) - 4) / 4 = oI (gc k)) ∧ (0 < nI k → ¬ 4 < nI k → nI k - 1 = oI (gc k)) ∧ (¬ 0 < nI k → (-1) = oI (gc k)) := by decide +kernel
theorem e6_uO : ∀ k, k < 21 → (4 < nI k → ((nI k - 1) - 4) - ((nI k - 1) - 4) / 4 * 4 = oI (uc k)) ∧ (¬ 4 < nI k → (-1) = oI (uc k)) := by decide +kernel
theorem e7_gO : ∀ k, k < 21 → (¬ nI k = 0 → 5 ≤ nI k → (nI k - 5) / 4 = oI (gc k)) ∧ (¬ nI k = 0 → ¬ 5 ≤ nI k → nI k - 1 = oI (gc k)) ∧ (nI k = 0 → (-1) = oI (gc k)) := by decide +kernel
theorem e7_uO : ∀ k, k < 21 → (5 ≤ nI k → (nI k - 5) - (nI k - 5) / 4 * 4 = oI (uc k)) ∧ (¬ 5 ≤ nI k → (-1) = oI (uc k)) := by decide +kernel
theorem sp_groundOf {k : Nat} {M : mM} {Q : Int32 → Prop} (hk : k < 21) (h : Q (oI (gc k))) : p_X6_groundOf (nI k) M Q := by
  obtain ⟨e1, e2, e3⟩ := e6_gO k hk
  exact ⟨fun a => ⟨fun b => by rw [e1 a b]; exact h, fun b => by rw [e2 a b]; exact h⟩, fun a => by rw [e3 a]; exact h⟩
theorem sp_upperOf {k : Nat} {M : mM} {Q : Int32 → Prop} (hk : k < 21) (h : Q (oI (uc k))) : p_X6_upperOf (nI k) M Q := by
  obtain ⟨e1, e2⟩ := e6_uO k hk
  exact ⟨fun a => by rw [e1 a]; exact h, fun a => by rw [e2 a]; exact h⟩
theorem sp7_groundOf {k : Nat} {M : mM} {Q : Int32 → Prop} (hk : k < 21) (h : Q (oI (gc k))) : p_X7_groundOf (nI k) M Q := by
  obtain ⟨e1, e2, e3⟩ := e7_gO k hk
  exact ⟨fun a => ⟨fun b => by rw [e1 a b]; exact h, fun b => by rw [e2 a b]; exact h⟩, fun a => by rw [e3 a]; exact h⟩
theorem sp7_overOf {k : Nat} {M : mM} {Q : Int32 → Prop} (hk : k < 21) (h : Q (oI (uc k))) : p_X7_overOf (nI k) M Q := by
  obtain ⟨e1, e2⟩ := e7_uO k hk
  exact ⟨fun a => by rw [e1 a]; exact h, fun a => by rw [e2 a]; exact h⟩
theorem tc_g {k : Nat} (h : k < 5) : tc k = gc k := by unfold tc gc; rw [if_pos h, if_pos h]
theorem tc_u {k : Nat} (h : ¬ k < 5) : tc k = uc k := by unfold tc uc; rw [if_neg h, if_neg h]
theorem sp7_topOf {k : Nat} {M : mM} {Q : Int32 → Prop} (hk : k < 21) (h : Q (oI (tc k))) : p_X7_topOf (nI k) M Q := by
  refine ⟨fun a => sp7_overOf hk ?_, fun a => sp7_groundOf hk ?_⟩
  · rw [← tc_u (Nat.not_lt.mpr (lei (a := 5) (by decide) (by omega) a))]; exact h
  · rw [← tc_g (nlei (a := 5) (by decide) (by omega) a)]; exact h
theorem sp_isStack {b : Nat} {x : Int32} {s c : Nat → Nat} {M : mM} {Q : Int32 → Prop} (hs : ST M b s c) (w : WF s c) (h1 : ∀ k, x = nI k → stk s k → Q 1) (h0 : (¬ ∃ k, x = nI k ∧ stk s k) → Q 0) : p_X2_isStack b x M Q := by
  have w0 : s 0 ≤ 4 := w.1
  refine sp_within (lo := 0) (hi := 20) (by decide) (by decide) (fun hb => ⟨fun a => absurd a (by decide), fun _ => ?_⟩) (fun hb => ⟨fun _ => ?_, fun a => absurd rfl a⟩)
  · obtain ⟨k, _, hk, rfl⟩ := hb
    have hk : k < 21 := by omega
    have g4 := gc_le hk
    have u4 := uc_le k
    refine sp_groundOf hk ?_
    rw [hs.1]
    refine ⟨fun a => h0 ?_, fun a => sp_upperOf hk ⟨fun d => h0 ?_, fun d => ?_⟩⟩
    · rintro ⟨k', e, q⟩
      have e := eqi (by omega) (by have := q.1; omega) e
      subst e
      have := (le_oI (by omega) (by omega)).mp a
      have := q.2.1
      omega
    · rintro ⟨k', e, q⟩
      have e := eqi (by omega) (by have := q.1; omega) e
      subst e
      have := (le_oI (by omega) (by omega)).mp d
      have := q.2.2
      omega
    · rw [le_oI (by omega) (by omega)] at a d
      exact h1 k rfl ⟨hk, by omega, by omega⟩
  · refine h0 ?_
    rintro ⟨k, e, q⟩
    exact hb ⟨k, by omega, by have := q.1; omega, e⟩
theorem sp7_isStack {b : Nat} {x : Int32} {s c : Nat → Nat} {M : mM} {Q : Int32 → Prop} (hs : BK M b s c) (w : WF s c) (h1 : ∀ k, x = nI k → stk s k → Q 1) (h0 : (¬ ∃ k, x = nI k ∧ stk s k) → Q 0) : p_X7_isStack b x M Q := by
  have w0 : s 0 ≤ 4 := w.1
  have e0 : M.1 (b + 1) (0 : Int32).toNatClampNeg = nI (s 0) := hs.1 0 (by decide)
  refine sp7_inI (lo := 0) (hi := 20) (by decide) (by decide) (fun hb => ⟨fun a => absurd a (by decide), fun _ => ?_⟩) (fun hb => ⟨fun _ => ?_, fun a => absurd rfl a⟩)
  · obtain ⟨k, _, hk, rfl⟩ := hb
    have hk : k < 21 := by omega
    have g4 := gc_le hk
    have u4 := uc_le k
    refine sp7_groundOf hk ?_
    rw [e0]
    refine ⟨fun a => h0 ?_, fun a => sp7_overOf hk ⟨fun d => h0 ?_, fun d => ?_⟩⟩
    · rintro ⟨k', e, q⟩
      have e := eqi (by omega) (by have := q.1; omega) e
      subst e
      have := (le_oI (by omega) (by omega)).mp a
      have := q.2.1
      omega
    · rintro ⟨k', e, q⟩
      have e := eqi (by omega) (by have := q.1; omega) e
      subst e
      have := (le_oI (by omega) (by omega)).mp d
      have := q.2.2
      omega
    · rw [le_oI (by omega) (by omega)] at a d
      exact h1 k rfl ⟨hk, by omega, by omega⟩
  · refine h0 ?_
    rintro ⟨k, e, q⟩
    exact hb ⟨k, by omega, by have := q.1; omega, e⟩
theorem sp_thickOf {b a : Nat} {s c : Nat → Nat} {M : mM} {Q : Int32 → Prop} (hs : ST M b s c) (w : WF s c) (ha : a ≤ s 0) (h : Q (nI (th s a))) : p_X2_thickOf b (oI a) M Q := by
  have w0 : s 0 ≤ 4 := w.1
  rcases a with _ | a
  · exact ⟨fun _ => h, fun q => absurd (by decide) q⟩
  · rw [oI_s]
    refine ⟨fun q => absurd (lti (a := a) (b := 0) (by omega) (by decide) q) (by omega), fun _ => ⟨fun q => ?_, fun _ => ⟨vin (by omega) (by decide), ?_⟩⟩⟩
    · have := lei (a := 4) (by decide) (by omega) q
      omega
    · rw [clp (by omega), (hs.2.2.2.2.1 a (by omega)).1]
      exact h
theorem sp7_ofStuff {b a f : Nat} {s c : Nat → Nat} {M : mM} {Q : Int32 → Prop} (hs : BK M b s c) (w : WF s c) (ha : a < s 0) (hf : f < 4) (h : Q (nI (s (40 + f + 4 * a)))) : p_X7_ofStuff b (nI a) (nI f) M Q := by
  have w0 : s 0 ≤ 4 := w.1
  have e : (40 + (4 * nI a)) + nI f = nI (40 + f + 4 * a) := by
    rw [show (4 : Int32) * nI a = nI (4 * a) from pk_mul 4 a, show (40 : Int32) + nI (4 * a) = nI (40 + 4 * a) from nI_add 40 _, nI_add]
    congr 1; omega
  unfold p_X7_ofStuff
  rw [e, clp (by omega), hs.1 _ (by omega)]
  exact ⟨vin (by omega) (by decide), h⟩
theorem sp7_ofTrace {b a f : Nat} {s c : Nat → Nat} {M : mM} {Q : Int32 → Prop} (hs : BK M b s c) (w : WF s c) (ha : a < s 1) (hf : f < 4) (h : Q (nI (s (60 + f + 4 * a)))) : p_X7_ofTrace b (nI a) (nI f) M Q := by
  have w0 : s 1 ≤ 20 := w.2.1
  have e : (60 + (4 * nI a)) + nI f = nI (60 + f + 4 * a) := by
    rw [show (4 : Int32) * nI a = nI (4 * a) from pk_mul 4 a, show (60 : Int32) + nI (4 * a) = nI (60 + 4 * a) from nI_add 60 _, nI_add]
    congr 1; omega
  unfold p_X7_ofTrace
  rw [e, clp (by omega), hs.1 _ (by omega)]
  exact ⟨vin (by omega) (by decide), h⟩
theorem sp7_thick {b a : Nat} {s c : Nat → Nat} {M : mM} {Q : Int32 → Prop} (hs : BK M b s c) (w : WF s c) (ha : a ≤ s 0) (h : Q (nI (th s a))) : p_X7_thick b (oI a) M Q := by
  have w0 : s 0 ≤ 4 := w.1
  rcases a with _ | a
  · exact ⟨fun q => absurd rfl q, fun _ => h⟩
  · refine ⟨fun _ => ?_, fun q => absurd ((oI_eq0 (by omega)).mp q) (by omega)⟩
    rw [oI_s]
    exact sp7_ofStuff (f := 0) hs w (by omega) (by decide) h
theorem e7_wr : ∀ c, c < 48 → ∀ t, t < 4 → 2 + ((((nI c - nI c / 8 * 8) / 2) + nI t) - (((nI c - nI c / 8 * 8) / 2) + nI t) / 4 * 4) = nI (2 + (c % 8 / 2 + t) % 4) := by decide +kernel
theorem e6_wr : ∀ d, d < 4 → ∀ t, t < 4 → ((nI d + nI t) - (nI d + nI t) / 4 * 4) = nI ((d + t) % 4) := by decide +kernel
theorem e6_sd : ∀ c, c < 48 → ((nI c - nI c / 8 * 8) / 2) = nI (c % 8 / 2) := by decide +kernel
theorem sp7_wearOf {b cl : Nat} {s c : Nat → Nat} {M : mM} {Q : Int32 → Prop} (hs : BK M b s c) (w : WF s c) (hc : cl < 48) (h : Q (nI (wr s (cl % 8 / 2)))) : p_X7_wearOf b (nI cl) M Q := by
  have w7 := w.tn
  unfold p_X7_wearOf
  rw [show M.1 (b + 1) (7 : Int32).toNatClampNeg = nI (s 7) from hs.1 7 (by decide), show M.1 (b + 1) (6 : Int32).toNatClampNeg = nI (s 6) from hs.1 6 (by decide), e7_wr cl hc _ (by omega), clp (by omega), hs.1 _ (by omega), pk_mul]
  exact ⟨vin (by omega) (by decide), h⟩
theorem sp_wearOf {b d : Nat} {s c : Nat → Nat} {M : mM} {Q : Int32 → Prop} (hs : ST M b s c) (w : WF s c) (hd : d < 4) (h : Q (nI (wr s d))) : p_X2_wearOf b (nI d) M Q := by
  have w7 := w.tn
  unfold p_X2_wearOf
  rw [show M.1 (b + 5) (5 : Int32).toNatClampNeg = nI (s 7) from hs.2.2.1 5 (by decide), show M.1 (b + 5) (4 : Int32).toNatClampNeg = nI (s 6) from hs.2.2.1 4 (by decide), e6_wr d hd _ (by omega), clp (by omega), hs.2.2.1 _ (by omega), pk_mul]
  exact ⟨vin (by omega) (by decide), h⟩
def lf (s : Nat → Nat) (d k what : Nat) : Nat := if what = 1 then lfU s d k else if what = 2 then lfL s d k else lfG s d k
theorem sp7_left_J {b n : Nat} {z : Int} {p1 p2 p3 : Int32} {M : mM} {Q : Int32 → Prop} (h1 : -2147483648 ≤ z) (h2 : z < 2147483648) (hn : n = z.toNat) (h : Q (nI n)) : p_X7_leftOf_J76 b p1 p2 p3 Q (jI z) M := by
  subst hn
  refine ⟨fun q => ?_, fun q => ?_⟩
  · have q : z ≤ 0 := (jI_le (b := 0) h1 h2 (by decide) (by decide)).mp q
    rw [show z.toNat = 0 by omega] at h
    exact h
  · have q : ¬ z ≤ 0 := fun r => q ((jI_le (b := 0) h1 h2 (by decide) (by decide)).mpr r)
    rw [jI_n, show ((z.toNat : Nat) : Int) = z from Int.toNat_of_nonneg (by omega)] at h
    exact h
theorem sp7_leftOf {b cl k what : Nat} {s c : Nat → Nat} {M : mM} {Q : Int32 → Prop} (hs : BK M b s c) (w : WF s c) (hc : cl < 48) (hk : stk s k) (hw : what ≤ 2) (h : Q (nI (lf s (cl % 8 / 2) k what))) : p_X7_leftOf b (nI cl) (nI k) (nI what) M Q := by
  have k21 := hk.1
  refine sp7_overOf k21 (sp7_thick hs w hk.2.2 (sp7_groundOf k21 (sp7_thick hs w hk.2.1 (sp7_wearOf hs w hc ?_))))
  have t1 := th_le w hk.2.2
  have t2 := th_le w hk.2.1
  have t3 := wr_le w (cl % 8 / 2)
  unfold lf lfU lfL lfG at h
  generalize th s (uc k) = A at *
  generalize th s (gc k) = B at *
  generalize wr s (cl % 8 / 2) = W at *
  simp only [jI_n A, jI_n B, jI_n W, jI_add, jI_sub]
  rw [jI_le (by omega) (by omega) (by omega) (by omega)]
  refine ⟨fun a => ⟨fun d => ⟨fun q => ?_, fun q => ?_⟩, fun d => ?_⟩, fun a => ?_⟩
  · have a : ¬ what = 1 := fun e => a (by rw [e]; rfl)
    have d : ¬ what = 2 := fun e => d (by rw [e]; rfl)
    rw [if_neg a, if_neg d] at h
    exact sp7_left_J (by omega) (by omega) (by omega) h
  · have a : ¬ what = 1 := fun e => a (by rw [e]; rfl)
    have d : ¬ what = 2 := fun e => d (by rw [e]; rfl)
    rw [if_neg a, if_neg d] at h
    exact sp7_left_J (by omega) (by omega) (by omega) h
  · have d := eqi (b := 2) (by omega) (by decide) d
    rw [if_neg (by omega), if_pos d] at h
    exact sp7_left_J (by omega) (by omega) (by omega) h
  · have d := eqi (b := 1) (by omega) (by decide) a
    rw [if_pos d] at h
    exact sp7_left_J (by omega) (by omega) (by omega) h
