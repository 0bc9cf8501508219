/-! lamps, grains, what a trace says of a stack -/
theorem nI_ps {n : Nat} (h : n < 2147483648) (h2 : 0 < n) : (0 : Int32) < nI n := (nI_ltI (a := 0) (by decide) h).mpr h2
def ct (s : Nat → Nat) (a r : Nat) : Nat := if a = 0 then 0 else if r < s (43 + 4 * (a - 1)) then 0 else s (42 + 4 * (a - 1))
def LM (s : Nat → Nat) (d k : Nat) : Nat := ct s (gc k) (lfG s d k) ||| ct s (uc k) (lfU s d k)
def lit (s : Nat → Nat) (d k l : Nat) : Prop := LM s d k / 2 ^ l % 2 = 1
def gm (a r : Nat) : Nat := if r = 0 then 0 else 2 ^ (a - 1)
def GM (s : Nat → Nat) (d k : Nat) : Nat := gm (gc k) (lfG s d k) ||| gm (uc k) (lfU s d k)
theorem e_or : ∀ x, x < 16 → ∀ y, y < 16 → nI x ||| nI y = nI (x ||| y) := by decide +kernel
theorem e_bit : ∀ x, x < 16 → ∀ l, l < 4 → ((nI x >>> (nI l &&& 31)) &&& 1) = nI (x / 2 ^ l % 2) := by decide +kernel
theorem e_orb : ∀ x, x < 16 → ∀ y, y < 16 → ∀ l, l < 4 → ((x ||| y) / 2 ^ l % 2 = 1 ↔ x / 2 ^ l % 2 = 1 ∨ y / 2 ^ l % 2 = 1) := by decide +kernel
theorem e_orl : ∀ x, x < 16 → ∀ y, y < 16 → x ||| y < 16 := by decide +kernel
theorem e_sh1 : ∀ a, a < 4 → (1 : Int32) <<< (nI a &&& 31) = nI (2 ^ a) := by decide +kernel
theorem e_pwb : ∀ a, a < 4 → ∀ l, l < 4 → (2 ^ a / 2 ^ l % 2 = 1 ↔ a = l) := by decide +kernel
theorem e_pwl : ∀ a, a < 4 → 2 ^ a < 16 := by decide
theorem ct_lt {s c : Nat → Nat} (w : WF s c) {a r : Nat} (ha : a ≤ s 0) : ct s a r < 16 := by
  unfold ct
  split
  · decide
  · split
    · decide
    · have h1 := (w.st (a - 1) (by omega)).2.2.1
      omega
theorem LM_lt {s c : Nat → Nat} (w : WF s c) {d k : Nat} (hk : stk s k) : LM s d k < 16 := e_orl _ (ct_lt w hk.2.1) _ (ct_lt w hk.2.2)
theorem gm_lt {a r : Nat} (ha : a ≤ 4) : gm a r < 16 := by
  unfold gm
  split
  · decide
  · exact e_pwl _ (by omega)
theorem lfG_0 {s : Nat → Nat} {d k : Nat} (h : gc k = 0) : lfG s d k = 0 := by
  unfold lfG th
  rw [if_pos h]
  exact Nat.zero_min _
theorem lfU_0 {s : Nat → Nat} {d k : Nat} (h : uc k = 0) : lfU s d k = 0 := by
  unfold lfU th
  rw [if_pos h]
  exact Nat.zero_sub _
theorem lfG_le {s c : Nat → Nat} (w : WF s c) {d k : Nat} (hk : stk s k) : lfG s d k ≤ 60 := Nat.le_trans (Nat.min_le_left _ _) (th_le w hk.2.1)
theorem lfU_le {s c : Nat → Nat} (w : WF s c) {d k : Nat} (hk : stk s k) : lfU s d k ≤ 60 := Nat.le_trans (Nat.sub_le _ _) (th_le w hk.2.2)
theorem lfL_le {s c : Nat → Nat} (w : WF s c) (d k : Nat) : lfL s d k ≤ 300 := Nat.le_trans (Nat.sub_le _ _) (Nat.le_trans (Nat.sub_le _ _) (wr_le w d))
theorem ct_bit {s c : Nat → Nat} (w : WF s c) {a r l : Nat} (ha : a ≤ s 0) (hl : l < 4) : ct s a r / 2 ^ l % 2 = 1 ↔ a ≠ 0 ∧ s (43 + 4 * (a - 1)) ≤ r ∧ s (42 + 4 * (a - 1)) / 2 ^ l % 2 = 1 := by
  unfold ct
  by_cases h : a = 0
  · rw [if_pos h]
    constructor
    · intro q; rw [Nat.zero_div] at q; omega
    · intro q; exact absurd h q.1
  · rw [if_neg h]
    by_cases h2 : r < s (43 + 4 * (a - 1))
    · rw [if_pos h2]
      constructor
      · intro q; rw [Nat.zero_div] at q; omega
      · intro q; omega
    · rw [if_neg h2]
      exact ⟨fun q => ⟨h, by omega, q⟩, fun q => q.2.2⟩
theorem lit_iff {s c : Nat → Nat} (w : WF s c) {d k l : Nat} (hk : stk s k) (hl : l < 4) : lit s d k l ↔ (gc k ≠ 0 ∧ s (43 + 4 * (gc k - 1)) ≤ lfG s d k ∧ s (42 + 4 * (gc k - 1)) / 2 ^ l % 2 = 1) ∨ (uc k ≠ 0 ∧ s (43 + 4 * (uc k - 1)) ≤ lfU s d k ∧ s (42 + 4 * (uc k - 1)) / 2 ^ l % 2 = 1) := by
  unfold lit LM
  rw [e_orb _ (ct_lt w hk.2.1) _ (ct_lt w hk.2.2) l hl, ct_bit w hk.2.1 hl, ct_bit w hk.2.2 hl]
theorem sp_upperLeft {b k n : Nat} {s c : Nat → Nat} {M : mM} {Q : Int32 → Prop} (hs : ST M b s c) (w : WF s c) (hk : stk s k) (d : Nat) (hn : n = wr s d) (h : Q (nI (lfU s d k))) : p_X2_upperLeft b (nI k) (nI n) M Q := by
  refine sp_upperOf hk.1 (sp_thickOf hs w hk.2.2 ?_)
  have t1 := th_le w hk.2.2
  have t3 := wr_le w d
  subst hn
  unfold lfU at h
  generalize th s (uc k) = A at *
  generalize wr s d = W at *
  have e : (if 0 < nI A - nI W then nI A - nI W else 0) = nI (A - W) := by
    by_cases q : W < A
    · rw [nI_sub (by omega), if_pos (nI_ps (by omega) (by omega))]
    · rw [if_neg]
      · rw [show A - W = 0 by omega]; rfl
      · rw [jI_n A, jI_n W, jI_sub]
        rw [show (0 : Int32) = jI 0 from rfl, jI_lt (by decide) (by decide) (by omega) (by omega)]
        omega
  rw [e]
  exact h
theorem sp_groundLeft {b k n : Nat} {s c : Nat → Nat} {M : mM} {Q : Int32 → Prop} (hs : ST M b s c) (w : WF s c) (hk : stk s k) (d : Nat) (hn : n = wr s d) (h : Q (nI (lfG s d k))) : p_X2_groundLeft b (nI k) (nI n) M Q := by
  refine sp_groundOf hk.1 (sp_thickOf hs w hk.2.1 (sp_upperOf hk.1 (sp_thickOf hs w hk.2.2 ?_)))
  have t1 := th_le w hk.2.2
  have t2 := th_le w hk.2.1
  have t3 := wr_le w d
  subst hn
  unfold lfG at h
  generalize th s (uc k) = A at *
  generalize th s (gc k) = B at *
  generalize wr s d = W at *
  have e : (if 0 < (nI B + nI A) - nI W then (nI B + nI A) - nI W else 0) = nI (B + A - W) := by
    by_cases q : W < B + A
    · rw [nI_add, nI_sub (by omega), if_pos (nI_ps (by omega) (by omega))]
    · rw [if_neg]
      · rw [show B + A - W = 0 by omega]; rfl
      · rw [jI_n A, jI_n B, jI_n W, jI_add, jI_sub]
        rw [show (0 : Int32) = jI 0 from rfl, jI_lt (by decide) (by decide) (by omega) (by omega)]
        omega
  rw [e]
  have e2 : (if nI (B + A - W) < nI B then nI (B + A - W) else nI B) = nI (min B (B + A - W)) := by
    by_cases q : B + A - W < B
    · rw [if_pos ((nI_ltI (by omega) (by omega)).mpr q), Nat.min_eq_right (by omega)]
    · rw [if_neg (fun r => q (lti (by omega) (by omega) r)), Nat.min_eq_left (by omega)]
  rw [e2]
  exact h
theorem sp_stoneLost {b k n : Nat} {s c : Nat → Nat} {M : mM} {Q : Int32 → Prop} (hs : ST M b s c) (w : WF s c) (hk : stk s k) (d : Nat) (hn : n = wr s d) (h : Q (nI (lfL s d k))) : p_X2_stoneLost b (nI k) (nI n) M Q := by
  refine sp_groundOf hk.1 (sp_thickOf hs w hk.2.1 (sp_upperOf hk.1 (sp_thickOf hs w hk.2.2 ?_)))
  have t1 := th_le w hk.2.2
  have t2 := th_le w hk.2.1
  have t3 := wr_le w d
  subst hn
  unfold lfL at h
  generalize th s (uc k) = A at *
  generalize th s (gc k) = B at *
  generalize wr s d = W at *
  have e : (if 0 < (nI W - nI B) - nI A then (nI W - nI B) - nI A else 0) = nI (W - B - A) := by
    by_cases q : B + A < W
    · rw [nI_sub (by omega), nI_sub (by omega), if_pos (nI_ps (by omega) (by omega))]
    · rw [if_neg]
      · rw [show W - B - A = 0 by omega]; rfl
      · rw [jI_n A, jI_n B, jI_n W, jI_sub, jI_sub]
        rw [show (0 : Int32) = jI 0 from rfl, jI_lt (by decide) (by decide) (by omega) (by omega)]
        omega
  rw [e]
  exact h
theorem sp_isStuff {b a : Nat} {s c : Nat → Nat} {M : mM} {Q : Int32 → Prop} (hs : ST M b s c) (w : WF s c) (ha : a ≤ s 0) (h1 : a ≠ 0 → Q 1) (h0 : a = 0 → Q 0) : p_X2_isStuff b (oI a) M Q := by
  have w0 : s 0 ≤ 4 := w.1
  unfold p_X2_isStuff
  rw [hs.1]
  rcases a with _ | a
  · exact ⟨fun _ => h0 rfl, fun q => absurd (by decide) q⟩
  · rw [oI_s]
    refine ⟨fun q => absurd (lti (a := a) (b := 0) (by omega) (by decide) q) (by omega), fun _ => ⟨fun q => ?_, fun _ => ⟨fun q => ?_, fun _ => h1 (by omega)⟩⟩⟩
    · have := lei (by omega) (by omega) q
      omega
    · have := lei (a := 4) (by decide) (by omega) q
      omega
theorem sp_lampsOfCoat {b a r : Nat} {s c : Nat → Nat} {M : mM} {Q : Int32 → Prop} (hs : ST M b s c) (w : WF s c) (ha : a ≤ s 0) (hr : r ≤ 60) (h : Q (nI (ct s a r))) : p_X2_lampsOfCoat b (oI a) (nI r) M Q := by
  have w0 : s 0 ≤ 4 := w.1
  refine sp_isStuff hs w ha (fun q => ⟨fun e => absurd e (by decide), fun _ => ?_⟩) (fun q => ⟨fun _ => ?_, fun e => absurd rfl e⟩)
  · rcases a with _ | a
    · exact absurd rfl q
    · have st := hs.2.2.2.2.1 a (by omega)
      have wt := w.st a (by omega)
      unfold wSt at wt
      rw [oI_s, clp (by omega), st.2.2.2]
      unfold ct at h
      rw [if_neg (by omega), show a + 1 - 1 = a by omega] at h
      refine ⟨vin (by omega) (by decide), fun e => ?_, fun e => ⟨vin (by omega) (by decide), ?_⟩⟩
      · rw [if_pos (lti (by omega) (by omega) e)] at h; exact h
      · rw [if_neg (Nat.not_lt.mpr (nlti (by omega) (by omega) e))] at h
        rw [st.2.2.1]; exact h
  · unfold ct at h
    rw [if_pos q] at h; exact h
theorem sp_lampsOf {b k n : Nat} {s c : Nat → Nat} {M : mM} {Q : Int32 → Prop} (hs : ST M b s c) (w : WF s c) (hk : stk s k) (d : Nat) (hn : n = wr s d) (h : Q (nI (LM s d k))) : p_X2_lampsOf b (nI k) (nI n) M Q := by
  refine sp_groundOf hk.1 (sp_groundLeft hs w hk d hn (sp_lampsOfCoat hs w hk.2.1 (lfG_le w hk) (sp_upperOf hk.1 (sp_upperLeft hs w hk d hn (sp_lampsOfCoat hs w hk.2.2 (lfU_le w hk) ?_)))))
  rw [e_or _ (ct_lt w hk.2.1) _ (ct_lt w hk.2.2)]
  exact h
theorem sp_grains_J {b k n x : Nat} {s c : Nat → Nat} {M : mM} {Q : Int32 → Prop} (hs : ST M b s c) (w : WF s c) (hk : stk s k) (d : Nat) (hn : n = wr s d) (hx : x < 16) (h : Q (nI (x ||| gm (uc k) (lfU s d k)))) : p_X2_grainsOf_J19 b (nI k) (nI n) Q (nI x) M := by
  have w0 : s 0 ≤ 4 := w.1
  have l := lfU_le (d := d) w hk
  have u4 := uc_le k
  refine sp_upperLeft hs w hk d hn ⟨fun q => ?_, fun q => sp_upperOf hk.1 ?_⟩
  · have q := lei (b := 0) (by omega) (by decide) q
    unfold gm at h
    rw [if_pos (by omega)] at h
    rw [show (0 : Int32) = nI 0 from rfl, e_or _ hx _ (by decide)]; exact h
  · have q := nlei (b := 0) (by omega) (by decide) q
    unfold gm at h
    rw [if_neg (by omega)] at h
    have nz : uc k ≠ 0 := fun e => by have := lfU_0 (s := s) (d := d) e; omega
    rw [show uc k = (uc k - 1) + 1 by omega, oI_s, e_sh1 _ (by omega), e_or _ hx _ (e_pwl _ (by omega))]
    exact h
theorem sp_grainsOf {b k n : Nat} {s c : Nat → Nat} {M : mM} {Q : Int32 → Prop} (hs : ST M b s c) (w : WF s c) (hk : stk s k) (d : Nat) (hn : n = wr s d) (h : Q (nI (GM s d k))) : p_X2_grainsOf b (nI k) (nI n) M Q := by
  have w0 : s 0 ≤ 4 := w.1
  have l := lfG_le (d := d) w hk
  have g4 := gc_le hk.1
  refine sp_groundLeft hs w hk d hn ⟨fun q => ?_, fun q => sp_groundOf hk.1 ?_⟩
  · have q := lei (b := 0) (by omega) (by decide) q
    refine sp_grains_J (x := 0) hs w hk d hn (by decide) ?_
    unfold GM gm at h
    rw [if_pos (by omega)] at h
    unfold gm
    exact h
  · have q := nlei (b := 0) (by omega) (by decide) q
    have nz : gc k ≠ 0 := fun e => by have := lfG_0 (s := s) (d := d) e; omega
    rw [show oI (gc k) = nI (gc k - 1) from (by rw [← oI_s]; congr 1; omega), e_sh1 _ (by omega)]
    refine sp_grains_J (x := 2 ^ (gc k - 1)) hs w hk d hn (e_pwl _ (by omega)) ?_
    unfold GM at h
    rw [show gm (gc k) (lfG s d k) = 2 ^ (gc k - 1) from (by unfold gm; rw [if_neg (by omega)])] at h
    exact h
