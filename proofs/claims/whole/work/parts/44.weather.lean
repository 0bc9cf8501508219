/-! the class's weather -/
def WE1 (M : mM) (b : Nat) (s : Nat → Nat) (d k : Nat) : Prop := M.1 (b + 2 + d) k = nI (lfL s d k) ∧ M.1 (b + 7 + d) k = nI (LM s d k) ∧ M.1 (b + 12 + d) k = nI (GM s d k)
def WE (M : mM) (b : Nat) (s : Nat → Nat) : Prop := ∀ d, d < 4 → ∀ k, stk s k → WE1 M b s d k
theorem WE1.fr {M M' : mM} {b lo hi d k : Nat} {s : Nat → Nat} (h : WE1 M b s d k) (f : fr M M' lo hi) (hd : d < 4) (q : b + 16 ≤ lo ∨ hi ≤ b) : WE1 M' b s d k := by
  refine ⟨?_, ?_, ?_⟩
  · rw [f.1 _ (by omega)]; exact h.1
  · rw [f.1 _ (by omega)]; exact h.2.1
  · rw [f.1 _ (by omega)]; exact h.2.2
theorem WE.fr {M M' : mM} {b lo hi : Nat} {s : Nat → Nat} (h : WE M b s) (f : fr M M' lo hi) (q : b + 16 ≤ lo ∨ hi ≤ b) : WE M' b s := fun d hd k hk => (h d hd k hk).fr f hd q
theorem sp_take {b st : Nat} {s c : Nat → Nat} {M : mM} {Q : mM → Prop} (hs : ST M st s c) (w : WF s c) (dj : b + 16 ≤ st ∨ st + 12 ≤ b) (h : ∀ M', fr M M' b (b + 16) → WE M' b s → Q M') : p_X4_take b st M Q := by
  refine loopU (A := mM) 4 (fun d a => (nI d, a)) (fun d a => fr M a b (b + 16) ∧ ∀ d', d' < d → ∀ k, stk s k → WE1 a b s d' k) M rfl ⟨fr.rf, fun d hd => absurd hd (Nat.not_lt_zero _)⟩ ?_
  rintro d a ag hd ⟨hf, hw⟩ hag
  show p_X4_take_F2 b st Q ag (nI d) a
  unfold p_X4_take_F2
  refine ⟨fun q => ?_, fun q => ?_⟩
  · have q := lei (a := 4) (by decide) (by omega) q
    have : d = 4 := by omega
    subst this
    exact h a hf hw
  · have q := nlei (a := 4) (by decide) (by omega) q
    refine sp_wearOf (hs.fr hf (by omega)) w q ?_
    refine loopU (A := mM) 21 (fun k a => (nI k, a)) (fun k a => fr M a b (b + 16) ∧ (∀ d', d' < d → ∀ k, stk s k → WE1 a b s d' k) ∧ ∀ k', k' < k → stk s k' → WE1 a b s d k') a rfl ⟨hf, hw, fun k hk => absurd hk (Nat.not_lt_zero _)⟩ ?_
    rintro k a1 ag1 hk ⟨hf1, hw1, hk1⟩ hag1
    show p_X4_take_F16 b st (nI d) (nI (wr s d)) Q ag ag1 (nI k) a1
    unfold p_X4_take_F16
    refine ⟨fun q1 => ?_, fun q1 => ?_⟩
    · have q1 := lei (a := 21) (by decide) (by omega) q1
      have : k = 21 := by omega
      subst this
      rw [show nI d + 1 = nI (d + 1) from nI_add d 1]
      refine hag q a1 ⟨hf1, fun d' hd' k hk => ?_⟩
      rcases Nat.lt_or_ge d' d with z | z
      · exact hw1 d' z k hk
      · have : d' = d := by omega
        subst this
        exact hk1 k hk.1 hk
    · have q1 := nlei (a := 21) (by decide) (by omega) q1
      rw [show nI k + 1 = nI (k + 1) from nI_add k 1, clp (by omega), clp (by omega)]
      refine sp_isStack (hs.fr hf1 (by omega)) w (fun k' e g => ⟨fun z => absurd z (by decide), fun _ => ⟨vin q (by decide), ?_⟩⟩) (fun g => ⟨fun _ => hag1 q1 a1 ⟨hf1, hw1, fun k' hk' z => ?_⟩, fun e => absurd rfl e⟩)
      · have e := eqi (by omega) (by have := g.1; omega) e
        subst e
        refine sp_stoneLost (hs.fr hf1 (by omega)) w g d rfl ⟨vin q1 (by decide), ?_⟩
        rintro M5 rfl
        have f5 : fr M (mI a1 (b + 2 + d) (upd (a1.1 (b + 2 + d)) k (nI (lfL s d k)))) b (b + 16) := hf1.mI (by omega) (by omega)
        refine ⟨vin q (by decide), sp_lampsOf (hs.fr f5 (by omega)) w g d rfl ⟨vin q1 (by decide), ?_⟩⟩
        rintro M9 rfl
        have f9 := f5.mI (k := b + 7 + d) (f := upd ((mI a1 (b + 2 + d) (upd (a1.1 (b + 2 + d)) k (nI (lfL s d k)))).1 (b + 7 + d)) k (nI (LM s d k))) (by omega) (by omega)
        refine ⟨vin q (by decide), sp_grainsOf (hs.fr f9 (by omega)) w g d rfl ⟨vin q1 (by decide), ?_⟩⟩
        rintro M13 rfl
        refine hag1 q1 _ ⟨f9.mI (by omega) (by omega), fun d' hd' k' hk' => ⟨?_, ?_, ?_⟩, fun k' hk' z => ⟨?_, ?_, ?_⟩⟩
        · rw [mI_o (by omega), mI_o (by omega), mI_o (by omega)]; exact (hw1 d' hd' k' hk').1
        · rw [mI_o (by omega), mI_o (by omega), mI_o (by omega)]; exact (hw1 d' hd' k' hk').2.1
        · rw [mI_o (by omega), mI_o (by omega), mI_o (by omega)]; exact (hw1 d' hd' k' hk').2.2
        · rw [mI_o (by omega), mI_o (by omega), mI_s]
          rcases Nat.lt_or_ge k' k with y | y
          · rw [updN (by omega)]; exact (hk1 k' y z).1
          · have : k' = k := by omega
            subst this
            rw [updS]
        · rw [mI_o (by omega), mI_s]
          rcases Nat.lt_or_ge k' k with y | y
          · rw [updN (by omega), mI_o (by omega)]; exact (hk1 k' y z).2.1
          · have : k' = k := by omega
            subst this
            rw [updS]
        · rw [mI_s]
          rcases Nat.lt_or_ge k' k with y | y
          · rw [updN (by omega), mI_o (by omega), mI_o (by omega)]; exact (hk1 k' y z).2.2
          · have : k' = k := by omega
            subst this
            rw [updS]
      · rcases Nat.lt_or_ge k' k with y | y
        · exact hk1 k' y z
        · have : k' = k := by omega
          subst this
          exact absurd ⟨k', rfl, z⟩ g
theorem gm_bit {a r v : Nat} (ha : a ≤ 4) (hv : v < 4) (h0 : a = 0 → r = 0) : gm a r / 2 ^ v % 2 = 1 ↔ a = v + 1 ∧ 0 < r := by
  unfold gm
  by_cases q : r = 0
  · rw [if_pos q, Nat.zero_div]
    constructor
    · intro z; omega
    · intro z; omega
  · rw [if_neg q, e_pwb _ (by omega) v hv]
    constructor
    · intro z
      have : a ≠ 0 := fun e => q (h0 e)
      omega
    · intro z; omega
theorem GM_lt {s c : Nat → Nat} {d k : Nat} (hk : stk s k) (w : WF s c) : GM s d k < 16 := e_orl _ (gm_lt (gc_le hk.1)) _ (gm_lt (uc_le k))
/-- the weather's word on a trace of kind kd and value v -/
def soK (s : Nat → Nat) (kd v d k : Nat) : Prop := match kd with
  | 0 => (gc k = v + 1 ∧ 0 < lfG s d k) ∨ (uc k = v + 1 ∧ 0 < lfU s d k)
  | 1 => lit s d k v
  | 2 => ¬ lit s d k v
  | 3 => lfL s d k ≤ v
  | 4 => v ≤ lfL s d k
  | 6 => k ≠ 0
  | _ => True
theorem so_K (s : Nat → Nat) (t d k : Nat) : so s t d k = soK s (s (61 + 4 * t)) (s (62 + 4 * t)) d k := rfl
theorem sp_isSo {b d k kd v : Nat} {s c : Nat → Nat} {M : mM} {Q : Int32 → Prop} (hw : WE M b s) (w : WF s c) (hd : d < 4) (hk : stk s k) (hkd : kd ≤ 6) (hv : v ≤ 400) (hv2 : kd < 3 → v < 4) (h1 : soK s kd v d k → Q 1) (h0 : ¬ soK s kd v d k → Q 0) : p_X4_isSo b (nI kd) (nI v) (nI d) (nI k) M Q := by
  have lg := lfL_le w d k
  have k21 := hk.1
  obtain ⟨e1, e2, e3⟩ := hw d hd k hk
  have l16 := LM_lt (d := d) w hk
  have g16 := GM_lt (d := d) hk w
  unfold p_X4_isSo
  rw [clp (by omega), clp (by omega), e1, e2, e3]
  unfold soK at h1 h0
  have ks : kd = 0 ∨ kd = 1 ∨ kd = 2 ∨ kd = 3 ∨ kd = 4 ∨ kd = 5 ∨ kd = 6 := by omega
  rcases ks with rfl | rfl | rfl | rfl | rfl | rfl | rfl
  · refine ⟨fun _ => ⟨vin hd (by decide), vin k21 (by decide), ?_⟩, fun e => absurd e (by decide), fun e => absurd e (by decide), fun e => absurd e (by decide), fun e => absurd e (by decide), fun e => absurd e (by decide), fun e => absurd e (by decide), fun e => absurd rfl e⟩
    have v4 := hv2 (by decide)
    rw [e_bit _ g16 v v4]
    have key : GM s d k / 2 ^ v % 2 = 1 ↔ (gc k = v + 1 ∧ 0 < lfG s d k) ∨ (uc k = v + 1 ∧ 0 < lfU s d k) := by
      unfold GM
      rw [e_orb _ (gm_lt (gc_le hk.1)) _ (gm_lt (uc_le k)) v v4, gm_bit (gc_le hk.1) v4 (fun e => lfG_0 e), gm_bit (uc_le k) v4 (fun e => lfU_0 e)]
    refine ⟨fun z => h0 (fun r => z ?_), fun z => h1 (key.mp ?_)⟩
    · rw [key.mpr r]; rfl
    · exact eqi (b := 1) (by omega) (by decide) z
  · refine ⟨fun e => absurd e (by decide), fun _ => ⟨vin hd (by decide), vin k21 (by decide), ?_⟩, fun e => absurd e (by decide), fun e => absurd e (by decide), fun e => absurd e (by decide), fun e => absurd e (by decide), fun e => absurd e (by decide), fun _ e => absurd rfl e⟩
    have v4 := hv2 (by decide)
    rw [e_bit _ l16 v v4]
    refine ⟨fun z => h0 (fun r => z ?_), fun z => h1 ?_⟩
    · have r : LM s d k / 2 ^ v % 2 = 1 := r
      rw [r]; rfl
    · exact eqi (b := 1) (by omega) (by decide) z
  · refine ⟨fun e => absurd e (by decide), fun e => absurd e (by decide), fun _ => ⟨vin hd (by decide), vin k21 (by decide), ?_⟩, fun e => absurd e (by decide), fun e => absurd e (by decide), fun e => absurd e (by decide), fun e => absurd e (by decide), fun _ _ e => absurd rfl e⟩
    have v4 := hv2 (by decide)
    rw [e_bit _ l16 v v4]
    have mm : LM s d k / 2 ^ v % 2 = 0 ∨ LM s d k / 2 ^ v % 2 = 1 := by omega
    refine ⟨fun z => h0 (fun r => ?_), fun z => h1 (fun r => ?_)⟩
    · rcases mm with e | e
      · exact z (by rw [e]; rfl)
      · exact r e
    · have r : LM s d k / 2 ^ v % 2 = 1 := r
      rw [r] at z
      exact absurd z (by decide)
  · refine ⟨fun e => absurd e (by decide), fun e => absurd e (by decide), fun e => absurd e (by decide), fun _ => ⟨vin hd (by decide), vin k21 (by decide), fun a => ?_, fun a => ?_⟩, fun e => absurd e (by decide), fun e => absurd e (by decide), fun e => absurd e (by decide), fun _ _ _ e => absurd rfl e⟩
    · have a := lti (by omega) (by omega) a
      exact h0 (Nat.not_le.mpr a)
    · have a := nlti (by omega) (by omega) a
      exact h1 a
  · refine ⟨fun e => absurd e (by decide), fun e => absurd e (by decide), fun e => absurd e (by decide), fun e => absurd e (by decide), fun _ => ⟨vin hd (by decide), vin k21 (by decide), fun a => ?_, fun a => ?_⟩, fun e => absurd e (by decide), fun e => absurd e (by decide), fun _ _ _ _ e => absurd rfl e⟩
    · have a := lti (by omega) (by omega) a
      exact h0 (Nat.not_le.mpr a)
    · have a := nlti (by omega) (by omega) a
      exact h1 a
  · exact ⟨fun e => absurd e (by decide), fun e => absurd e (by decide), fun e => absurd e (by decide), fun e => absurd e (by decide), fun e => absurd e (by decide), fun _ => h1 trivial, fun e => absurd e (by decide), fun _ _ _ _ _ e => absurd rfl e⟩
  · refine ⟨fun e => absurd e (by decide), fun e => absurd e (by decide), fun e => absurd e (by decide), fun e => absurd e (by decide), fun e => absurd e (by decide), fun e => absurd e (by decide), fun _ => ⟨fun e => h0 (fun r => r ?_), fun e => h1 (fun r => e (by rw [r]; rfl))⟩, fun _ _ _ _ _ _ e => absurd rfl e⟩
    exact eqi (b := 0) (by omega) (by decide) e
/-- whatever the weather holds, some answer comes -/
theorem sp_isSoA {b d k kd v : Nat} {M : mM} {Q : Int32 → Prop} (hd : d < 4) (hk : k < 21) (hkd : kd ≤ 6) (h1 : Q 1) (h0 : Q 0) : p_X4_isSo b (nI kd) (nI v) (nI d) (nI k) M Q := by
  unfold p_X4_isSo
  have a1 := vin hd (by decide)
  have a2 := vin hk (by decide)
  refine ⟨fun _ => ⟨a1, a2, fun _ => h0, fun _ => h1⟩, fun _ => ⟨a1, a2, fun _ => h0, fun _ => h1⟩, fun _ => ⟨a1, a2, fun _ => h0, fun _ => h1⟩, fun _ => ⟨a1, a2, fun _ => h0, fun _ => h1⟩, fun _ => ⟨a1, a2, fun _ => h0, fun _ => h1⟩, fun _ => h1, fun _ => ⟨fun _ => h0, fun _ => h1⟩, fun _ _ _ _ _ _ _ => h1⟩
