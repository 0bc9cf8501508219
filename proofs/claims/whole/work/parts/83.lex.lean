/-! tokens of a text, as numbers -/
abbrev zT : Type := Nat × (Nat → Nat)
def rn (f : Nat → Bool) (t : zT) : Nat → Nat → Nat
  | 0, p => p
  | n + 1, p => if p < t.1 ∧ f (t.2 p) = true then rn f t n (p + 1) else p
def rq (f : Nat → Bool) (t : zT) (p : Nat) : Nat := rn f t (t.1 - p) p
theorem rn_sp (f : Nat → Bool) (t : zT) : ∀ n p, p + n = t.1 → p ≤ rn f t n p ∧ rn f t n p ≤ t.1 ∧ (∀ i, p ≤ i → i < rn f t n p → f (t.2 i) = true) ∧ (rn f t n p < t.1 → f (t.2 (rn f t n p)) = false)
  | 0, p, h => ⟨Nat.le_refl _, by show p ≤ t.1; omega, fun i h1 h2 => absurd h1 (by have h2 : i < p := h2; omega), fun h1 => by have h1 : p < t.1 := h1; omega⟩
  | n + 1, p, h => by
    have e : rn f t (n + 1) p = if p < t.1 ∧ f (t.2 p) = true then rn f t n (p + 1) else p := rfl
    by_cases z : p < t.1 ∧ f (t.2 p) = true
    · rw [e, if_pos z]
      obtain ⟨h1, h2, h3, h4⟩ := rn_sp f t n (p + 1) (by omega)
      refine ⟨by omega, h2, fun i i1 i2 => ?_, h4⟩
      by_cases y : i = p
      · rw [y]; exact z.2
      · exact h3 i (by omega) i2
    · rw [e, if_neg z]
      refine ⟨Nat.le_refl _, by omega, fun i h1 h2 => by omega, fun h1 => ?_⟩
      cases q : f (t.2 p)
      · rfl
      · exact absurd ⟨h1, q⟩ z
theorem rq_sp (f : Nat → Bool) {t : zT} {p : Nat} (h : p ≤ t.1) : p ≤ rq f t p ∧ rq f t p ≤ t.1 ∧ (∀ i, p ≤ i → i < rq f t p → f (t.2 i) = true) ∧ (rq f t p < t.1 → f (t.2 (rq f t p)) = false) := rn_sp f t _ p (by omega)
def isB (x : Nat) : Bool := decide (x = 32)
def isL (x : Nat) : Bool := decide (97 ≤ x ∧ x ≤ 122)
def isF (x : Nat) : Bool := decide (48 ≤ x ∧ x ≤ 57)
theorem isB_t {x : Nat} : isB x = true ↔ x = 32 := decide_eq_true_iff
theorem isL_t {x : Nat} : isL x = true ↔ 97 ≤ x ∧ x ≤ 122 := decide_eq_true_iff
theorem isF_t {x : Nat} : isF x = true ↔ 48 ≤ x ∧ x ≤ 57 := decide_eq_true_iff
theorem nB {x : Nat} (h : isB x = false) : x ≠ 32 := fun e => by rw [isB_t.mpr e] at h; exact absurd h (by decide)
theorem nL {x : Nat} (h : isL x = false) : ¬ (97 ≤ x ∧ x ≤ 122) := fun e => by rw [isL_t.mpr e] at h; exact absurd h (by decide)
theorem nF {x : Nat} (h : isF x = false) : ¬ (48 ≤ x ∧ x ≤ 57) := fun e => by rw [isF_t.mpr e] at h; exact absurd h (by decide)
/-- the words: where each stands, how long it is, its letters -/
def wdo (k : Nat) : Nat := [0, 6, 11, 17, 22, 27, 33, 39, 46, 51, 58, 63, 68, 72, 77].getD k 0
def wdn (k : Nat) : Nat := [5, 4, 5, 4, 4, 5, 5, 6, 4, 6, 4, 4, 3, 4].getD k 0
def wCh (k : Nat) : Nat := [115, 116, 117, 102, 102, 32, 114, 97, 105, 110, 32, 121, 101, 97, 114, 115, 32, 116, 117, 114, 110, 32, 108, 105, 107, 101, 32, 104, 97, 98, 105, 116, 32, 103, 114, 97, 105, 110, 32, 115, 104, 105, 110, 101, 115, 32, 100, 97, 114, 107, 32, 115, 116, 97, 110, 100, 115, 32, 119, 111, 114, 110, 32, 101, 100, 103, 101, 32, 99, 117, 116, 32, 99, 111, 112, 121, 32].getD k 0
theorem zCh_w : ∀ k, k < 77 → zCh k = nI (wCh k) := by decide +kernel
theorem w_sp : ∀ k, k < 14 → wCh (wdo k + wdn k) = 32 ∧ wdo (k + 1) = wdo k + wdn k + 1 ∧ wdo k + wdn k < 77 ∧ wdn k ≤ 6 ∧ 3 ≤ wdn k := by decide +kernel
theorem w_ch : ∀ k, k < 14 → ∀ j, j < 6 → j < wdn k → 97 ≤ wCh (wdo k + j) ∧ wCh (wdo k + j) ≤ 122 := by decide +kernel
theorem wCh_lt : ∀ k, k < 77 → wCh k < 256 := by decide +kernel
def wdM (t : zT) (s q k : Nat) : Prop := q - s = wdn k ∧ ∀ j, j < wdn k → t.2 (s + j) = wCh (wdo k + j)
noncomputable def wdF (t : zT) (s q : Nat) : Nat → Nat
  | 0 => 0
  | k + 1 => if wdF t s q k ≠ 0 then wdF t s q k else pqI (wdM t s q k) (k + 1) 0
theorem wdF_k {t : zT} {s q n : Nat} (h : wdF t s q n ≠ 0) : ∀ k, wdF t s q (n + k) = wdF t s q n
  | 0 => rfl
  | k + 1 => by
    show (if wdF t s q (n + k) ≠ 0 then wdF t s q (n + k) else pqI (wdM t s q (n + k)) (n + k + 1) 0) = _
    rw [wdF_k h k, if_pos h]
theorem wdF_hit {t : zT} {s q k : Nat} (hk : k < 14) (h0 : wdF t s q k = 0) (h : wdM t s q k) : wdF t s q 14 = k + 1 := by
  have e : wdF t s q (k + 1) = k + 1 := by
    show (if wdF t s q k ≠ 0 then wdF t s q k else pqI (wdM t s q k) (k + 1) 0) = _
    rw [if_neg (fun z => z h0), pqI_t h]
  have := wdF_k (t := t) (s := s) (q := q) (n := k + 1) (by omega) (14 - (k + 1))
  rw [show k + 1 + (14 - (k + 1)) = 14 by omega, e] at this
  exact this
theorem wdF_no {t : zT} {s q k : Nat} (h0 : wdF t s q k = 0) (h : ¬ wdM t s q k) : wdF t s q (k + 1) = 0 := by
  show (if wdF t s q k ≠ 0 then wdF t s q k else pqI (wdM t s q k) (k + 1) 0) = _
  rw [if_neg (fun z => z h0), pqI_f h]
theorem wdF_le (t : zT) (s q : Nat) : ∀ n, wdF t s q n ≤ n
  | 0 => Nat.le_refl _
  | n + 1 => by
    have := wdF_le t s q n
    unfold wdF
    split
    · omega
    · by_cases z : wdM t s q n
      · rw [pqI_t z]; omega
      · rw [pqI_f z]; omega
def nv (t : zT) (s : Nat) : Nat → Nat
  | 0 => 0
  | i + 1 => if i < 3 then 10 * nv t s i + (t.2 (s + i) - 48) else nv t s i
theorem nv_le {t : zT} {s : Nat} : ∀ n, (∀ i, i < n → t.2 (s + i) ≤ 57) → nv t s n ≤ 999 ∧ (n ≤ 2 → nv t s n ≤ 99) ∧ (n ≤ 1 → nv t s n ≤ 9) ∧ (n = 0 → nv t s n = 0)
  | 0, _ => ⟨Nat.zero_le _, fun _ => Nat.zero_le _, fun _ => Nat.zero_le _, fun _ => rfl⟩
  | n + 1, h => by
    obtain ⟨h1, h2, h3, h4⟩ := nv_le n (fun i hi => h i (by omega))
    have hn := h n (by omega)
    have e : nv t s (n + 1) = if n < 3 then 10 * nv t s n + (t.2 (s + n) - 48) else nv t s n := rfl
    rw [e]
    by_cases z : n < 3
    · rw [if_pos z]
      have : n = 0 ∨ n = 1 ∨ n = 2 := by omega
      rcases this with y | y | y
      · have := h4 y; omega
      · have := h3 (by omega); omega
      · have := h2 (by omega); omega
    · rw [if_neg z]
      omega
def tSt (t : zT) (p : Nat) : Nat := rq isB t p
def tEn (t : zT) (p : Nat) : Nat := if tSt t p = t.1 then tSt t p else if isL (t.2 (tSt t p)) = true then rq isL t (tSt t p) else if isF (t.2 (tSt t p)) = true then rq isF t (tSt t p) else tSt t p + 1
noncomputable def tKd (t : zT) (p : Nat) : Nat := if tSt t p = t.1 then 0 else if isL (t.2 (tSt t p)) = true then (if wdF t (tSt t p) (tEn t p) 14 = 0 then 4 else 1) else if isF (t.2 (tSt t p)) = true then (if 3 < tEn t p - tSt t p then 4 else 2) else if t.2 (tSt t p) = 59 then 3 else 4
noncomputable def tVl (t : zT) (p : Nat) : Nat := if isL (t.2 (tSt t p)) = true then wdF t (tSt t p) (tEn t p) 14 - 1 else nv t (tSt t p) (tEn t p - tSt t p)
theorem tSt_b {t : zT} {p : Nat} (h : p ≤ t.1) : p ≤ tSt t p ∧ tSt t p ≤ t.1 := ⟨(rq_sp isB h).1, (rq_sp isB h).2.1⟩
theorem tEn_b {t : zT} {p : Nat} (h : p ≤ t.1) : tSt t p ≤ tEn t p ∧ tEn t p ≤ t.1 ∧ (tKd t p ≠ 0 → tSt t p < tEn t p) := by
  obtain ⟨h1, h2⟩ := tSt_b h
  unfold tKd
  unfold tEn
  by_cases z : tSt t p = t.1
  · rw [if_pos z, if_pos z]
    exact ⟨Nat.le_refl _, by omega, fun e => absurd rfl e⟩
  · rw [if_neg z, if_neg z]
    by_cases l : isL (t.2 (tSt t p)) = true
    · rw [if_pos l]
      obtain ⟨a1, a2, a3, a4⟩ := rq_sp isL (t := t) h2
      refine ⟨a1, a2, fun _ => ?_⟩
      rcases Nat.lt_or_ge (tSt t p) (rq isL t (tSt t p)) with y | y
      · exact y
      · have e : rq isL t (tSt t p) = tSt t p := by omega
        have := a4 (by omega)
        rw [e, l] at this
        exact absurd this (by decide)
    · rw [if_neg l]
      by_cases f : isF (t.2 (tSt t p)) = true
      · rw [if_pos f]
        obtain ⟨a1, a2, a3, a4⟩ := rq_sp isF (t := t) h2
        refine ⟨a1, a2, fun _ => ?_⟩
        rcases Nat.lt_or_ge (tSt t p) (rq isF t (tSt t p)) with y | y
        · exact y
        · have e : rq isF t (tSt t p) = tSt t p := by omega
          have := a4 (by omega)
          rw [e, f] at this
          exact absurd this (by decide)
      · rw [if_neg f]
        exact ⟨by omega, by omega, fun _ => by omega⟩
theorem tKd_le (t : zT) (p : Nat) : tKd t p ≤ 4 := by
  unfold tKd
  split
  · omega
  · split
    · split <;> omega
    · split
      · split <;> omega
      · split <;> omega
theorem tVl_w {t : zT} {p : Nat} (h : tKd t p = 1) : tVl t p < 14 := by
  have le := wdF_le t (tSt t p) (tEn t p) 14
  unfold tKd at h
  unfold tVl
  by_cases z : tSt t p = t.1
  · rw [if_pos z] at h; omega
  · rw [if_neg z] at h
    by_cases l : isL (t.2 (tSt t p)) = true
    · rw [if_pos l] at h ⊢
      by_cases y : wdF t (tSt t p) (tEn t p) 14 = 0
      · rw [if_pos y] at h; omega
      · omega
    · rw [if_neg l] at h
      by_cases f : isF (t.2 (tSt t p)) = true
      · rw [if_pos f] at h
        split at h <;> omega
      · rw [if_neg f] at h
        split at h <;> omega
theorem tVl_n {t : zT} {p : Nat} (hp : p ≤ t.1) (h : tKd t p = 2) : tVl t p ≤ 999 := by
  obtain ⟨h1, h2⟩ := tSt_b hp
  have h0 := h
  unfold tKd at h
  unfold tVl
  by_cases z : tSt t p = t.1
  · rw [if_pos z] at h; omega
  · rw [if_neg z] at h
    by_cases l : isL (t.2 (tSt t p)) = true
    · rw [if_pos l] at h
      split at h <;> omega
    · rw [if_neg l] at h ⊢
      by_cases f : isF (t.2 (tSt t p)) = true
      · have e : tEn t p = rq isF t (tSt t p) := by
          unfold tEn
          rw [if_neg z, if_neg l, if_pos f]
        obtain ⟨a1, a2, a3, a4⟩ := rq_sp isF (t := t) h2
        refine (nv_le _ (fun i hi => ?_)).1
        rw [e] at hi
        exact (isF_t.mp (a3 (tSt t p + i) (by omega) (by omega))).2
      · rw [if_neg f] at h
        split at h <;> omega
/-! tokens of the class -/
def tX (M : mM) (b : Nat) (t : zT) : Prop := M.1 b 2 = nI t.1 ∧ ∀ j, j < t.1 → M.1 (b + 1) j &&& 255 = nI (t.2 j)
def tG (t : zT) : Prop := t.1 ≤ 300 ∧ ∀ j, t.2 j < 256
/-- only the token's own fields change -/
def fD (M M' : mM) (b : Nat) : Prop := (∀ k, k ≠ b → M'.1 k = M.1 k) ∧ M'.2 = M.2 ∧ M'.1 b 2 = M.1 b 2
theorem fD.rf {M : mM} {b : Nat} : fD M M b := ⟨fun _ _ => rfl, rfl, rfl⟩
theorem fD.tr {M M1 M2 : mM} {b : Nat} (h : fD M M1 b) (k : fD M1 M2 b) : fD M M2 b := ⟨fun q a => (k.1 q a).trans (h.1 q a), k.2.1.trans h.2.1, k.2.2.trans h.2.2⟩
theorem fD.st {M M1 : mM} {b j : Nat} {x : Int32} (h : fD M M1 b) (hj : j ≠ 2) : fD M (mI M1 b (upd (M1.1 b) j x)) b := ⟨fun q a => (mI_n a).trans (h.1 q a), h.2.1, by rw [mI_s, updN (fun e => hj e.symm)]; exact h.2.2⟩
theorem tX.D {M M' : mM} {b : Nat} {t : zT} (h : tX M b t) (f : fD M M' b) : tX M' b t := ⟨by rw [f.2.2]; exact h.1, fun j hj => by rw [f.1 _ (by omega)]; exact h.2 j hj⟩
theorem sp_byteAt {b i : Nat} {t : zT} {M : mM} {Q : Int32 → Prop} (hx : tX M b t) (hg : tG t) (hi : i ≤ 300) (h : ∀ r, (i < t.1 → r = nI (t.2 i)) → Q r) : p_X3_byteAt b (nI i) M Q := by
  have g1 := hg.1
  unfold p_X3_byteAt
  rw [clp (by omega)]
  refine ⟨fun q => absurd (lti (b := 0) (by omega) (by decide) q) (by omega), fun _ => ⟨fun q => h 0 (fun z => ?_), fun q => ⟨vin (nlei (a := 300) (by decide) (by omega) q) (by decide), h _ (fun z => hx.2 i z)⟩⟩⟩
  have q := lei (a := 300) (by decide) (by omega) q
  omega
theorem sp_byteIn {b i : Nat} {t : zT} {M : mM} {Q : Int32 → Prop} (hx : tX M b t) (hg : tG t) (hi : i < t.1) (h : Q (nI (t.2 i))) : p_X3_byteAt b (nI i) M Q := sp_byteAt hx hg (by have := hg.1; omega) (fun r hr => by rw [hr hi]; exact h)
theorem sp_isLetter {x : Nat} {M : mM} {Q : Int32 → Prop} (hx : x < 256) (h1 : isL x = true → Q 1) (h0 : isL x = false → Q 0) : p_X3_isLetter (nI x) M Q := by
  refine sp_within (lo := 97) (hi := 122) (by decide) (by decide) (fun q => ⟨by decide, h1 ?_⟩) (fun q => ⟨by decide, h0 ?_⟩)
  · obtain ⟨n, a, b, e⟩ := q
    have e := eqi (by omega) (by omega) e
    exact isL_t.mpr (by omega)
  · cases y : isL x
    · rfl
    · exact absurd ⟨x, (isL_t.mp y).1, (isL_t.mp y).2, rfl⟩ q
theorem sp_isFigure {x : Nat} {M : mM} {Q : Int32 → Prop} (hx : x < 256) (h1 : isF x = true → Q 1) (h0 : isF x = false → Q 0) : p_X3_isFigure (nI x) M Q := by
  refine sp_within (lo := 48) (hi := 57) (by decide) (by decide) (fun q => ⟨by decide, h1 ?_⟩) (fun q => ⟨by decide, h0 ?_⟩)
  · obtain ⟨n, a, b, e⟩ := q
    have e := eqi (by omega) (by omega) e
    exact isF_t.mpr (by omega)
  · cases y : isF x
    · rfl
    · exact absurd ⟨x, (isF_t.mp y).1, (isF_t.mp y).2, rfl⟩ q
/-- all letters so far alike -/
def wdA (t : zT) (s q k j : Nat) : Prop := ∀ i, i < j → i < q - s ∧ t.2 (s + i) = wCh (wdo k + i)
theorem sp_wordFrom {b s q : Nat} {t : zT} {M : mM} {Q : Int32 → Prop} (hx : tX M b t) (hg : tG t) (hs : s ≤ q) (hq : q ≤ t.1) (h3 : M.1 b 3 = nI q) (h : Q (oI (wdF t s q 14))) : p_X3_wordFrom b (nI s) M Q := by
  have g1 := hg.1
  have g2 := hg.2
  refine loopU (A := Nat × Nat × Int32) 77 (fun i x => (nI x.1, nI x.2.1, x.2.2, nI i)) (fun i x => x.1 ≤ 14 ∧ i = wdo x.1 + x.2.1 ∧ (x.1 < 14 → x.2.1 ≤ wdn x.1) ∧ wdF t s q x.1 = 0 ∧ ((x.2.2 = 1 ∧ wdA t s q x.1 x.2.1) ∨ (x.2.2 = 0 ∧ ¬ wdA t s q x.1 x.2.1))) (0, 0, 1) rfl ⟨Nat.zero_le _, rfl, fun _ => Nat.zero_le _, rfl, Or.inl ⟨rfl, fun i hi => absurd hi (Nat.not_lt_zero _)⟩⟩ ?_
  rintro i ⟨k, j, al⟩ ag hi ⟨k14, ei, kj, w0, hal⟩ hag
  have k14 : k ≤ 14 := k14
  have ei : i = wdo k + j := ei
  have kj : k < 14 → j ≤ wdn k := kj
  have w0 : wdF t s q k = 0 := w0
  have hal : (al = 1 ∧ wdA t s q k j) ∨ (al = 0 ∧ ¬ wdA t s q k j) := hal
  show p_X3_wordFrom_F10 b (nI s) M Q ag (nI k) (nI j) al (nI i)
  have kk : i < 77 → k < 14 := fun h => by
    rcases Nat.lt_or_ge k 14 with z | z
    · exact z
    · have : k = 14 := by omega
      rw [this] at ei
      have : wdo 14 = 77 := by decide
      omega
  unfold p_X3_wordFrom_F10
  rw [h3, nI_sub hs]
  refine ⟨fun z => ?_, fun z => ?_⟩
  · have z := lei (a := 77) (by decide) (by omega) z
    have : k = 14 := by
      rcases Nat.lt_or_ge k 14 with y | y
      · have := kj y
        have := (w_sp k y).2.2.1
        omega
      · omega
    rw [this] at w0
    rw [w0] at h
    exact h
  · have z := nlei (a := 77) (by decide) (by omega) z
    have k14 := kk z
    have jn := kj k14
    obtain ⟨s1, s2, s3, s4, s5⟩ := w_sp k k14
    have cl := wCh_lt i z
    rw [clp (by omega), zCh_w i z, show nI i + 1 = nI (i + 1) from nI_add i 1, show nI j + 1 = nI (j + 1) from nI_add j 1]
    refine ⟨vin z (by decide), fun y => ?_, fun y => ?_⟩
    · have jl : j < wdn k := by
        rcases Nat.lt_or_ge j (wdn k) with x | x
        · exact x
        · exfalso
          have : j = wdn k := by omega
          rw [ei, this, s1] at y
          exact y rfl
      have no : (¬ wdA t s q k (j + 1)) → ag (nI k, nI (j + 1), 0, nI (i + 1)) := fun n => hag z (k, j + 1, 0) ⟨by omega, by show i + 1 = wdo k + (j + 1); omega, fun _ => jl, w0, Or.inr ⟨rfl, n⟩⟩
      refine ⟨fun a0 => no (fun r => ?_), fun a1 => ⟨fun x => no (fun r => ?_), fun x => ?_⟩⟩
      · rcases hal with ⟨e, _⟩ | ⟨_, e⟩
        · rw [e] at a0; exact absurd a0 (by decide)
        · exact e (fun i' hi' => r i' (by omega))
      · have x := lei (by omega) (by omega) x
        have := (r j (by omega)).1
        omega
      · have x := nlei (by omega) (by omega) x
        rw [nI_add]
        have bl := g2 (s + j)
        refine sp_byteIn hx hg (by omega) ⟨fun v => no (fun r => v ?_), fun v => ?_⟩
        · rw [(r j (by omega)).2, ei]
        · have v := eqi (by omega) (by omega) v
          rcases hal with ⟨_, e⟩ | ⟨e, _⟩
          · refine hag z (k, j + 1, 1) ⟨by omega, by show i + 1 = wdo k + (j + 1); omega, fun _ => jl, w0, Or.inl ⟨rfl, fun i' hi' => ?_⟩⟩
            have hi' : i' < j + 1 := hi'
            rcases Nat.lt_or_ge i' j with u | u
            · exact e i' u
            · have : i' = j := by omega
              subst this
              exact ⟨x, by rw [v, ei]⟩
          · exact absurd e a1
    · have y := eqi (b := 32) (by omega) (by decide) y
      have jl : j = wdn k := by
        rcases Nat.lt_or_ge j (wdn k) with x | x
        · exfalso
          have := w_ch k k14 j (by omega) x
          rw [← ei] at this
          omega
        · omega
      have nx : (¬ wdM t s q k) → p_X3_wordFrom_J53 b (nI s) Q ag (nI k) (nI i) M := fun n => by
        show ag (nI k + 1, 0, 1, nI i + 1)
        rw [show nI i + 1 = nI (i + 1) from nI_add i 1, show nI k + 1 = nI (k + 1) from nI_add k 1]
        exact hag z (k + 1, 0, 1) ⟨by show k + 1 ≤ 14; omega, by show i + 1 = wdo (k + 1) + 0; omega, fun _ => Nat.zero_le _, wdF_no w0 n, Or.inl ⟨rfl, fun i' hi' => absurd hi' (Nat.not_lt_zero _)⟩⟩
      refine ⟨fun a0 => nx (fun r => ?_), fun a1 => ⟨fun x => nx (fun r => x ?_), fun x => ?_⟩⟩
      · rcases hal with ⟨e, _⟩ | ⟨_, e⟩
        · rw [e] at a0; exact absurd a0 (by decide)
        · exact e (fun i' hi' => ⟨by have := r.1; omega, r.2 i' (by omega)⟩)
      · rw [jl, r.1]
      · have x := eqi (by omega) (by omega) x
        have m : wdM t s q k := by
          rcases hal with ⟨_, e⟩ | ⟨e, _⟩
          · exact ⟨by omega, fun j' hj' => (e j' (by omega)).2⟩
          · exact absurd e a1
        rw [wdF_hit k14 w0 m, oI_s] at h
        exact h
/-- a token of the class stands -/
def CK (M : mM) (b : Nat) (t : zT) (p : Nat) : Prop := M.1 b 3 = nI (tEn t p) ∧ M.1 b 4 = nI (tKd t p) ∧ M.1 b 5 = nI (tSt t p) ∧ (tKd t p = 1 ∨ tKd t p = 2 → M.1 b 6 = nI (tVl t p))
theorem sp_readWord {b p : Nat} {t : zT} {M M0 : mM} {Q : mM → Prop} (hx : tX M b t) (hg : tG t) (f0 : fD M0 M b) (hp : p ≤ t.1) (hl : tSt t p ≠ t.1) (hL : isL (t.2 (tSt t p)) = true) (h3 : M.1 b 3 = nI (tSt t p)) (h5 : M.1 b 5 = nI (tSt t p)) (h : ∀ M', fD M0 M' b → CK M' b t p → Q M') : p_X3_readWord b M Q := by
  have g1 := hg.1
  obtain ⟨b1, b2⟩ := tSt_b hp
  have eE : tEn t p = rq isL t (tSt t p) := by
    unfold tEn
    rw [if_neg hl, if_pos hL]
  obtain ⟨e1, e2, e3, e4⟩ := rq_sp isL (t := t) b2
  rw [← eE] at e1 e2 e3 e4
  have eK : tKd t p = if wdF t (tSt t p) (tEn t p) 14 = 0 then 4 else 1 := by
    unfold tKd
    rw [if_neg hl, if_pos hL]
  have eV : tVl t p = wdF t (tSt t p) (tEn t p) 14 - 1 := by
    unfold tVl
    rw [if_pos hL]
  unfold CK at h
  rw [eK, eV] at h
  generalize tSt t p = s at *
  generalize tEn t p = q at *
  have wl := wdF_le t s q 14
  have fin : ∀ a : mM, fD M a b → a.1 b 3 = nI q → a.1 b 5 = nI s → p_X3_readWord_J38 b Q a := by
    intro a fa a3 a5
    unfold p_X3_readWord_J38
    rw [a5]
    refine sp_wordFrom (hx.D fa) hg e1 e2 a3 ?_
    intro M2 e2'
    have m6 : M2.1 b 6 = oI (wdF t s q 14) := by rw [e2', mI_s, updS]
    have f2 : fD M0 M2 b := by rw [e2']; exact (f0.tr fa).st (by decide)
    have m3 : M2.1 b 3 = nI q := by rw [e2', mI_s, updN (by decide)]; exact a3
    have m5 : M2.1 b 5 = nI s := by rw [e2', mI_s, updN (by decide)]; exact a5
    rw [m6]
    refine ⟨fun z => ?_, fun z => ?_⟩
    · have z : wdF t s q 14 ≠ 0 := fun e => z (by rw [e]; rfl)
      rw [if_neg z] at h
      rintro M3 rfl
      refine h _ (f2.st (by decide)) ⟨by rw [mI_s, updN (by decide)]; exact m3, by rw [mI_s, updS]; rfl, by rw [mI_s, updN (by decide)]; exact m5, fun _ => ?_⟩
      rw [mI_s, updN (by decide), m6, oI_p z]
    · have z : wdF t s q 14 = 0 := (oI_eq0 (by omega)).mp z
      rw [if_pos z] at h
      rintro M4 rfl
      exact h _ (f2.st (by decide)) ⟨by rw [mI_s, updN (by decide)]; exact m3, by rw [mI_s, updS]; rfl, by rw [mI_s, updN (by decide)]; exact m5, fun e => by omega⟩
  refine loopU (A := mM) (q - s) (fun i a => a) (fun i a => fD M a b ∧ a.1 b 3 = nI (s + i) ∧ a.1 b 5 = nI s) M rfl ⟨fD.rf, h3, h5⟩ ?_
  rintro i a ag hi ⟨fa, a3, a5⟩ hag
  show p_X3_readWord_F0 b Q ag a
  have xa := hx.D fa
  unfold p_X3_readWord_F0
  rw [xa.1, a3]
  refine ⟨fun z => ?_, fun z => ?_⟩
  · have z := lei (by omega) (by omega) z
    refine fin a fa ?_ a5
    rw [a3]; congr 1; omega
  · have z := nlei (by omega) (by omega) z
    refine sp_byteIn xa hg z (sp_isLetter (hg.2 _) (fun y => ⟨fun e => absurd e (by decide), fun _ => ?_⟩) (fun y => ⟨fun _ => fin a fa ?_ a5, fun e => absurd rfl e⟩))
    · rintro M7 rfl
      have lt : s + i < q := by
        rcases Nat.lt_or_ge (s + i) q with x | x
        · exact x
        · have e : s + i = q := by omega
          have := e4 (by omega)
          rw [← e, y] at this
          exact absurd this (by decide)
      refine hag (by omega) _ ⟨fa.st (by decide), ?_, by rw [mI_s, updN (by decide)]; exact a5⟩
      rw [mI_s, updS, show nI (s + i) + 1 = nI (s + i + 1) from nI_add _ 1]
      congr 1
    · rw [a3]
      congr 1
      rcases Nat.lt_or_ge (s + i) q with x | x
      · have := e3 (s + i) (by omega) x
        rw [this] at y
        exact absurd y (by decide)
      · omega
theorem sp_readNumber {b p : Nat} {t : zT} {M M0 : mM} {Q : mM → Prop} (hx : tX M b t) (hg : tG t) (f0 : fD M0 M b) (hp : p ≤ t.1) (hl : tSt t p ≠ t.1) (hL : isL (t.2 (tSt t p)) = false) (hF : isF (t.2 (tSt t p)) = true) (h3 : M.1 b 3 = nI (tSt t p)) (h5 : M.1 b 5 = nI (tSt t p)) (h : ∀ M', fD M0 M' b → CK M' b t p → Q M') : p_X3_readNumber b M Q := by
  have g1 := hg.1
  obtain ⟨b1, b2⟩ := tSt_b hp
  have hL' : ¬ isL (t.2 (tSt t p)) = true := by rw [hL]; decide
  have eE : tEn t p = rq isF t (tSt t p) := by
    unfold tEn
    rw [if_neg hl, if_neg hL', if_pos hF]
  obtain ⟨e1, e2, e3, e4⟩ := rq_sp isF (t := t) b2
  rw [← eE] at e1 e2 e3 e4
  have eK : tKd t p = if 3 < tEn t p - tSt t p then 4 else 2 := by
    unfold tKd
    rw [if_neg hl, if_neg hL', if_pos hF]
  have eV : tVl t p = nv t (tSt t p) (tEn t p - tSt t p) := by
    unfold tVl
    rw [if_neg hL']
  unfold CK at h
  rw [eK, eV] at h
  generalize tSt t p = s at *
  generalize tEn t p = q at *
  have fin : ∀ a : mM, fD M a b → a.1 b 3 = nI q → a.1 b 5 = nI s → a.1 b 6 = nI (nv t s (q - s)) → p_X3_readNumber_J79 b Q a := by
    intro a fa a3 a5 a6
    unfold p_X3_readNumber_J79
    rw [a3, a5, nI_sub e1]
    refine ⟨fun z => ?_, fun z => ?_⟩
    · have z := lei (b := 3) (by omega) (by decide) z
      rw [if_neg (by omega)] at h
      rintro M3 rfl
      exact h _ ((f0.tr fa).st (by decide)) ⟨by rw [mI_s, updN (by decide)]; exact a3, by rw [mI_s, updS]; rfl, by rw [mI_s, updN (by decide)]; exact a5, fun _ => by rw [mI_s, updN (by decide)]; exact a6⟩
    · have z := nlei (b := 3) (by omega) (by decide) z
      rw [if_pos (by omega)] at h
      rintro M4 rfl
      exact h _ ((f0.tr fa).st (by decide)) ⟨by rw [mI_s, updN (by decide)]; exact a3, by rw [mI_s, updS]; rfl, by rw [mI_s, updN (by decide)]; exact a5, fun e => by omega⟩
  unfold p_X3_readNumber
  rintro M1 rfl
  refine loopU (A := mM) (q - s) (fun i a => a) (fun i a => fD M a b ∧ a.1 b 3 = nI (s + i) ∧ a.1 b 5 = nI s ∧ a.1 b 6 = nI (nv t s i)) _ rfl ⟨fD.rf.st (by decide), by rw [mI_s, updN (by decide)]; exact h3, by rw [mI_s, updN (by decide)]; exact h5, by rw [mI_s, updS]; rfl⟩ ?_
  rintro i a ag hi ⟨fa, a3, a5, a6⟩ hag
  show p_X3_readNumber_F5 b Q ag a
  have xa := hx.D fa
  unfold p_X3_readNumber_F5
  rw [xa.1, a3]
  refine ⟨fun z => ?_, fun z => ?_⟩
  · have z := lei (by omega) (by omega) z
    have : s + i = q := by omega
    refine fin a fa (by rw [a3, this]) a5 ?_
    rw [a6, show q - s = i by omega]
  · have z := nlei (by omega) (by omega) z
    refine sp_byteIn xa hg z (sp_isFigure (hg.2 _) (fun y => ⟨fun e => absurd e (by decide), fun _ => ?_⟩) (fun y => ⟨fun _ => ?_, fun e => absurd rfl e⟩))
    · have lt : s + i < q := by
        rcases Nat.lt_or_ge (s + i) q with x | x
        · exact x
        · have e : s + i = q := by omega
          have := e4 (by omega)
          rw [← e, y] at this
          exact absurd this (by decide)
      have nvl := nv_le (t := t) (s := s) i (fun j hj => (isF_t.mp (e3 (s + j) (by omega) (by omega))).2)
      have fy := isF_t.mp y
      have en : nv t s (i + 1) = if i < 3 then 10 * nv t s i + (t.2 (s + i) - 48) else nv t s i := rfl
      have J66 : ∀ a' : mM, fD M a' b → a'.1 b 3 = nI (s + i) → a'.1 b 5 = nI s → a'.1 b 6 = nI (nv t s (i + 1)) → p_X3_readNumber_J66 b Q ag a' := by
        intro a' fa' a3' a5' a6'
        unfold p_X3_readNumber_J66
        rintro M6 rfl
        refine hag (by omega) _ ⟨fa'.st (by decide), ?_, by rw [mI_s, updN (by decide)]; exact a5', by rw [mI_s, updN (by decide)]; exact a6'⟩
        rw [mI_s, updS, a3', show nI (s + i) + 1 = nI (s + i + 1) from nI_add _ 1]
        congr 1
      rw [a5, nI_sub (by omega), show s + i - s = i by omega]
      refine ⟨fun x => ?_, fun x => ?_⟩
      · have x := lei (a := 3) (by decide) (by omega) x
        refine J66 a fa a3 a5 ?_
        rw [en, if_neg (by omega)]; exact a6
      · have x := nlei (a := 3) (by decide) (by omega) x
        refine sp_byteIn xa hg z ?_
        rintro M8 rfl
        refine J66 _ (fa.st (by decide)) (by rw [mI_s, updN (by decide)]; exact a3) (by rw [mI_s, updN (by decide)]; exact a5) ?_
        rw [mI_s, updS, a6, en, if_pos x, show (10 : Int32) * nI (nv t s i) = nI (10 * nv t s i) from pk_mul 10 _, nI_add, show nI (10 * nv t s i + t.2 (s + i)) - 48 = nI (10 * nv t s i + t.2 (s + i) - 48) from pk_sub (b := 48) (by omega)]
        congr 1; omega
    · have : s + i = q := by
        rcases Nat.lt_or_ge (s + i) q with x | x
        · have := e3 (s + i) (by omega) x
          rw [this] at y
          exact absurd y (by decide)
        · omega
      refine fin a fa (by rw [a3, this]) a5 ?_
      rw [a6, show q - s = i by omega]
theorem sp_readToken {b p : Nat} {t : zT} {M : mM} {Q : mM → Prop} (hx : tX M b t) (hg : tG t) (hp : p ≤ t.1) (h3 : M.1 b 3 = nI p) (h : ∀ M', fD M M' b → CK M' b t p → Q M') : p_X3_readToken b M Q := by
  have g1 := hg.1
  obtain ⟨b1, b2, b3, b4⟩ := rq_sp isB (t := t) hp
  have J37 : ∀ a : mM, fD M a b → a.1 b 3 = nI (tSt t p) → p_X3_readToken_J37 b Q a := by
    intro a fa a3
    unfold p_X3_readToken_J37
    intro M1 e1
    have f1 : fD M M1 b := by rw [e1]; exact fa.st (by decide)
    have m3 : M1.1 b 3 = nI (tSt t p) := by rw [e1, mI_s, updN (by decide)]; exact a3
    have m5 : M1.1 b 5 = nI (tSt t p) := by rw [e1, mI_s, updS]; exact a3
    clear e1
    have x1 := hx.D f1
    have sb : tSt t p ≤ t.1 := b2
    rw [m3, x1.1]
    refine sp_byteAt x1 hg (by omega) (fun r hr => ⟨fun z => ?_, fun z => ?_⟩)
    · have z := lti (by omega) (by omega) z
      have hl : tSt t p ≠ t.1 := by omega
      rw [hr z]
      refine sp_isLetter (hg.2 _) (fun y => ⟨fun e => absurd e (by decide), fun _ => ?_⟩) (fun y => ⟨fun _ => ?_, fun e => absurd rfl e⟩)
      · exact sp_readWord x1 hg f1 hp hl y m3 m5 h
      · refine sp_isFigure (hg.2 _) (fun x => ⟨fun e => absurd e (by decide), fun _ => ?_⟩) (fun x => ⟨fun _ => ?_, fun e => absurd rfl e⟩)
        · exact sp_readNumber x1 hg f1 hp hl y x m3 m5 h
        · have yL : ¬ isL (t.2 (tSt t p)) = true := by rw [y]; decide
          have xF : ¬ isF (t.2 (tSt t p)) = true := by rw [x]; decide
          have eE : tEn t p = tSt t p + 1 := by
            unfold tEn
            rw [if_neg hl, if_neg yL, if_neg xF]
          have eK : tKd t p = if t.2 (tSt t p) = 59 then 3 else 4 := by
            unfold tKd
            rw [if_neg hl, if_neg yL, if_neg xF]
          have bb := hg.2 (tSt t p)
          have J113 : ∀ kd : Nat, kd = tKd t p → 3 ≤ kd → p_X3_readToken_J113 b Q (nI kd) M1 := by
            intro kd hk k3
            unfold p_X3_readToken_J113
            rintro M5 rfl M6 rfl
            refine h _ ((f1.st (by decide)).st (by decide)) ⟨?_, ?_, ?_, fun e => by omega⟩
            · rw [mI_s, updS, mI_s, updN (by decide), m3, eE]
              exact nI_add _ 1
            · rw [mI_s, updN (by decide), mI_s, updS, hk]
            · rw [mI_s, updN (by decide), mI_s, updN (by decide)]; exact m5
          refine ⟨fun v => J113 4 (by rw [eK, if_neg (fun e => v (by rw [e]; rfl))]) (by decide), fun v => J113 3 (by rw [eK, if_pos (eqi (b := 59) (by omega) (by decide) v)]) (by decide)⟩
    · have z := nlti (by omega) (by omega) z
      have hl : tSt t p = t.1 := by omega
      have eE : tEn t p = tSt t p := by
        unfold tEn
        rw [if_pos hl]
      have eK : tKd t p = 0 := by
        unfold tKd
        rw [if_pos hl]
      rintro M9 rfl
      exact h _ (f1.st (by decide)) ⟨by rw [mI_s, updN (by decide), eE]; exact m3, by rw [mI_s, updS, eK]; rfl, by rw [mI_s, updN (by decide)]; exact m5, fun e => by omega⟩
  refine loopU (A := mM) (tSt t p - p) (fun i a => a) (fun i a => fD M a b ∧ a.1 b 3 = nI (p + i)) M rfl ⟨fD.rf, h3⟩ ?_
  rintro i a ag hi ⟨fa, a3⟩ hag
  show p_X3_readToken_F0 b Q ag a
  have xa := hx.D fa
  have b1 : p ≤ tSt t p := b1
  have b2 : tSt t p ≤ t.1 := b2
  unfold p_X3_readToken_F0
  rw [xa.1, a3]
  refine ⟨fun z => ?_, fun z => ?_⟩
  · have z := lei (by omega) (by omega) z
    refine J37 a fa ?_
    rw [a3]; congr 1; omega
  · have z := nlei (by omega) (by omega) z
    have bb := hg.2 (p + i)
    refine sp_byteIn xa hg z ⟨fun y => J37 a fa ?_, fun y => ?_⟩
    · rw [a3]; congr 1
      rcases Nat.lt_or_ge (p + i) (tSt t p) with x | x
      · have := isB_t.mp (b3 (p + i) (by omega) x)
        rw [this] at y
        exact absurd rfl y
      · omega
    · have y := eqi (b := 32) (by omega) (by decide) y
      have lt : p + i < tSt t p := by
        rcases Nat.lt_or_ge (p + i) (tSt t p) with x | x
        · exact x
        · have e : p + i = tSt t p := by omega
          have b4 := b4 (by show tSt t p < t.1; omega)
          exact absurd (by rw [e] at y; exact y) (nB b4)
      rintro M11 rfl
      refine hag (by omega) _ ⟨fa.st (by decide), ?_⟩
      rw [mI_s, updS, show nI (p + i) + 1 = nI (p + i + 1) from nI_add _ 1]
      congr 1
