/-! items of a text; the class reads and tells one -/
noncomputable def fstP (P : Nat → Prop) : Nat → Nat
  | 0 => 0
  | k + 1 => if fstP P k < k then fstP P k else pqI (P k) k (k + 1)
theorem fstP_no {P : Nat → Prop} : ∀ k, (∀ j, j < k → ¬ P j) → fstP P k = k
  | 0, _ => rfl
  | k + 1, h => by
    show (if fstP P k < k then fstP P k else pqI (P k) k (k + 1)) = _
    rw [fstP_no k (fun j hj => h j (by omega)), if_neg (Nat.lt_irrefl k), pqI_f (h k (by omega))]
theorem fstP_hit {P : Nat → Prop} {i : Nat} (h0 : ∀ j, j < i → ¬ P j) (h : P i) : ∀ k, fstP P (i + 1 + k) = i
  | 0 => by
    show (if fstP P i < i then fstP P i else pqI (P i) i (i + 1)) = _
    rw [fstP_no i h0, if_neg (Nat.lt_irrefl i), pqI_t h]
  | k + 1 => by
    show (if fstP P (i + 1 + k) < i + 1 + k then fstP P (i + 1 + k) else pqI (P (i + 1 + k)) (i + 1 + k) (i + 1 + k + 1)) = _
    rw [fstP_hit h0 h k, if_pos (by omega)]
theorem fstP_at {P : Nat → Prop} {i n : Nat} (h0 : ∀ j, j < i → ¬ P j) (h : P i) (hn : i < n) : fstP P n = i := by
  have := fstP_hit h0 h (n - (i + 1))
  rw [show i + 1 + (n - (i + 1)) = n by omega] at this
  exact this
def nmb (k : Nat) : Nat := [4, 2, 1, 1, 1, 2, 2, 2, 2, 2, 2, 2, 1, 2].getD k 0
theorem nmb_z : ∀ k, k < 14 → zF 3 k = nI (nmb k) := by decide +kernel
theorem nmb_b : ∀ k, k < 14 → 1 ≤ nmb k ∧ nmb k ≤ 4 := by decide +kernel
def pos (t : zT) (p : Nat) : Nat → Nat
  | 0 => p
  | k + 1 => tEn t (pos t p k)
theorem pos_le {t : zT} {p : Nat} (h : p ≤ t.1) : ∀ k, pos t p k ≤ t.1
  | 0 => h
  | k + 1 => (tEn_b (pos_le h k)).2.1
def badK (t : zT) (p i : Nat) : Prop := (i = 0 ∧ tKd t p ≠ 1) ∨ (0 < i ∧ i ≤ nmb (tVl t p) ∧ tKd t (pos t p i) ≠ 2) ∨ (i = nmb (tVl t p) + 1 ∧ tKd t (pos t p i) ≠ 3)
def itOK (t : zT) (p : Nat) : Prop := ∀ i, i ≤ nmb (tVl t p) + 1 → ¬ badK t p i
noncomputable def fpos (t : zT) (p : Nat) : Nat := tSt t (pos t p (fstP (badK t p) 6))
theorem fpos_at {t : zT} {p i : Nat} (h0 : ∀ j, j < i → ¬ badK t p j) (h : badK t p i) (hi : i < 6) : fpos t p = tSt t (pos t p i) := by
  unfold fpos
  rw [fstP_at h0 h hi]
noncomputable def nxt (t : zT) (p : Nat) : Nat := pos t p (nmb (tVl t p) + 2)
noncomputable def ip (t : zT) : Nat → Nat
  | 0 => 0
  | n + 1 => nxt t (ip t n)
theorem ip_le (t : zT) : ∀ n, ip t n ≤ t.1
  | 0 => Nat.zero_le _
  | n + 1 => pos_le (ip_le t n) _
theorem pos_gt {t : zT} {p : Nat} (h : p ≤ t.1) {w : Nat} (hw : ∀ i, i < w → tKd t (pos t p i) ≠ 0) : ∀ k, k ≤ w → p + k ≤ pos t p k
  | 0, _ => Nat.le_refl _
  | k + 1, hk => by
    have h1 := pos_gt h hw k (by omega)
    have h2 := tEn_b (pos_le h k)
    have h3 := h2.2.2 (hw k (by omega))
    have h4 := (tSt_b (pos_le h k)).1
    show p + (k + 1) ≤ tEn t (pos t p k)
    omega
theorem it_kd {t : zT} {p i : Nat} (h : itOK t p) (hi : i ≤ nmb (tVl t p) + 1) : tKd t (pos t p i) ≠ 0 := by
  have h1 := h i hi
  intro e
  rcases Nat.eq_zero_or_pos i with z | z
  · subst z
    exact h1 (Or.inl ⟨rfl, by have e : tKd t p = 0 := e; omega⟩)
  · rcases Nat.lt_or_ge (nmb (tVl t p)) i with y | y
    · exact h1 (Or.inr (Or.inr ⟨by omega, by omega⟩))
    · exact h1 (Or.inr (Or.inl ⟨z, y, by omega⟩))
theorem nxt_gt {t : zT} {p : Nat} (hp : p ≤ t.1) (h : itOK t p) : p + 2 ≤ nxt t p := by
  have := pos_gt hp (w := nmb (tVl t p) + 2) (fun i hi => it_kd h (by omega)) (nmb (tVl t p) + 2) (Nat.le_refl _)
  unfold nxt
  omega
def stp (t : zT) (n : Nat) : Prop := tKd t (ip t n) = 0 ∨ ¬ itOK t (ip t n)
theorem ip_2 {t : zT} : ∀ n, (∀ j, j < n → ¬ stp t j) → 2 * n ≤ ip t n
  | 0, _ => Nat.le_refl _
  | n + 1, h => by
    have h1 := ip_2 n (fun j hj => h j (by omega))
    have h2 : itOK t (ip t n) := by
      by_cases z : itOK t (ip t n)
      · exact z
      · exact absurd (Or.inr z) (h n (by omega))
    have h3 := nxt_gt (ip_le t n) h2
    show 2 * (n + 1) ≤ nxt t (ip t n)
    omega
/-- the class's item frame -/
def fF (M M' : mM) (b : Nat) : Prop := (∀ k, k ≠ b → k ≠ b + 2 → M'.1 k = M.1 k) ∧ M'.2 = M.2 ∧ M'.1 b 2 = M.1 b 2
theorem fF.rf {M : mM} {b : Nat} : fF M M b := ⟨fun _ _ _ => rfl, rfl, rfl⟩
theorem fF.tr {M M1 M2 : mM} {b : Nat} (h : fF M M1 b) (k : fF M1 M2 b) : fF M M2 b := ⟨fun q a c => (k.1 q a c).trans (h.1 q a c), k.2.1.trans h.2.1, k.2.2.trans h.2.2⟩
theorem fF_D {M M' : mM} {b : Nat} (h : fD M M' b) : fF M M' b := ⟨fun k a _ => h.1 k a, h.2.1, h.2.2⟩
theorem tX.F {M M' : mM} {b : Nat} {t : zT} (h : tX M b t) (f : fF M M' b) : tX M' b t := ⟨by rw [f.2.2]; exact h.1, fun j hj => by rw [f.1 _ (by omega) (by omega)]; exact h.2 j hj⟩
theorem fF.fr {M M' : mM} {b : Nat} (h : fF M M' b) : fr M M' b (b + 3) := ⟨fun k hk => h.1 k (by omega) (by omega), fun k _ => by rw [h.2.1]⟩
theorem sp_readItem {b p : Nat} {t : zT} {M : mM} {Q : Int32 → mM → Prop} (hx : tX M b t) (hg : tG t) (hp : p ≤ t.1) (hk : CK M b t p) (h1 : itOK t p → ∀ M', fF M M' b → M'.1 b 3 = nI (nxt t p) → (∀ i, i < nmb (tVl t p) → M'.1 (b + 2) i = nI (tVl t (pos t p (i + 1)))) → Q 1 M') (h0 : ¬ itOK t p → ∀ M', fF M M' b → M'.1 b 5 = nI (fpos t p) → Q 0 M') : p_X3_readItem b M Q := by
  have g1 := hg.1
  obtain ⟨k1, k2, k3, k4⟩ := hk
  have kl := tKd_le t p
  unfold p_X3_readItem
  rw [k2]
  refine ⟨fun z => ?_, fun z => ?_⟩
  · have z : tKd t p ≠ 1 := fun e => z (by rw [e]; rfl)
    have bd : badK t p 0 := Or.inl ⟨rfl, z⟩
    refine h0 (fun r => r 0 (by omega) bd) M fF.rf ?_
    rw [k3, fpos_at (fun j hj => absurd hj (Nat.not_lt_zero _)) bd (by decide)]; rfl
  have z : tKd t p = 1 := eqi (b := 1) (by omega) (by decide) z
  have v14 := tVl_w z
  obtain ⟨n1, n4⟩ := nmb_b _ v14
  rw [k4 (Or.inl z)]
  refine sp_within (lo := 0) (hi := 13) (by decide) (by decide) (fun _ => ⟨fun _ => ⟨vin v14 (by decide), ?_⟩, fun e => absurd e (by decide)⟩) (fun q => absurd ⟨tVl t p, by omega, by omega, rfl⟩ q)
  rw [clp (by omega), nmb_z _ v14]
  rintro x3 rfl
  generalize hw : nmb (tVl t p) = w at *
  refine loopU (A := mM) w (fun i a => (nI i, a)) (fun i a => fF M a b ∧ a.1 b 3 = nI (pos t p (i + 1)) ∧ (∀ j, j ≤ i → ¬ badK t p j) ∧ ∀ j, j < i → a.1 (b + 2) j = nI (tVl t (pos t p (j + 1)))) M rfl ⟨fF.rf, k1, fun j hj => ?_, fun j hj => absurd hj (Nat.not_lt_zero _)⟩ ?_
  · have : j = 0 := by omega
    subst this
    rintro (⟨_, e⟩ | ⟨e, _⟩ | ⟨e, _⟩)
    · exact e z
    · omega
    · omega
  rintro i a ag hi ⟨fa, a3, nb, an⟩ hag
  show p_X3_readItem_F38 b (nI w) Q ag (nI i) a
  have xa := hx.F fa
  have pl := pos_le hp (i + 1)
  unfold p_X3_readItem_F38
  have J82 : i = w → p_X3_readItem_J82 b Q a := by
    intro e
    subst e
    refine sp_readToken xa hg pl a3 (fun M4 f4 c4 => ?_)
    obtain ⟨d1, d2, d3, d4⟩ := c4
    have kl2 := tKd_le t (pos t p (i + 1))
    rw [d2]
    refine ⟨fun y => ?_, fun y => ?_⟩
    · have y : tKd t (pos t p (i + 1)) ≠ 3 := fun e => y (by rw [e]; rfl)
      have bd : badK t p (i + 1) := Or.inr (Or.inr ⟨by omega, y⟩)
      refine h0 (fun r => r (i + 1) (by omega) bd) M4 (fa.tr (fF_D f4)) ?_
      rw [d3, fpos_at (fun j hj => nb j (by omega)) bd (by omega)]
    · have y := eqi (b := 3) (by omega) (by decide) y
      refine h1 (fun j hj => ?_) M4 (fa.tr (fF_D f4)) ?_ (fun j hj => ?_)
      · rcases Nat.lt_or_ge i j with x | x
        · have : j = i + 1 := by omega
          subst this
          rintro (⟨e, _⟩ | ⟨_, e, _⟩ | ⟨_, e⟩)
          · omega
          · omega
          · exact e y
        · exact nb j x
      · rw [d1]
        show _ = nI (pos t p (nmb (tVl t p) + 2))
        rw [hw]; rfl
      · rw [f4.1 _ (by omega)]; exact an j hj
  refine ⟨fun y => J82 ?_, fun y => ⟨fun x => ?_, fun x => ?_⟩⟩
  · have y := lei (by omega) (by omega) y
    omega
  · have y := nlei (by omega) (by omega) y
    have x := lei (a := 4) (by decide) (by omega) x
    omega
  · have y := nlei (by omega) (by omega) y
    refine sp_readToken xa hg pl a3 (fun M5 f5 c5 => ?_)
    obtain ⟨d1, d2, d3, d4⟩ := c5
    have kl2 := tKd_le t (pos t p (i + 1))
    rw [d2]
    refine ⟨fun v => ⟨vin (by omega) (by decide), ?_⟩, fun v => ?_⟩
    · have v := eqi (b := 2) (by omega) (by decide) v
      rw [d4 (Or.inr v), clp (by omega), show nI i + 1 = nI (i + 1) from nI_add i 1]
      rintro M6 rfl
      have F6 : fF M (mI M5 (b + 2) (upd (M5.1 (b + 2)) i (nI (tVl t (pos t p (i + 1)))))) b := ⟨fun k a c => (mI_n c).trans ((fa.tr (fF_D f5)).1 k a c), (fa.tr (fF_D f5)).2.1, by rw [mI_o (by omega)]; exact (fa.tr (fF_D f5)).2.2⟩
      refine hag y _ ⟨F6, by rw [mI_o (by omega)]; exact d1, fun j hj => ?_, fun j hj => ?_⟩
      · rcases Nat.lt_or_ge i j with u | u
        · have : j = i + 1 := by omega
          subst this
          rintro (⟨e, _⟩ | ⟨_, _, e⟩ | ⟨e, _⟩)
          · omega
          · exact e v
          · omega
        · exact nb j u
      · rw [mI_s]
        by_cases u : j = i
        · rw [u, updS]
        · rw [updN u, f5.1 _ (by omega)]; exact an j (by omega)
    · have v : tKd t (pos t p (i + 1)) ≠ 2 := fun e => v (by rw [e]; rfl)
      have bd : badK t p (i + 1) := Or.inr (Or.inl ⟨by omega, by omega, v⟩)
      refine h0 (fun r => r (i + 1) (by omega) bd) M5 (fa.tr (fF_D f5)) ?_
      rw [d3, fpos_at (fun j hj => nb j (by omega)) bd (by omega)]
/-! an item told -/
abbrev zX : Type := (Nat → Nat) × (Nat → Nat)
noncomputable def tI (wd : Nat) (n : Nat → Nat) (x : zX) : Int32 × zX := if wd = 0 then ((f_stuff (nI (n 0)) (nI (n 1)) (nI (n 2)) (nI (n 3)) x.1).1, (f_stuff (nI (n 0)) (nI (n 1)) (nI (n 2)) (nI (n 3)) x.1).2, x.2) else if wd = 1 then (if n 0 < 4 then ((f_put (nI (n 0)) (nI (n 1)) x.1).1, (f_put (nI (n 0)) (nI (n 1)) x.1).2, x.2) else (-2, x)) else if wd = 2 then ((f_put 4 (nI (n 0)) x.1).1, (f_put 4 (nI (n 0)) x.1).2, x.2) else if wd = 3 then ((f_put 5 (nI (n 0)) x.1).1, (f_put 5 (nI (n 0)) x.1).2, x.2) else if wd = 4 then ((f_put 6 (nI (n 0)) x.1).1, (f_put 6 (nI (n 0)) x.1).2, x.2) else if wd = 5 then ((f_habit (nI (n 0)) (nI (n 1)) x.1).1, (f_habit (nI (n 0)) (nI (n 1)) x.1).2, x.2) else if wd = 12 then ((f_trace (nI (n 0)) 6 0 x.1).1, (f_trace (nI (n 0)) 6 0 x.1).2, x.2) else if wd = 13 then ((f_copy (nI (n 0)) (nI (n 1)) x.1 x.2).1, x.1, (f_copy (nI (n 0)) (nI (n 1)) x.1 x.2).2) else ((f_trace (nI (n 0)) (nI (wd - 6)) (nI (n 1)) x.1).1, (f_trace (nI (n 0)) (nI (wd - 6)) (nI (n 1)) x.1).2, x.2)
theorem WF_tI {wd : Nat} {n : Nat → Nat} {x : zX} (h : WF x.1 x.2) : WF (tI wd n x).2.1 (tI wd n x).2.2 := by
  unfold tI
  by_cases a0 : wd = 0
  · rw [if_pos a0]; exact WF_stuff h
  rw [if_neg a0]
  by_cases a1 : wd = 1
  · rw [if_pos a1]
    by_cases z : n 0 < 4
    · rw [if_pos z]; exact WF_put h
    · rw [if_neg z]; exact h
  rw [if_neg a1]
  by_cases a2 : wd = 2
  · rw [if_pos a2]; exact WF_put h
  rw [if_neg a2]
  by_cases a3 : wd = 3
  · rw [if_pos a3]; exact WF_put h
  rw [if_neg a3]
  by_cases a4 : wd = 4
  · rw [if_pos a4]; exact WF_put h
  rw [if_neg a4]
  by_cases a5 : wd = 5
  · rw [if_pos a5]; exact WF_habit h
  rw [if_neg a5]
  by_cases a12 : wd = 12
  · rw [if_pos a12]; exact WF_trace h
  rw [if_neg a12]
  by_cases a13 : wd = 13
  · rw [if_pos a13]; exact WF_copy h
  rw [if_neg a13]; exact WF_trace h
theorem sp_answerTo {b g wd : Nat} {n : Nat → Nat} {x : zX} {M : mM} {Q : Int32 → mM → Prop} (hs : ST M g x.1 x.2) (w : WF x.1 x.2) (hwd : wd < 14) (hn : ∀ i, i < nmb wd → M.1 (b + 2) i = nI (n i)) (hl : ∀ i, n i < 1000) (h : ∀ M', fr M M' g (g + 12) → ST M' g (tI wd n x).2.1 (tI wd n x).2.2 → Q (tI wd n x).1 M') : p_X3_answerTo b g (nI wd) M Q := by
  have w0 := w.1
  have w1 := w.2.1
  unfold tI at h
  have e : ∀ c : Nat, c < 1000 → (nI wd = nI c → wd = c) := fun c hc q => eqi (by omega) (by omega) q
  have J : (6 ≤ wd ∧ wd ≤ 11) → p_X3_answerTo_J218 b g (nI wd) Q M := by
    intro kk
    rw [if_neg (by omega), if_neg (by omega), if_neg (by omega), if_neg (by omega), if_neg (by omega), if_neg (by omega), if_neg (by omega), if_neg (by omega)] at h
    have nm : nmb wd = 2 := by
      have : ∀ k, k < 14 → (6 ≤ k ∧ k ≤ 11) → nmb k = 2 := by decide +kernel
      exact this wd hwd kk
    unfold p_X3_answerTo_J218
    rw [show M.1 (b + 2) (0 : Int32).toNatClampNeg = nI (n 0) from hn 0 (by omega), show M.1 (b + 2) (1 : Int32).toNatClampNeg = nI (n 1) from hn 1 (by omega), show nI wd - 6 = nI (wd - 6) from pk_sub (b := 6) (by omega)]
    exact sp_addTrace hs w0 w1 h
  refine ⟨fun q => ?_, fun q => ?_, fun q => ?_, fun q => ?_, fun q => ?_, fun q => ?_, fun q => J (by have := e 6 (by decide) q; omega), fun q => J (by have := e 7 (by decide) q; omega), fun q => J (by have := e 8 (by decide) q; omega), fun q => J (by have := e 9 (by decide) q; omega), fun q => J (by have := e 10 (by decide) q; omega), fun q => J (by have := e 11 (by decide) q; omega), fun q => ?_, fun q => ?_, fun q0 q1 q2 q3 q4 q5 q6 q7 q8 q9 q10 q11 q12 q13 => ?_⟩
  · have q := e 0 (by decide) q
    subst q
    rw [if_pos rfl] at h
    rw [show M.1 (b + 2) (0 : Int32).toNatClampNeg = nI (n 0) from hn 0 (by decide), show M.1 (b + 2) (1 : Int32).toNatClampNeg = nI (n 1) from hn 1 (by decide), show M.1 (b + 2) (2 : Int32).toNatClampNeg = nI (n 2) from hn 2 (by decide), show M.1 (b + 2) (3 : Int32).toNatClampNeg = nI (n 3) from hn 3 (by decide)]
    exact sp_addStuff hs w0 h
  · have q := e 1 (by decide) q
    subst q
    have l0 := hl 0
    rw [if_neg (by decide), if_pos rfl] at h
    rw [show M.1 (b + 2) (0 : Int32).toNatClampNeg = nI (n 0) from hn 0 (by decide), show M.1 (b + 2) (1 : Int32).toNatClampNeg = nI (n 1) from hn 1 (by decide)]
    refine ⟨fun z => ?_, fun z => ?_⟩
    · have z := lei (a := 4) (by decide) (by omega) z
      rw [if_neg (by omega)] at h
      exact h M fr.rf hs
    · have z := nlei (a := 4) (by decide) (by omega) z
      rw [if_pos z] at h
      exact sp_set_ hs h
  · have q := e 2 (by decide) q
    subst q
    rw [if_neg (by decide), if_neg (by decide), if_pos rfl] at h
    rw [show M.1 (b + 2) (0 : Int32).toNatClampNeg = nI (n 0) from hn 0 (by decide)]
    exact sp_set_ hs h
  · have q := e 3 (by decide) q
    subst q
    rw [if_neg (by decide), if_neg (by decide), if_neg (by decide), if_pos rfl] at h
    rw [show M.1 (b + 2) (0 : Int32).toNatClampNeg = nI (n 0) from hn 0 (by decide)]
    exact sp_set_ hs h
  · have q := e 4 (by decide) q
    subst q
    rw [if_neg (by decide), if_neg (by decide), if_neg (by decide), if_neg (by decide), if_pos rfl] at h
    rw [show M.1 (b + 2) (0 : Int32).toNatClampNeg = nI (n 0) from hn 0 (by decide)]
    exact sp_set_ hs h
  · have q := e 5 (by decide) q
    subst q
    rw [if_neg (by decide), if_neg (by decide), if_neg (by decide), if_neg (by decide), if_neg (by decide), if_pos rfl] at h
    rw [show M.1 (b + 2) (0 : Int32).toNatClampNeg = nI (n 0) from hn 0 (by decide), show M.1 (b + 2) (1 : Int32).toNatClampNeg = nI (n 1) from hn 1 (by decide)]
    exact sp_habit_ hs h
  · have q := e 12 (by decide) q
    subst q
    rw [if_neg (by decide), if_neg (by decide), if_neg (by decide), if_neg (by decide), if_neg (by decide), if_neg (by decide), if_pos rfl] at h
    rw [show M.1 (b + 2) (0 : Int32).toNatClampNeg = nI (n 0) from hn 0 (by decide)]
    exact sp_addTrace hs w0 w1 h
  · have q := e 13 (by decide) q
    subst q
    rw [if_neg (by decide), if_neg (by decide), if_neg (by decide), if_neg (by decide), if_neg (by decide), if_neg (by decide), if_neg (by decide), if_pos rfl] at h
    rw [show M.1 (b + 2) (0 : Int32).toNatClampNeg = nI (n 0) from hn 0 (by decide), show M.1 (b + 2) (1 : Int32).toNatClampNeg = nI (n 1) from hn 1 (by decide)]
    exact sp_paint hs w0 h
  · exfalso
    have : wd = 0 ∨ wd = 1 ∨ wd = 2 ∨ wd = 3 ∨ wd = 4 ∨ wd = 5 ∨ wd = 6 ∨ wd = 7 ∨ wd = 8 ∨ wd = 9 ∨ wd = 10 ∨ wd = 11 ∨ wd = 12 ∨ wd = 13 := by omega
    rcases this with r | r | r | r | r | r | r | r | r | r | r | r | r | r
    · exact q0 (by rw [r]; rfl)
    · exact q1 (by rw [r]; rfl)
    · exact q2 (by rw [r]; rfl)
    · exact q3 (by rw [r]; rfl)
    · exact q4 (by rw [r]; rfl)
    · exact q5 (by rw [r]; rfl)
    · exact q6 (by rw [r]; rfl)
    · exact q7 (by rw [r]; rfl)
    · exact q8 (by rw [r]; rfl)
    · exact q9 (by rw [r]; rfl)
    · exact q10 (by rw [r]; rfl)
    · exact q11 (by rw [r]; rfl)
    · exact q12 (by rw [r]; rfl)
    · exact q13 (by rw [r]; rfl)
def tokR (r : Int32) : Prop := ¬ r < -1
noncomputable def wdI (t : zT) (n : Nat) : Nat := tVl t (ip t n)
/-- an item's numbers: those that are none are 0 -/
noncomputable def nmI (t : zT) (n j : Nat) : Nat := if j < nmb (wdI t n) then tVl t (pos t (ip t n) (j + 1)) else 0
noncomputable def tlS (t : zT) (s : Nat → Nat) : Nat → Nat × zX
  | 0 => (0, sBg s, cZ)
  | n + 1 => if (tlS t s n).1 ≠ 0 then tlS t s n else pqI (tokR (tI (wdI t n) (nmI t n) (tlS t s n).2).1) (0, (tI (wdI t n) (nmI t n) (tlS t s n).2).2) (n + 1, (tlS t s n).2)
theorem tlS_W (t : zT) (s : Nat → Nat) : ∀ n, WF (tlS t s n).2.1 (tlS t s n).2.2
  | 0 => WF_bg s
  | n + 1 => by
    have h := tlS_W t s n
    have e : tlS t s (n + 1) = if (tlS t s n).1 ≠ 0 then tlS t s n else pqI (tokR (tI (wdI t n) (nmI t n) (tlS t s n).2).1) (0, (tI (wdI t n) (nmI t n) (tlS t s n).2).2) (n + 1, (tlS t s n).2) := rfl
    rw [e]
    by_cases z : (tlS t s n).1 ≠ 0
    · rw [if_pos z]; exact h
    · rw [if_neg z]
      by_cases y : tokR (tI (wdI t n) (nmI t n) (tlS t s n).2).1
      · rw [pqI_t y]; exact WF_tI h
      · rw [pqI_f y]; exact h
theorem tlS_le (t : zT) (s : Nat → Nat) : ∀ n, (tlS t s n).1 ≤ n
  | 0 => Nat.le_refl _
  | n + 1 => by
    have h := tlS_le t s n
    have e : tlS t s (n + 1) = if (tlS t s n).1 ≠ 0 then tlS t s n else pqI (tokR (tI (wdI t n) (nmI t n) (tlS t s n).2).1) (0, (tI (wdI t n) (nmI t n) (tlS t s n).2).2) (n + 1, (tlS t s n).2) := rfl
    rw [e]
    by_cases z : (tlS t s n).1 ≠ 0
    · rw [if_pos z]; omega
    · rw [if_neg z]
      by_cases y : tokR (tI (wdI t n) (nmI t n) (tlS t s n).2).1
      · rw [pqI_t y]; exact Nat.zero_le _
      · rw [pqI_f y]; exact Nat.le_refl _
theorem nmI_le {t : zT} {n : Nat} (hok : itOK t (ip t n)) (j : Nat) : nmI t n j < 1000 := by
  unfold nmI
  by_cases z : j < nmb (wdI t n)
  · rw [if_pos z]
    have h2 : tKd t (pos t (ip t n) (j + 1)) = 2 := by
      by_cases y : tKd t (pos t (ip t n) (j + 1)) = 2
      · exact y
      · exact absurd (Or.inr (Or.inl ⟨by omega, z, y⟩)) (hok (j + 1) (by have z : j < nmb (tVl t (ip t n)) := z; omega))
    have := tVl_n (pos_le (ip_le t n) (j + 1)) h2
    omega
  · rw [if_neg z]; decide
