/-! tokens of the row -/
def HH (f : Nat → Nat) : Nat → Nat
  | 0 => 0
  | i + 1 => 32 * HH f i + (f i - 96)
theorem HH_inj {f g : Nat → Nat} : ∀ n m, (∀ i, i < n → 97 ≤ f i ∧ f i ≤ 122) → (∀ i, i < m → 97 ≤ g i ∧ g i ≤ 122) → HH f n = HH g m → n = m ∧ ∀ i, i < n → f i = g i
  | 0, 0, _, _, _ => ⟨rfl, fun i hi => absurd hi (Nat.not_lt_zero _)⟩
  | 0, m + 1, _, hg, e => by
    have h1 := hg m (by omega)
    have e : 0 = 32 * HH g m + (g m - 96) := e
    omega
  | n + 1, 0, hf, _, e => by
    have h1 := hf n (by omega)
    have e : 32 * HH f n + (f n - 96) = 0 := e
    omega
  | n + 1, m + 1, hf, hg, e => by
    have h1 := hf n (by omega)
    have h2 := hg m (by omega)
    have e : 32 * HH f n + (f n - 96) = 32 * HH g m + (g m - 96) := e
    obtain ⟨e1, e2⟩ := HH_inj n m (fun i hi => hf i (by omega)) (fun i hi => hg i (by omega)) (by omega)
    refine ⟨by omega, fun i hi => ?_⟩
    rcases Nat.lt_or_ge i n with z | z
    · exact e2 i z
    · have : i = n := by omega
      subst this
      subst e1
      omega
theorem HH_cg {f g : Nat → Nat} : ∀ n, (∀ i, i < n → f i = g i) → HH f n = HH g n
  | 0, _ => rfl
  | n + 1, h => by
    show 32 * HH f n + (f n - 96) = 32 * HH g n + (g n - 96)
    rw [HH_cg n (fun i hi => h i (by omega)), h n (by omega)]
theorem HH_le {f : Nat → Nat} : ∀ n, (∀ i, i < n → f i ≤ 122) → HH f n < 32 ^ n
  | 0, _ => (by decide : (0 : Nat) < 1)
  | n + 1, h => by
    have h1 := HH_le n (fun i hi => h i (by omega))
    have h2 := h n (by omega)
    show 32 * HH f n + (f n - 96) < 32 ^ (n + 1)
    rw [Nat.pow_succ]
    omega
def hC (k : Nat) : Nat := [20600006, 591150, 26379859, 677454, 402789, 8423732, 7931182, 646232243, 132683, 658552979, 769614, 168165, 3764, 114201].getD k 0
def mC (k : Nat) : Nat := [20, 21, 22, 23, 24, 25, 10, 11, 12, 13, 14, 15, 16, 26].getD k 0
theorem hC_w : ∀ k, k < 14 → hC k = HH (fun i => wCh (wdo k + i)) (wdn k) := by decide +kernel
theorem hC_inj : ∀ k, k < 14 → ∀ j, j < 14 → hC k = hC j → k = j := by decide +kernel
theorem mC_b : ∀ k, k < 14 → 10 ≤ mC k ∧ mC k ≤ 26 := by decide +kernel
theorem wdM_h {t : zT} {s q k : Nat} (hk : k < 14) (hl : ∀ i, s ≤ i → i < q → 97 ≤ t.2 i ∧ t.2 i ≤ 122) : wdM t s q k ↔ HH (fun i => t.2 (s + i)) (q - s) = hC k := by
  rw [hC_w k hk]
  obtain ⟨s1, s2, s3, s4, s5⟩ := w_sp k hk
  constructor
  · rintro ⟨h1, h2⟩
    rw [h1]
    exact HH_cg _ (fun i hi => h2 i hi)
  · intro h
    obtain ⟨h1, h2⟩ := HH_inj _ _ (fun i hi => hl (s + i) (by omega) (by omega)) (fun i hi => w_ch k hk i (by omega) hi) h
    exact ⟨h1, fun j hj => h2 j (by omega)⟩
theorem wdF_ex {t : zT} {s q : Nat} : ∀ n, wdF t s q n ≠ 0 → ∃ k, k < n ∧ wdF t s q n = k + 1 ∧ wdM t s q k
  | 0, h => absurd rfl h
  | n + 1, h => by
    have e : wdF t s q (n + 1) = if wdF t s q n ≠ 0 then wdF t s q n else pqI (wdM t s q n) (n + 1) 0 := rfl
    by_cases z : wdF t s q n ≠ 0
    · rw [e, if_pos z]
      obtain ⟨k, h1, h2, h3⟩ := wdF_ex n z
      exact ⟨k, by omega, h2, h3⟩
    · rw [e, if_neg z] at h ⊢
      by_cases y : wdM t s q n
      · exact ⟨n, by omega, pqI_t y, y⟩
      · rw [pqI_f y] at h; exact absurd rfl h
theorem wdF_of {t : zT} {s q k : Nat} (hk : k < 14) (hl : ∀ i, s ≤ i → i < q → 97 ≤ t.2 i ∧ t.2 i ≤ 122) (h : wdM t s q k) : wdF t s q 14 = k + 1 := by
  refine wdF_hit hk ?_ h
  by_cases z : wdF t s q k = 0
  · exact z
  · exfalso
    obtain ⟨j, h1, h2, h3⟩ := wdF_ex k z
    have e1 := (wdM_h hk hl).mp h
    have e2 := (wdM_h (by omega) hl).mp h3
    have := hC_inj k hk j (by omega) (by rw [← e1, ← e2])
    omega
theorem wdF_none {t : zT} {s q : Nat} (h : ∀ k, k < 14 → ¬ wdM t s q k) : wdF t s q 14 = 0 := by
  by_cases z : wdF t s q 14 = 0
  · exact z
  · obtain ⟨j, h1, h2, h3⟩ := wdF_ex 14 z
    exact absurd h3 (h j h1)
theorem sp7_wJ {v : Nat} {M : mM} {Q : Int32 → Prop} (hv : v < 9223372036854775808) (h1 : ∀ k, k < 14 → v = hC k → Q (nI (mC k))) (h0 : (∀ k, k < 14 → v ≠ hC k) → Q 1) : p_X7_wordOf (lN v) M Q := by
  have e : ∀ c : Nat, c < 9223372036854775808 → (lN v = lN c ↔ v = c) := fun c hc => lN_inj (by omega) (by omega)
  have J : ∀ k, k < 14 → (6 ≤ k ∧ k ≤ 12) → v = hC k → p_X7_wordOf_J92 (lN v) Q (nI (mC k)) M := by
    intro k hk kk hvk
    have ne : ∀ j, j < 14 → j ≠ k → ¬ lN v = lN (hC j) := fun j hj jk q => by
      have q := (e _ (by
        have : ∀ j, j < 14 → hC j < 9223372036854775808 := by decide +kernel
        exact this j hj)).mp q
      exact jk (hC_inj j hj k hk (by rw [← q, hvk]))
    have m1 := mC_b k hk
    have fin : p_X7_wordOf_J185 (lN v) Q (nI (mC k)) 1 M := ⟨fun q => by
      have := eqi (b := 1) (by omega) (by decide) q
      omega, fun _ => h1 k hk hvk⟩
    exact ⟨fun _ => ⟨fun _ => ⟨fun _ => ⟨fun _ => ⟨fun _ => ⟨fun _ => ⟨fun _ => fin, fun q => absurd q (ne 13 (by decide) (by omega))⟩, fun q => absurd q (ne 5 (by decide) (by omega))⟩, fun q => absurd q (ne 4 (by decide) (by omega))⟩, fun q => absurd q (ne 3 (by decide) (by omega))⟩, fun q => absurd q (ne 2 (by decide) (by omega))⟩, fun q => absurd q (ne 1 (by decide) (by omega))⟩, fun q => absurd q (ne 0 (by decide) (by omega))⟩
  have K : ∀ k, k < 14 → v = hC k → p_X7_wordOf_J185 (lN v) Q 1 (nI (mC k)) M := fun k hk hvk => ⟨fun _ => h1 k hk hvk, fun q => absurd rfl q⟩
  refine ⟨fun n6 => ⟨fun n7 => ⟨fun n8 => ⟨fun n9 => ⟨fun n10 => ⟨fun n11 => ⟨fun n12 => ?_, fun q => J 12 (by decide) (by decide) ((e 3764 (by decide)).mp q)⟩, fun q => J 11 (by decide) (by decide) ((e 168165 (by decide)).mp q)⟩, fun q => J 10 (by decide) (by decide) ((e 769614 (by decide)).mp q)⟩, fun q => J 9 (by decide) (by decide) ((e 658552979 (by decide)).mp q)⟩, fun q => J 8 (by decide) (by decide) ((e 132683 (by decide)).mp q)⟩, fun q => J 7 (by decide) (by decide) ((e 646232243 (by decide)).mp q)⟩, fun q => J 6 (by decide) (by decide) ((e 7931182 (by decide)).mp q)⟩
  refine ⟨fun n0 => ⟨fun n1 => ⟨fun n2 => ⟨fun n3 => ⟨fun n4 => ⟨fun n5 => ⟨fun n13 => ⟨fun _ => h0 (fun k hk q => ?_), fun q => absurd rfl q⟩, fun q => K 13 (by decide) ((e 114201 (by decide)).mp q)⟩, fun q => K 5 (by decide) ((e 8423732 (by decide)).mp q)⟩, fun q => K 4 (by decide) ((e 402789 (by decide)).mp q)⟩, fun q => K 3 (by decide) ((e 677454 (by decide)).mp q)⟩, fun q => K 2 (by decide) ((e 26379859 (by decide)).mp q)⟩, fun q => K 1 (by decide) ((e 591150 (by decide)).mp q)⟩, fun q => K 0 (by decide) ((e 20600006 (by decide)).mp q)⟩
  have : k = 0 ∨ k = 1 ∨ k = 2 ∨ k = 3 ∨ k = 4 ∨ k = 5 ∨ k = 6 ∨ k = 7 ∨ k = 8 ∨ k = 9 ∨ k = 10 ∨ k = 11 ∨ k = 12 ∨ k = 13 := by omega
  rcases this with rfl | rfl | rfl | rfl | rfl | rfl | rfl | rfl | rfl | rfl | rfl | rfl | rfl | rfl
  · exact n0 (by rw [q]; rfl)
  · exact n1 (by rw [q]; rfl)
  · exact n2 (by rw [q]; rfl)
  · exact n3 (by rw [q]; rfl)
  · exact n4 (by rw [q]; rfl)
  · exact n5 (by rw [q]; rfl)
  · exact n6 (by rw [q]; rfl)
  · exact n7 (by rw [q]; rfl)
  · exact n8 (by rw [q]; rfl)
  · exact n9 (by rw [q]; rfl)
  · exact n10 (by rw [q]; rfl)
  · exact n11 (by rw [q]; rfl)
  · exact n12 (by rw [q]; rfl)
  · exact n13 (by rw [q]; rfl)
def mT (kd vl : Nat) : Nat := if kd = 0 then 0 else if kd = 1 then mC vl else if kd = 2 then 2 else if kd = 3 then 3 else 1
def MK (M : mM) (m : Nat) (t : zT) (p : Nat) : Prop := M.1 m 10 = nI (tEn t p) ∧ M.1 m 11 = nI (tSt t p) ∧ M.1 m 12 = nI (mT (tKd t p) (tVl t p)) ∧ (tKd t p = 2 → M.1 m 13 = nI (tVl t p))
def fE (M M' : mM) (m : Nat) : Prop := (∀ k, k ≠ m → M'.1 k = M.1 k) ∧ M'.2 = M.2 ∧ ∀ j, j < 10 ∨ 14 ≤ j → M'.1 m j = M.1 m j
theorem fE.rf {M : mM} {m : Nat} : fE M M m := ⟨fun _ _ => rfl, rfl, fun _ _ => rfl⟩
theorem fE.tr {M M1 M2 : mM} {m : Nat} (h : fE M M1 m) (k : fE M1 M2 m) : fE M M2 m := ⟨fun q a => (k.1 q a).trans (h.1 q a), k.2.1.trans h.2.1, fun j a => (k.2.2 j a).trans (h.2.2 j a)⟩
theorem fE.st {M M1 : mM} {m j : Nat} {x : Int32} (h : fE M M1 m) (hj : 10 ≤ j ∧ j < 14) : fE M (mI M1 m (upd (M1.1 m) j x)) m := ⟨fun q a => (mI_n a).trans (h.1 q a), h.2.1, fun i a => by rw [mI_s, updN (by omega)]; exact h.2.2 i a⟩
theorem rTx.E {M M' : mM} {m : Nat} {t : zT} (h : rTx M m t) (f : fE M M' m) : rTx M' m t := ⟨by rw [f.2.2 9 (by omega)]; exact h.1, fun j hj => by rw [f.1 _ (by omega)]; exact h.2 j hj⟩
theorem sp7_isAt {m p lo hi : Nat} {t : zT} {M : mM} {Q : Int32 → Prop} (hx : rTx M m t) (hg : tG t) (hp : p ≤ t.1) (h10 : M.1 m 10 = nI p) (hlo : lo < 1000) (hhi : hi < 1000) (h1 : p < t.1 → lo ≤ t.2 p ∧ t.2 p ≤ hi → Q 1) (h0 : ¬ (p < t.1 ∧ lo ≤ t.2 p ∧ t.2 p ≤ hi) → Q 0) : p_X7_isAt m (nI lo) (nI hi) M Q := by
  have g1 := hg.1
  have g2 := hg.2 p
  unfold p_X7_isAt
  rw [hx.1, h10, clp (by omega), nI_ll (n := lo) (by omega), nI_ll (n := hi) (by omega)]
  refine ⟨fun z => h0 (fun q => ?_), fun z => ?_⟩
  · have z := lei (by omega) (by omega) z
    omega
  · have z := nlei (by omega) (by omega) z
    rw [hx.2 p z]
    refine ⟨vin (by omega) (by decide), sp7_inI (by omega) (by omega) (fun q => ⟨fun e => absurd e (by decide), fun _ => h1 z ?_⟩) (fun q => ⟨fun _ => h0 (fun y => q ⟨t.2 p, y.2.1, y.2.2, rfl⟩), fun e => absurd rfl e⟩)⟩
    obtain ⟨n, a, b, e⟩ := q
    have e := eqi (by omega) (by omega) e
    omega
def hv (t : zT) (s : Nat) : Nat → Nat
  | 0 => 0
  | i + 1 => if 6 < i then 0 else 32 * hv t s i + (t.2 (s + i) - 96)
theorem hv_H {t : zT} {s : Nat} : ∀ n, n ≤ 7 → hv t s n = HH (fun i => t.2 (s + i)) n
  | 0, _ => rfl
  | n + 1, h => by
    show (if 6 < n then 0 else 32 * hv t s n + (t.2 (s + n) - 96)) = 32 * HH (fun i => t.2 (s + i)) n + (t.2 (s + n) - 96)
    rw [if_neg (by omega), hv_H n (by omega)]
theorem sp7_letters {m p : Nat} {t : zT} {M M0 : mM} {Q : mM → Prop} (hx : rTx M m t) (hg : tG t) (f0 : fE M0 M m) (hp : p ≤ t.1) (hl : tSt t p ≠ t.1) (hL : isL (t.2 (tSt t p)) = true) (h10 : M.1 m 10 = nI (tSt t p)) (h11 : M.1 m 11 = nI (tSt t p)) (h : ∀ M', fE M0 M' m → MK M' m t p → Q M') : Loop (fun ag s => p_X7_scans_F62 m Q ag s.1 s.2) (0, M) := by
  have g1 := hg.1
  obtain ⟨b1, b2⟩ := tSt_b hp
  have eE : tEn t p = rq isL t (tSt t p) := by
    unfold tEn
    rw [if_neg hl, if_pos hL]
  obtain ⟨e1, e2, e3, e4⟩ := rq_sp isL (t := t) b2
  rw [← eE] at e1 e2 e3 e4
  have eK : tKd t p = if wdF t (tSt t p) (tEn t p) 14 = 0 then 4 else 1 := by
    unfold tKd
    rw [if_neg hl, if_pos hL]
  have eV : tVl t p = wdF t (tSt t p) (tEn t p) 14 - 1 := by
    unfold tVl
    rw [if_pos hL]
  unfold MK at h
  rw [eK, eV] at h
  generalize tSt t p = s at *
  generalize tEn t p = q at *
  have lets : ∀ i, s ≤ i → i < q → 97 ≤ t.2 i ∧ t.2 i ≤ 122 := fun i a b => isL_t.mp (e3 i a b)
  have k4 : (if wdF t s q 14 = 0 then 4 else 1) ≠ 2 := by split <;> decide
  refine loopU (A := mM) (q - s) (fun i a => (lN (hv t s i), a)) (fun i a => fE M a m ∧ a.1 m 10 = nI (s + i) ∧ a.1 m 11 = nI s) M rfl ⟨fE.rf, h10, h11⟩ ?_
  rintro i a ag hi ⟨fa, a10, a11⟩ hag
  show p_X7_scans_F62 m Q ag (lN (hv t s i)) a
  have xa := hx.E fa
  unfold p_X7_scans_F62
  refine sp7_isAt (lo := 97) (hi := 122) xa hg (by omega) a10 (by decide) (by decide) (fun z y => ⟨fun e => absurd e (by decide), fun _ => ?_⟩) (fun z => ⟨fun _ => ?_, fun e => absurd rfl e⟩)
  · have lt : s + i < q := by
      rcases Nat.lt_or_ge (s + i) q with x | x
      · exact x
      · have e : s + i = q := by omega
        have := nL (e4 (by omega))
        rw [← e] at this
        exact absurd y this
    have J113 : ∀ x : Int64, x = lN (hv t s (i + 1)) → p_X7_scans_J113 m Q ag x a := by
      rintro x rfl
      unfold p_X7_scans_J113
      rintro M20 rfl
      refine hag (by omega) _ ⟨fa.st (by decide), ?_, by rw [mI_s, updN (by decide)]; exact a11⟩
      rw [mI_s, updS, a10, show nI (s + i) + 1 = nI (s + i + 1) from nI_add _ 1]
      congr 1
    have ev : hv t s (i + 1) = if 6 < i then 0 else 32 * hv t s i + (t.2 (s + i) - 96) := rfl
    rw [a10, a11, nI_sub (by omega), show s + i - s = i by omega]
    refine ⟨fun x => ⟨vin (by omega) (by decide), J113 _ ?_⟩, fun x => J113 _ ?_⟩
    · have x := lei (b := 6) (by omega) (by decide) x
      have hb := HH_le (f := fun i => t.2 (s + i)) i (fun j hj => (lets (s + j) (by omega) (by omega)).2)
      rw [← hv_H i (by omega)] at hb
      have h30 : 32 ^ i ≤ 32 ^ 6 := Nat.pow_le_pow_right (by decide) x
      have h30' : (32 : Nat) ^ 6 = 1073741824 := by decide
      rw [clp (by omega), xa.2 _ z, nI_ll (by omega), ev, if_neg (by omega), show (32 : Int64) * lN (hv t s i) = lN (32 * hv t s i) from lN_mul 32 _, lN_add, show lN (32 * hv t s i + t.2 (s + i)) - 97 = lN (32 * hv t s i + t.2 (s + i) - 97) from lN_sb (b := 97) (by omega), show lN (32 * hv t s i + t.2 (s + i) - 97) + 1 = lN (32 * hv t s i + t.2 (s + i) - 97 + 1) from lN_add _ 1]
      congr 1; omega
    · have x := nlei (b := 6) (by omega) (by decide) x
      rw [ev, if_pos x]; rfl
  · have eq : s + i = q := by
      rcases Nat.lt_or_ge (s + i) q with x | x
      · exact absurd ⟨by omega, lets (s + i) (by omega) x⟩ z
      · omega
    rw [a10, a11, nI_sub (by omega), show s + i - s = i by omega]
    have fin : ∀ r : Int32, r = nI (mT (if wdF t s q 14 = 0 then 4 else 1) (wdF t s q 14 - 1)) → Q (mI a m (upd (a.1 m) 12 r)) := by
      rintro r rfl
      refine h _ ((f0.tr fa).st (by decide)) ⟨?_, ?_, by rw [mI_s, updS], fun e => absurd e k4⟩
      · rw [mI_s, updN (by decide), a10, eq]
      · rw [mI_s, updN (by decide)]; exact a11
    refine ⟨fun x => ?_, fun x => ?_⟩
    · have x := lei (b := 6) (by omega) (by decide) x
      have hb := HH_le (f := fun i => t.2 (s + i)) i (fun j hj => (lets (s + j) (by omega) (by omega)).2)
      have h30 : 32 ^ i ≤ 32 ^ 6 := Nat.pow_le_pow_right (by decide) x
      have h30' : (32 : Nat) ^ 6 = 1073741824 := by decide
      rw [hv_H i (by omega)]
      have wm : ∀ k, k < 14 → (wdM t s q k ↔ HH (fun i => t.2 (s + i)) i = hC k) := fun k hk => by
        have := wdM_h (q := q) hk lets
        rw [show q - s = i by omega] at this
        exact this
      refine sp7_wJ (by omega) (fun k hk hvk => ?_) (fun no => ?_)
      · rintro M17 rfl
        have := wdF_of hk lets ((wm k hk).mpr hvk)
        refine fin _ ?_
        rw [this, if_neg (by omega), Nat.add_sub_cancel]; rfl
      · rintro M17 rfl
        have := wdF_none (t := t) (s := s) (q := q) (fun k hk y => no k hk ((wm k hk).mp y))
        refine fin 1 ?_
        rw [this, if_pos rfl]; rfl
    · have x := nlei (b := 6) (by omega) (by decide) x
      rintro M18 rfl
      have := wdF_none (t := t) (s := s) (q := q) (fun k hk y => by
        have h1 := y.1
        have h2 := (w_sp k hk).2.2.2.1
        omega)
      refine fin 1 ?_
      rw [this, if_pos rfl]; rfl
theorem sp7_figures {m p : Nat} {t : zT} {M M0 : mM} {Q : mM → Prop} (hx : rTx M m t) (hg : tG t) (f0 : fE M0 M m) (hp : p ≤ t.1) (hl : tSt t p ≠ t.1) (hL : isL (t.2 (tSt t p)) = false) (hF : isF (t.2 (tSt t p)) = true) (h10 : M.1 m 10 = nI (tSt t p)) (h11 : M.1 m 11 = nI (tSt t p)) (h13 : M.1 m 13 = 0) (h : ∀ M', fE M0 M' m → MK M' m t p → Q M') : Loop (fun ag s => p_X7_scans_F170 m Q ag s) M := by
  have g1 := hg.1
  obtain ⟨b1, b2⟩ := tSt_b hp
  have hL' : ¬ isL (t.2 (tSt t p)) = true := by rw [hL]; decide
  have eE : tEn t p = rq isF t (tSt t p) := by
    unfold tEn
    rw [if_neg hl, if_neg hL', if_pos hF]
  obtain ⟨e1, e2, e3, e4⟩ := rq_sp isF (t := t) b2
  rw [← eE] at e1 e2 e3 e4
  have eK : tKd t p = if 3 < tEn t p - tSt t p then 4 else 2 := by
    unfold tKd
    rw [if_neg hl, if_neg hL', if_pos hF]
  have eV : tVl t p = nv t (tSt t p) (tEn t p - tSt t p) := by
    unfold tVl
    rw [if_neg hL']
  unfold MK at h
  rw [eK, eV] at h
  generalize tSt t p = s at *
  generalize tEn t p = q at *
  refine loopU (A := mM) (q - s) (fun i a => a) (fun i a => fE M a m ∧ a.1 m 10 = nI (s + i) ∧ a.1 m 11 = nI s ∧ a.1 m 13 = nI (nv t s i)) M rfl ⟨fE.rf, h10, h11, h13⟩ ?_
  rintro i a ag hi ⟨fa, a10, a11, a13⟩ hag
  show p_X7_scans_F170 m Q ag a
  have xa := hx.E fa
  unfold p_X7_scans_F170
  refine sp7_isAt (lo := 48) (hi := 57) xa hg (by omega) a10 (by decide) (by decide) (fun z y => ⟨fun e => absurd e (by decide), fun _ => ?_⟩) (fun z => ⟨fun _ => ?_, fun e => absurd rfl e⟩)
  · have lt : s + i < q := by
      rcases Nat.lt_or_ge (s + i) q with x | x
      · exact x
      · have e : s + i = q := by omega
        have := nF (e4 (by omega))
        rw [← e] at this
        exact absurd y this
    have nvl := nv_le (t := t) (s := s) i (fun j hj => (isF_t.mp (e3 (s + j) (by omega) (by omega))).2)
    have en : nv t s (i + 1) = if i < 3 then 10 * nv t s i + (t.2 (s + i) - 48) else nv t s i := rfl
    have J222 : ∀ x : Int32, x = nI (nv t s (i + 1)) → p_X7_scans_J222 m Q ag x a := by
      rintro x rfl
      unfold p_X7_scans_J222
      rintro M12 rfl M13 rfl
      refine hag (by omega) _ ⟨(fa.st (by decide)).st (by decide), ?_, by rw [mI_s, updN (by decide), mI_s, updN (by decide)]; exact a11, by rw [mI_s, updN (by decide), mI_s, updS]⟩
      rw [mI_s, updS, mI_s, updN (by decide), a10, show nI (s + i) + 1 = nI (s + i + 1) from nI_add _ 1]
      congr 1
    rw [a10, a11, nI_sub (by omega), show s + i - s = i by omega]
    refine ⟨fun x => J222 _ ?_, fun x => ⟨vin (by omega) (by decide), J222 _ ?_⟩⟩
    · have x := lei (a := 3) (by decide) (by omega) x
      rw [en, if_neg (by omega)]; exact a13
    · have x := nlei (a := 3) (by decide) (by omega) x
      rw [clp (by omega), xa.2 _ z, a13, en, if_pos x, show (10 : Int32) * nI (nv t s i) = nI (10 * nv t s i) from pk_mul 10 _, nI_add, show nI (10 * nv t s i + t.2 (s + i)) - 48 = nI (10 * nv t s i + t.2 (s + i) - 48) from pk_sub (b := 48) (by omega)]
      congr 1; omega
  · have eq : s + i = q := by
      rcases Nat.lt_or_ge (s + i) q with x | x
      · exact absurd ⟨by omega, isF_t.mp (e3 (s + i) (by omega) x)⟩ z
      · omega
    rw [a10, a11, nI_sub (by omega), show s + i - s = i by omega]
    refine ⟨fun x => ?_, fun x => ?_⟩
    · have x := lei (b := 3) (by omega) (by decide) x
      rw [if_neg (by omega)] at h
      rintro M10 rfl
      refine h _ ((f0.tr fa).st (by decide)) ⟨by rw [mI_s, updN (by decide), a10, eq], by rw [mI_s, updN (by decide)]; exact a11, by rw [mI_s, updS]; rfl, fun _ => ?_⟩
      rw [mI_s, updN (by decide), a13, show q - s = i by omega]
    · have x := nlei (b := 3) (by omega) (by decide) x
      rw [if_pos (by omega)] at h
      rintro M11 rfl
      exact h _ ((f0.tr fa).st (by decide)) ⟨by rw [mI_s, updN (by decide), a10, eq], by rw [mI_s, updN (by decide)]; exact a11, by rw [mI_s, updS]; rfl, fun e => absurd e (by decide)⟩
theorem sp7_scans {m p : Nat} {t : zT} {M : mM} {Q : mM → Prop} (hx : rTx M m t) (hg : tG t) (hp : p ≤ t.1) (h10 : M.1 m 10 = nI p) (h : ∀ M', fE M M' m → MK M' m t p → Q M') : p_X7_scans m M Q := by
  have g1 := hg.1
  obtain ⟨b1, b2, b3, b4⟩ := rq_sp isB (t := t) hp
  have b1 : p ≤ tSt t p := b1
  have b2 : tSt t p ≤ t.1 := b2
  have b3 : ∀ i, p ≤ i → i < tSt t p → isB (t.2 i) = true := b3
  have b4 : tSt t p < t.1 → isB (t.2 (tSt t p)) = false := b4
  refine loopU (A := mM) (tSt t p - p) (fun i a => a) (fun i a => fE M a m ∧ a.1 m 10 = nI (p + i)) M rfl ⟨fE.rf, h10⟩ ?_
  rintro i a ag hi ⟨fa, a10⟩ hag
  show p_X7_scans_F0 m Q ag a
  have xa := hx.E fa
  unfold p_X7_scans_F0
  refine sp7_isAt (lo := 32) (hi := 32) xa hg (by omega) a10 (by decide) (by decide) (fun z y => ⟨fun e => absurd e (by decide), fun _ => ?_⟩) (fun z => ⟨fun _ => ?_, fun e => absurd rfl e⟩)
  · have lt : p + i < tSt t p := by
      rcases Nat.lt_or_ge (p + i) (tSt t p) with x | x
      · exact x
      · have e : p + i = tSt t p := by omega
        have := nB (b4 (by omega))
        rw [← e] at this
        omega
    rintro M22 rfl
    refine hag (by omega) _ ⟨fa.st (by decide), ?_⟩
    rw [mI_s, updS, a10, show nI (p + i) + 1 = nI (p + i + 1) from nI_add _ 1]
    congr 1
  · have es : p + i = tSt t p := by
      rcases Nat.lt_or_ge (p + i) (tSt t p) with x | x
      · have := isB_t.mp (b3 (p + i) (by omega) x)
        exact absurd ⟨by omega, by omega, by omega⟩ z
      · omega
    intro M2 e2
    have f2 : fE M M2 m := by rw [e2]; exact fa.st (by decide)
    have m10 : M2.1 m 10 = nI (tSt t p) := by rw [e2, mI_s, updN (by decide), a10, es]
    have m11 : M2.1 m 11 = nI (tSt t p) := by rw [e2, mI_s, updS, a10, es]
    clear e2
    have x2 := hx.E f2
    have bb := hg.2 (tSt t p)
    rw [m10, x2.1]
    refine ⟨fun y => ?_, fun y => ?_⟩
    · have hl : tSt t p ≠ t.1 := fun e => y (by rw [e])
      have lt : tSt t p < t.1 := by omega
      refine sp7_isAt (lo := 97) (hi := 122) x2 hg b2 m10 (by decide) (by decide) (fun _ y1 => ⟨fun e => absurd e (by decide), fun _ => ?_⟩) (fun y1 => ⟨fun _ => ?_, fun e => absurd rfl e⟩)
      · exact sp7_letters x2 hg f2 hp hl (isL_t.mpr y1) m10 m11 h
      · have nl : isL (t.2 (tSt t p)) = false := by
          cases v : isL (t.2 (tSt t p))
          · rfl
          · exact absurd ⟨lt, isL_t.mp v⟩ y1
        have nl' : ¬ isL (t.2 (tSt t p)) = true := by rw [nl]; decide
        refine sp7_isAt (lo := 48) (hi := 57) x2 hg b2 m10 (by decide) (by decide) (fun _ y2 => ⟨fun e => absurd e (by decide), fun _ => ?_⟩) (fun y2 => ⟨fun _ => ?_, fun e => absurd rfl e⟩)
        · intro M8 e8
          have f8 : fE M M8 m := by rw [e8]; exact f2.st (by decide)
          exact sp7_figures (hx.E f8) hg f8 hp hl nl (isF_t.mpr y2) (by rw [e8, mI_s, updN (by decide)]; exact m10) (by rw [e8, mI_s, updN (by decide)]; exact m11) (by rw [e8, mI_s, updS]) h
        · have nf : ¬ isF (t.2 (tSt t p)) = true := fun v => y2 ⟨lt, isF_t.mp v⟩
          have eE : tEn t p = tSt t p + 1 := by
            unfold tEn
            rw [if_neg hl, if_neg nl', if_neg nf]
          have eK : tKd t p = if t.2 (tSt t p) = 59 then 3 else 4 := by
            unfold tKd
            rw [if_neg hl, if_neg nl', if_neg nf]
          have J278 : ∀ r : Nat, r = mT (tKd t p) (tVl t p) → tKd t p ≠ 2 → p_X7_scans_J278 m Q (nI r) M2 := by
            intro r hr n2
            unfold p_X7_scans_J278
            rintro M6 rfl M7 rfl
            refine h _ ((f2.st (by decide)).st (by decide)) ⟨?_, ?_, ?_, fun e => absurd e n2⟩
            · rw [mI_s, updS, mI_s, updN (by decide), m10, eE]
              exact nI_add _ 1
            · rw [mI_s, updN (by decide), mI_s, updN (by decide)]; exact m11
            · rw [mI_s, updN (by decide), mI_s, updS, hr]
          refine sp7_isAt (lo := 59) (hi := 59) x2 hg b2 m10 (by decide) (by decide) (fun _ y3 => ⟨fun e => absurd e (by decide), fun _ => ?_⟩) (fun y3 => ⟨fun _ => ?_, fun e => absurd rfl e⟩)
          · have e59 : tKd t p = 3 := by rw [eK, if_pos (by omega)]
            exact J278 3 (by rw [e59]; rfl) (by rw [e59]; decide)
          · have e59 : tKd t p = 4 := by rw [eK, if_neg (fun v => y3 ⟨lt, by omega, by omega⟩)]
            exact J278 1 (by rw [e59]; rfl) (by rw [e59]; decide)
    · have hl : tSt t p = t.1 := eqi (by omega) (by omega) y
      have eE : tEn t p = tSt t p := by
        unfold tEn
        rw [if_pos hl]
      have eK : tKd t p = 0 := by
        unfold tKd
        rw [if_pos hl]
      rintro M21 rfl
      exact h _ (f2.st (by decide)) ⟨by rw [mI_s, updN (by decide), eE]; exact m10, by rw [mI_s, updN (by decide)]; exact m11, by rw [mI_s, updS, eK]; rfl, fun e => by omega⟩
