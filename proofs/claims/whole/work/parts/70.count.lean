/-! how many, and the digest -/
def asd (s : Nat → Nat) : Nat → Nat := sm (fun t => s (63 + 4 * t))
theorem asd_le {s c : Nat → Nat} (w : WF s c) : ∀ t, t ≤ s 1 → asd s t ≤ t
  | 0, _ => Nat.zero_le _
  | t + 1, h => by
    have h1 := asd_le w t (by omega)
    have h2 := (w.tr t (by omega)).2.2.2.1
    show asd s t + s (63 + 4 * t) ≤ t + 1
    omega
theorem sp_countAside {b : Nat} {s c : Nat → Nat} {M : mM} {Q : Int32 → Prop} (hs : ST M b s c) (w : WF s c) (h : Q (nI (asd s (s 1)))) : p_X2_countAside b M Q := by
  have w1 := w.2.1
  refine loopU (A := Unit) (s 1) (fun t _ => (nI (asd s t), nI t)) (fun _ _ => True) () rfl trivial ?_
  rintro t _ ag ht _ hag
  show p_X2_countAside_F4 b M Q ag (nI (asd s t)) (nI t)
  unfold p_X2_countAside_F4
  rw [hs.2.1]
  refine ⟨fun q => ?_, fun q => ?_⟩
  · have q := lei (by omega) (by omega) q
    rw [show t = s 1 by omega]; exact h
  · have q := nlei (by omega) (by omega) q
    refine ⟨vin (by omega) (by decide), ?_⟩
    rintro x2 rfl
    rw [clp (by omega), (hs.2.2.2.2.2.1 t q).2.2.2, nI_add, show nI t + 1 = nI (t + 1) from nI_add t 1]
    exact hag q () trivial
theorem sp7_countOf {m k : Nat} {S : zS} {M : mM} {Q : Int32 → Prop} (hM : MR M m S) (w : WF (zs S) (zc S)) (hk : k < 4) (h : Q (nI (if k < 2 then zs S k else if k = 2 then asd (zs S) (zs S 1) else (zt S).1))) : p_X7_countOf m (nI k) M Q := by
  have w1 := w.2.1
  have hs := hM.1
  refine loopU (A := Unit) (zs S 1) (fun t _ => (nI (asd (zs S) t), nI t)) (fun _ _ => True) () rfl trivial ?_
  rintro t _ ag ht _ hag
  show p_X7_countOf_F4 m (nI k) M Q ag (nI (asd (zs S) t)) (nI t)
  unfold p_X7_countOf_F4
  rw [show M.1 (m + 1) (1 : Int32).toNatClampNeg = nI (zs S 1) from hs.1 1 (by decide)]
  refine ⟨fun q => ⟨fun z => ⟨fun y => ?_, fun y => ?_⟩, fun z => ?_⟩, fun q => ?_⟩
  · have z := lei (a := 2) (by decide) (by omega) z
    have y : k ≠ 2 := fun e => y (by rw [e]; rfl)
    rw [if_neg (by omega), if_neg y] at h
    rw [hM.2.2.1.1]; exact h
  · have q := lei (by omega) (by omega) q
    have y := eqi (b := 2) (by omega) (by decide) y
    rw [if_neg (by omega), if_pos y] at h
    rw [show t = zs S 1 by omega]; exact h
  · have z := nlei (a := 2) (by decide) (by omega) z
    rw [if_pos z] at h
    rw [clp (by omega), hs.1 k (by omega)]
    exact ⟨vin (by omega) (by decide), h⟩
  · have q := nlei (by omega) (by omega) q
    refine sp7_oT3 hs w q ?_
    rw [nI_add, show nI t + 1 = nI (t + 1) from nI_add t 1]
    exact hag q () trivial
def cnt (S : zS) (k : Nat) : Nat := if k < 2 then zs S k else if k = 2 then asd (zs S) (zs S 1) else (zt S).1
theorem iB4 {x : Int32} : iB x 0 3 ↔ x = 0 ∨ x = 1 ∨ x = 2 ∨ x = 3 := by
  constructor
  · rintro ⟨n, _, h, rfl⟩
    have : n = 0 ∨ n = 1 ∨ n = 2 ∨ n = 3 := by omega
    rcases this with rfl | rfl | rfl | rfl
    · exact Or.inl rfl
    · exact Or.inr (Or.inl rfl)
    · exact Or.inr (Or.inr (Or.inl rfl))
    · exact Or.inr (Or.inr (Or.inr rfl))
  · rintro (h | h | h | h)
    · exact ⟨0, by omega, by omega, h⟩
    · exact ⟨1, by omega, by omega, h⟩
    · exact ⟨2, by omega, by omega, h⟩
    · exact ⟨3, by omega, by omega, h⟩
noncomputable def F_count (x : Int32) (S : zS) : Int32 × zS := pqI (iB x 0 3) (nI (cnt S (vN x)), S) (-2, zRf S 0)
theorem bo_count {g m : Nat} {S : zS} (x : Int32) : BO g m S (F_count x S) (fun M Q => p_X6_count g x M Q) (fun M Q => p_X7_count m x M Q) := by
  intro hS
  unfold F_count
  by_cases ok : iB x 0 3
  · rw [pqI_t ok]
    refine ⟨hS, fun M Q hC h => ?_, fun M Q hM h => ?_⟩
    · have h := h M fr.rf hC
      refine ⟨fun e => ?_, fun e => ?_, fun e => ?_, fun e => ?_, fun e0 e1 e2 e3 => ?_⟩
      · rw [e] at h
        rw [hC.1.1]; exact h
      · rw [e] at h
        rw [hC.1.2.1]; exact h
      · rw [e] at h
        exact sp_countAside hC.1 hS.1 h
      · rw [e] at h
        rw [hC.2.2.1.1]; exact h
      · rcases iB4.mp ok with e | e | e | e
        · exact absurd e e0
        · exact absurd e e1
        · exact absurd e e2
        · exact absurd e e3
    · refine sp7_inI (lo := 0) (hi := 3) (by decide) (by decide) (fun _ => ⟨fun e => absurd e (by decide), fun _ => ?_⟩) (fun q => absurd ok q)
      obtain ⟨u, _, v1⟩ := iB_v (by decide) ok
      have h := h M fr.rf hM
      generalize vN x = k at *
      subst u
      exact sp7_countOf (Q := fun r => Q r M) hM hS.1 (by omega) h
  · rw [pqI_f ok]
    refine ⟨SW_rf hS, fun M Q hC h => ?_, fun M Q hM h => ?_⟩
    · refine ⟨fun e => absurd (iB4.mpr (Or.inl e)) ok, fun e => absurd (iB4.mpr (Or.inr (Or.inl e))) ok, fun e => absurd (iB4.mpr (Or.inr (Or.inr (Or.inl e)))) ok, fun e => absurd (iB4.mpr (Or.inr (Or.inr (Or.inr e)))) ok, fun _ _ _ _ => sp_told (r := -2) hC h⟩
    · exact sp7_inI (lo := 0) (hi := 3) (by decide) (by decide) (fun a => absurd a ok) (fun _ => ⟨fun _ => sp7_badR hM h, fun e => absurd rfl e⟩)
/-- n values mixed into h -/
theorem hx_cg {f f' : Nat → Int64} : ∀ {n : Nat} {h : Int64}, (∀ i, i < n → f i = f' i) → hx f n h = hx f' n h
  | 0, _, _ => rfl
  | n + 1, h, e => by
    show 31 * hx f n h + f n = 31 * hx f' n h + f' n
    rw [hx_cg (fun i hi => e i (by omega)), e n (by omega)]
theorem hx_add (f : Nat → Int64) (n : Nat) (h : Int64) : ∀ k, hx f (n + k) h = hx (fun i => f (n + i)) k (hx f n h)
  | 0 => rfl
  | k + 1 => by
    show 31 * hx f (n + k) h + f (n + k) = 31 * hx (fun i => f (n + i)) k (hx f n h) + f (n + k)
    rw [hx_add f n h k]
theorem sp7_mixed {p n at0 k : Nat} {h0 : Int64} {f : Nat → Int64} {M : mM} {Q : Int64 → Prop} (hn : at0 + k ≤ n) (hn2 : n < 100000) (hf : ∀ i, i < k → (M.1 p (at0 + i)).toInt64 = f i) (h : Q (hx f k h0)) : p_X7_mixed h0 p n (nI at0) (nI k) M Q := by
  refine loopU (A := Unit) k (fun i _ => (hx f i h0, nI i)) (fun _ _ => True) () rfl trivial ?_
  rintro i _ ag hi _ hag
  show p_X7_mixed_F6 h0 p n (nI at0) (nI k) M Q ag (hx f i h0) (nI i)
  unfold p_X7_mixed_F6
  refine ⟨fun q => ?_, fun q => ?_⟩
  · have q := lei (by omega) (by omega) q
    rw [show i = k by omega]; exact h
  · have q := nlei (by omega) (by omega) q
    rw [nI_add, clp (by omega), hf i q, show nI i + 1 = nI (i + 1) from nI_add i 1]
    refine ⟨vin (by omega) (by omega), ?_⟩
    rintro x2 rfl
    exact hag q () trivial
