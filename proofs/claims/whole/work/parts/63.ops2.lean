/-! a setting -/
def loP (n : Nat) : Nat := if n = 6 then 1 else 0
def hiP (n : Nat) : Nat := if n < 4 then 5 else if n = 4 then 60 else if n = 5 then 3 else 9
def okP (x y : Int32) : Prop := iB x 0 6 ∧ iB y (loP (vN x)) (hiP (vN x))
noncomputable def f_put (x y : Int32) (s : Nat → Nat) : Int32 × (Nat → Nat) := pqI (okP x y) (nI (s (2 + vN x)), up s (2 + vN x) (vN y)) (-2, s)
theorem hiP_le (n : Nat) : hiP n ≤ 60 := by
  unfold hiP
  split
  · omega
  · split
    · omega
    · split <;> omega
theorem loP_le (n : Nat) : loP n ≤ 1 := by
  unfold loP
  split <;> omega
theorem WF_set {s c : Nat → Nat} {n v : Nat} (h : WF s c) (hn : n ≤ 6) (h1 : loP n ≤ v) (h2 : v ≤ hiP n) : WF (up s (2 + n) v) c := by
  obtain ⟨g1, g2, g3, g4, g5, g6, g7, g8, g9, g10⟩ := h
  have e : ∀ j, j < 2 ∨ 9 ≤ j → up s (2 + n) v j = s j := fun j hj => upN (by omega)
  unfold loP at h1
  unfold hiP at h2
  refine ⟨by rw [e 0 (by omega)]; exact g1, by rw [e 1 (by omega)]; exact g2, fun i hi => ?_, ?_, ?_, ?_, fun k hk => by rw [e _ (by omega)]; exact g7 k hk, fun a ha => ?_, fun t ht => ?_, fun j hj => by rw [e 0 (by omega)]; exact g10 j hj⟩
  · by_cases z : i = n
    · subst z
      rw [upS]
      rw [if_pos hi] at h2
      exact h2
    · rw [upN (by omega)]; exact g3 i hi
  · by_cases z : n = 4
    · subst z
      rw [show (6 : Nat) = 2 + 4 from rfl, upS]
      rw [if_neg (by omega), if_pos rfl] at h2
      exact h2
    · rw [upN (by omega)]; exact g4
  · by_cases z : n = 5
    · subst z
      rw [show (7 : Nat) = 2 + 5 from rfl, upS]
      rw [if_neg (by omega), if_neg (by omega), if_pos rfl] at h2
      exact h2
    · rw [upN (by omega)]; exact g5
  · by_cases z : n = 6
    · subst z
      rw [show (8 : Nat) = 2 + 6 from rfl, upS]
      rw [if_neg (by omega), if_neg (by omega), if_neg (by omega)] at h2
      rw [if_pos rfl] at h1
      exact ⟨h1, h2⟩
    · rw [upN (by omega)]; exact g6
  · rw [e 0 (by omega)] at ha
    have := g8 a ha
    unfold wSt at this ⊢
    rw [e _ (by omega), e _ (by omega), e _ (by omega), e _ (by omega)]
    exact this
  · rw [e 1 (by omega)] at ht
    have := g9 t ht
    unfold wTr at this ⊢
    rw [e _ (by omega), e _ (by omega), e _ (by omega), e _ (by omega), e 0 (by omega)]
    exact this
theorem WF_put {x y : Int32} {s c : Nat → Nat} (h : WF s c) : WF (f_put x y s).2 c := by
  unfold f_put
  by_cases q : okP x y
  · rw [pqI_t q]
    obtain ⟨_, _, v1⟩ := iB_v (by decide) q.1
    have := hiP_le (vN x)
    obtain ⟨_, v2, v3⟩ := iB_v (by omega) q.2
    exact WF_set h v1 v2 v3
  · rw [pqI_f q]; exact h
theorem zF_lo : ∀ n, n < 7 → zF 0 n = nI (loP n) := by decide +kernel
theorem zF_hi : ∀ n, n < 7 → zF 1 n = nI (hiP n) := by decide +kernel
theorem zF_at : ∀ n, n < 7 → zF 2 n = nI (if n < 4 then 1 else if n = 4 then 10 else if n = 5 then 0 else 3) := by decide +kernel
theorem sp_set_ {b : Nat} {x y : Int32} {s c : Nat → Nat} {M : mM} {Q : Int32 → mM → Prop} (hs : ST M b s c) (h : ∀ M', fr M M' b (b + 12) → ST M' b (f_put x y s).2 c → Q (f_put x y s).1 M') : p_X2_set b x y M Q := by
  unfold f_put at h
  have bad : ¬ okP x y → Q (-2) M := fun q => by
    rw [pqI_f q] at h
    exact h M fr.rf hs
  refine sp_within (lo := 0) (hi := 6) (by decide) (by decide) (fun a1 => ⟨fun e => absurd e (by decide), fun _ => ?_⟩) (fun a1 => ⟨fun _ => bad (fun q => a1 q.1), fun e => absurd rfl e⟩)
  obtain ⟨u1, _, v1⟩ := iB_v (by decide) a1
  have hp := hiP_le (vN x)
  have lp := loP_le (vN x)
  have ok : iB y (loP (vN x)) (hiP (vN x)) → okP x y := fun q => ⟨a1, q⟩
  have nok : ¬ iB y (loP (vN x)) (hiP (vN x)) → ¬ okP x y := fun q r => q r.2
  generalize vN x = n at *
  subst u1
  rw [clp (by omega), zF_lo n (by omega), zF_hi n (by omega)]
  refine ⟨vin (by show n < 7; omega) (by decide), vin (by show n < 7; omega) (by decide), sp_within (by omega) (by omega) (fun a2 => ⟨fun _ => ⟨vin (by omega) (by decide), ?_⟩, fun e => absurd e (by decide)⟩) (fun a2 => ⟨fun e => absurd rfl e, fun _ => bad (nok a2)⟩)⟩
  rw [pqI_t (ok a2)] at h
  obtain ⟨u2, v2, v3⟩ := iB_v (by omega) a2
  generalize vN y = v at *
  subst u2
  obtain ⟨g1, g2, g3, g4, g5, g6, g7⟩ := hs
  rintro x6 rfl
  refine ⟨vin (by omega) (by decide), ?_⟩
  rintro M7 rfl
  rw [g3 n (by omega)]
  have e : ∀ j, j < 2 ∨ 9 ≤ j → up s (2 + n) v j = s j := fun j hj => upN (by omega)
  refine h _ (fr.rf.mI (by omega) (by omega)) ⟨?_, ?_, fun i hi => ?_, fun j hj => ?_, fun a ha => ?_, fun t ht => ?_, fun j hj => ?_⟩
  · show _ = nI (up s (2 + n) v 0)
    rw [mI_o (by omega), e 0 (by omega)]; exact g1
  · show _ = nI (up s (2 + n) v 1)
    rw [mI_o (by omega), e 1 (by omega)]; exact g2
  · show _ = nI (up s (2 + n) v (2 + i))
    rw [mI_s]
    by_cases z : i = n
    · rw [z, updS, upS]
    · rw [updN z, upN (by omega)]; exact g3 i hi
  · show _ = nI (up s (2 + n) v (10 + j))
    rw [mI_o (by omega), e _ (by omega)]; exact g4 j hj
  · have ha : a < up s (2 + n) v 0 := ha
    show stS _ b (up s (2 + n) v) a
    rw [e 0 (by omega)] at ha
    have := g5 a ha
    unfold stS at this ⊢
    rw [mI_o (by omega), mI_o (by omega), mI_o (by omega), mI_o (by omega), e _ (by omega), e _ (by omega), e _ (by omega), e _ (by omega)]
    exact this
  · have ht : t < up s (2 + n) v 1 := ht
    show stT _ b (up s (2 + n) v) t
    rw [e 1 (by omega)] at ht
    have := g6 t ht
    unfold stT at this ⊢
    rw [mI_o (by omega), mI_o (by omega), mI_o (by omega), mI_o (by omega), e _ (by omega), e _ (by omega), e _ (by omega), e _ (by omega)]
    exact this
  · rw [mI_o (by omega)]; exact g7 j hj
theorem sp7_put_J {m : Nat} {x y : Int32} {s c : Nat → Nat} {M : mM} {Q : Int32 → mM → Prop} (hs : BK M m s c) (n lo hi : Nat) (hx : x = nI n) (hn : n ≤ 6) (hl : lo = loP n) (hh : hi = hiP n) (h : okP x y → ∀ M', fq M M' (bkS m) → BK M' m (f_put x y s).2 c → Q (f_put x y s).1 M') (hb : ¬ okP x y → p_X7_bad m M Q) : p_X7_in y.toInt64 (lN lo) (lN hi) M (fun r => p_X7_put_J81 m x y Q r M) := by
  have hp := hiP_le n
  have lp := loP_le n
  have hv : vN x = n := by rw [hx]; exact vN_n (by omega)
  subst hl hh
  refine sp7_inI (by omega) (by omega) (fun a => ?_) (fun a => ?_)
  · have ok : okP x y := ⟨⟨n, by omega, hn, hx⟩, by rw [hv]; exact a⟩
    refine ⟨fun e => absurd e (by decide), fun _ => ?_⟩
    replace h := h ok
    unfold f_put at h
    rw [pqI_t ok, hv] at h
    obtain ⟨u2, v2, v3⟩ := iB_v (by omega) a
    rw [hx, show (2 : Int32) + nI n = nI (2 + n) from nI_add 2 n]
    refine sp7_puts (v := 0) (by omega) (fun M' e => ?_)
    rw [hs.1 _ (by omega)]
    rw [u2] at e
    subst e
    exact h _ (fq.rf.mI rfl) (BK.up hs (by omega))
  · have ok : ¬ okP x y := fun q => a (by rw [← hv]; exact q.2)
    exact ⟨fun _ => hb ok, fun e => absurd rfl e⟩
theorem sp7_put {m : Nat} {x y : Int32} {s c : Nat → Nat} {M : mM} {Q : Int32 → mM → Prop} (hs : BK M m s c) (h : okP x y → ∀ M', fq M M' (bkS m) → BK M' m (f_put x y s).2 c → Q (f_put x y s).1 M') (hb : ¬ okP x y → p_X7_bad m M Q) : p_X7_put m x y M Q := by
  have bad : ¬ iB x 0 6 → p_X7_put_J81 m x y Q 0 M := fun q => ⟨fun _ => hb (fun r => q r.1), fun e => absurd rfl e⟩
  refine sp7_inI (lo := 0) (hi := 3) (by decide) (by decide) (fun a => ⟨fun e => absurd e (by decide), fun _ => ?_⟩) (fun a => ⟨fun _ => ⟨fun n4 => ⟨fun n5 => ⟨fun n6 => bad (fun q => ?_), fun e6 => ?_⟩, fun e5 => ?_⟩, fun e4 => ?_⟩, fun e => absurd rfl e⟩)
  · obtain ⟨n, _, n3, rfl⟩ := a
    exact sp7_put_J hs n 0 5 rfl (by omega) (by unfold loP; rw [if_neg (by omega)]) (by unfold hiP; rw [if_pos (by omega)]) h hb
  · obtain ⟨n, _, n7, rfl⟩ := q
    have h4 : n ≠ 4 := fun e => n4 (by rw [e]; rfl)
    have h5 : n ≠ 5 := fun e => n5 (by rw [e]; rfl)
    have h6 : n ≠ 6 := fun e => n6 (by rw [e]; rfl)
    exact a ⟨n, by omega, by omega, rfl⟩
  · have z := sp7_put_J hs 6 1 9 e6 (by omega) rfl rfl h hb
    refine sp7_inI (lo := 1) (hi := 9) (by decide) (by decide) (fun b => ⟨fun e => absurd e (by decide), fun _ => ?_⟩) (fun b => ⟨fun _ => ?_, fun e => absurd rfl e⟩)
    · have z1 := z.2
      obtain ⟨v, v1, v2, rfl⟩ := b
      exact (z.2 (show ¬ (nI v).toInt64 < lN 1 from fun q => by rw [← nI_ll (n := 1) (by decide), l64_lt, jI_n, jI_n, jI_t (by omega) (by omega), jI_t (by omega) (by omega)] at q; omega)).2 (show ¬ lN 9 < (nI v).toInt64 from fun q => by rw [← nI_ll (n := 9) (by decide), l64_lt, jI_n, jI_n, jI_t (by omega) (by omega), jI_t (by omega) (by omega)] at q; omega)
    · have ok : ¬ okP x y := fun q => b (by have := q.2; rw [e6, show vN (6 : Int32) = 6 from rfl] at this; exact this)
      exact ⟨fun _ => hb ok, fun e => absurd rfl e⟩
  · exact sp7_put_J hs 5 0 3 e5 (by omega) rfl rfl h hb
  · exact sp7_put_J hs 4 0 60 e4 (by omega) rfl rfl h hb
