/-! LOOPS: an invariant and a measure -/
def Loop {σ : Type} (F : (σ → Prop) → σ → Prop) (s0 : σ) : Prop := ∃ (I : Nat → σ → Prop) (n : Nat), I n s0 ∧ ∀ n s, I n s → F (fun s' => ∃ m, m < n ∧ I m s') s
theorem Loop.sound {σ : Type} {F : (σ → Prop) → σ → Prop} {s0 : σ} {P : σ → Prop} (h : Loop F s0) (cl : ∀ ag : σ → Prop, (∀ s, ag s → P s) → ∀ s, F ag s → P s) : P s0 := by
  obtain ⟨I, n0, h0, hs⟩ := h
  have key : ∀ n m s, m < n → I m s → P s := by
    intro n
    induction n with
    | zero => intro m s hn; omega
    | succ n ih =>
      intro m s hn hi
      exact cl _ (fun s' ⟨k, hk, hi'⟩ => ih k s' (by omega) hi') s (hs m s hi)
  exact key _ n0 s0 (Nat.lt_succ_self _) h0
def poI (M : mM) (Q : Int32 → Prop) : Option Value → mM → Prop := fun v M1 => M = M1 ∧ ∃ r : Int32, v = some (.int r) ∧ Q r
def poL (M : mM) (Q : Int64 → Prop) : Option Value → mM → Prop := fun v M1 => M = M1 ∧ ∃ r : Int64, v = some (.long r) ∧ Q r
def poV (M : mM) (Q : Prop) : Option Value → mM → Prop := fun v M1 => v = none ∧ M = M1 ∧ Q
theorem ltN {a n i : Nat} (h : a = n) (hi : i < n) : i < a := by rw [h]; exact hi
theorem vp_lit {i : Int32} {n : Nat} (h : ¬ (i < 0 ∨ n ≤ i.toNatClampNeg)) : vp_in i n := h
theorem V_nmM {X : wX} {pc : Nat} {lv : List (Nat × Value)} {st : List Value} {M : mM} (k : ∀ M1 : mM, M1 = M → V X pc lv st M1) : V X pc lv st M := k M rfl
theorem V_nmI {X : wX} {pc : Nat} {lv : List (Nat × Value)} {st : List Value} {M : mM} {x : Int32} (k : ∀ y : Int32, y = x → V X pc lv (.int y :: st) M) : V X pc lv (.int x :: st) M := k x rfl
theorem V_nmL {X : wX} {pc : Nat} {lv : List (Nat × Value)} {st : List Value} {M : mM} {x : Int64} (k : ∀ y : Int64, y = x → V X pc lv (.long y :: st) M) : V X pc lv (.long x :: st) M := k x rfl
theorem lgc_all (x y : Int64) : (lg_cmp x y = 0 ↔ x = y) ∧ (lg_cmp x y < 0 ↔ x < y) ∧ (0 ≤ lg_cmp x y ↔ y ≤ x) ∧ (0 < lg_cmp x y ↔ y < x) ∧ (lg_cmp x y ≤ 0 ↔ x ≤ y) := by
  have hlt : ∀ a b : Int64, a < b ↔ a.toInt < b.toInt := fun a b => Int64.lt_iff_toInt_lt
  have hle : ∀ a b : Int64, a ≤ b ↔ a.toInt ≤ b.toInt := fun a b => Int64.le_iff_toInt_le
  have heq : ∀ a b : Int64, a = b ↔ a.toInt = b.toInt := fun a b => Int64.toInt_inj.symm
  unfold lg_cmp
  rw [hlt x y, hle y x, hlt y x, hle x y]
  by_cases h1 : x > y
  · rw [if_pos h1]
    have h2 : y.toInt < x.toInt := (hlt y x).mp h1
    have h9 : ¬ x = y := fun q => by have := (heq x y).mp q; omega
    exact ⟨⟨fun h => absurd h (by decide), fun h => absurd h h9⟩, ⟨fun h => absurd h (by decide), fun h => by omega⟩, ⟨fun _ => by omega, fun _ => by decide⟩, ⟨fun _ => by omega, fun _ => by decide⟩, ⟨fun h => absurd h (by decide), fun h => by omega⟩⟩
  · rw [if_neg h1]
    have h2 : ¬ y.toInt < x.toInt := fun q => h1 ((hlt y x).mpr q)
    by_cases h3 : x = y
    · rw [if_pos h3]
      have h4 : x.toInt = y.toInt := (heq x y).mp h3
      exact ⟨⟨fun _ => h3, fun _ => rfl⟩, ⟨fun h => absurd h (by decide), fun h => by omega⟩, ⟨fun _ => by omega, fun _ => by decide⟩, ⟨fun h => absurd h (by decide), fun h => by omega⟩, ⟨fun _ => by omega, fun _ => by decide⟩⟩
    · rw [if_neg h3]
      have h4 : ¬ x.toInt = y.toInt := fun q => h3 ((heq x y).mpr q)
      exact ⟨⟨fun h => absurd h (by decide), fun h => absurd h h3⟩, ⟨fun _ => by omega, fun _ => by decide⟩, ⟨fun h => absurd h (by decide), fun h => by omega⟩, ⟨fun h => absurd h (by decide), fun h => by omega⟩, ⟨fun _ => by omega, fun _ => by decide⟩⟩
theorem lgc_eq {x y : Int64} : lg_cmp x y = 0 ↔ x = y := (lgc_all x y).1
theorem lgc_ne {x y : Int64} : ¬ lg_cmp x y = 0 ↔ ¬ x = y := not_congr lgc_eq
theorem lgc_lt {x y : Int64} : lg_cmp x y < 0 ↔ x < y := (lgc_all x y).2.1
theorem lgc_nlt {x y : Int64} : ¬ lg_cmp x y < 0 ↔ ¬ x < y := not_congr lgc_lt
theorem lgc_ge {x y : Int64} : 0 ≤ lg_cmp x y ↔ y ≤ x := (lgc_all x y).2.2.1
theorem lgc_nge {x y : Int64} : ¬ 0 ≤ lg_cmp x y ↔ ¬ y ≤ x := not_congr lgc_ge
theorem lgc_gt {x y : Int64} : 0 < lg_cmp x y ↔ y < x := (lgc_all x y).2.2.2.1
theorem lgc_ngt {x y : Int64} : ¬ 0 < lg_cmp x y ↔ ¬ y < x := not_congr lgc_gt
theorem lgc_le {x y : Int64} : lg_cmp x y ≤ 0 ↔ x ≤ y := (lgc_all x y).2.2.2.2
theorem lgc_nle {x y : Int64} : ¬ lg_cmp x y ≤ 0 ↔ ¬ x ≤ y := not_congr lgc_le
theorem inR0 {a b c d e f g h i j : List Cond} {w : Cond} (q : w ∈ a) : w ∈ a ++ b ++ c ++ d ++ e ++ f ++ g ++ h ++ i ++ j := by simp only [List.mem_append]; exact Or.inl (Or.inl (Or.inl (Or.inl (Or.inl (Or.inl (Or.inl (Or.inl (Or.inl q))))))))
theorem inR1 {w : Cond} (q : w ∈ wsL_law_r1) : w ∈ wsL_law := inR0 (List.mem_append_left _ q)
theorem inR2 {w : Cond} (q : w ∈ wsL_law_r2) : w ∈ wsL_law := inR0 (List.mem_append_right _ (List.mem_append_left _ q))
theorem inR3 {w : Cond} (q : w ∈ wsL_law_r3) : w ∈ wsL_law := inR0 (List.mem_append_right _ (List.mem_append_right _ (List.mem_append_left _ q)))
theorem inR4 {w : Cond} (q : w ∈ wsL_law_r4) : w ∈ wsL_law := inR0 (List.mem_append_right _ (List.mem_append_right _ (List.mem_append_right _ (List.mem_append_left _ q))))
theorem inR5 {w : Cond} (q : w ∈ wsL_law_r5) : w ∈ wsL_law := inR0 (List.mem_append_right _ (List.mem_append_right _ (List.mem_append_right _ (List.mem_append_right _ (List.mem_append_left _ q)))))
theorem inR6 {w : Cond} (q : w ∈ wsL_law_r6) : w ∈ wsL_law := inR0 (List.mem_append_right _ (List.mem_append_right _ (List.mem_append_right _ (List.mem_append_right _ (List.mem_append_right _ (List.mem_append_left _ q))))))
theorem inR7 {w : Cond} (q : w ∈ wsL_law_r7) : w ∈ wsL_law := inR0 (List.mem_append_right _ (List.mem_append_right _ (List.mem_append_right _ (List.mem_append_right _ (List.mem_append_right _ (List.mem_append_right _ (List.mem_append_left _ q)))))))
theorem inR8 {w : Cond} (q : w ∈ wsL_law_r8) : w ∈ wsL_law := inR0 (List.mem_append_right _ (List.mem_append_right _ (List.mem_append_right _ (List.mem_append_right _ (List.mem_append_right _ (List.mem_append_right _ (List.mem_append_right _ (List.mem_append_left _ q))))))))
theorem inR9 {w : Cond} (q : w ∈ wsL_law_r9) : w ∈ wsL_law := inR0 (List.mem_append_right _ (List.mem_append_right _ (List.mem_append_right _ (List.mem_append_right _ (List.mem_append_right _ (List.mem_append_right _ (List.mem_append_right _ (List.mem_append_right _ (List.mem_append_left _ q)))))))))
theorem inR10 {w : Cond} (q : w ∈ wsL_law_r10) : w ∈ wsL_law := inR0 (List.mem_append_right _ (List.mem_append_right _ (List.mem_append_right _ (List.mem_append_right _ (List.mem_append_right _ (List.mem_append_right _ (List.mem_append_right _ (List.mem_append_right _ (List.mem_append_right _ (List.mem_append_left _ q))))))))))
theorem inR11 {w : Cond} (q : w ∈ wsL_law_r11) : w ∈ wsL_law := inR0 (List.mem_append_right _ (List.mem_append_right _ (List.mem_append_right _ (List.mem_append_right _ (List.mem_append_right _ (List.mem_append_right _ (List.mem_append_right _ (List.mem_append_right _ (List.mem_append_right _ (List.mem_append_right _ (List.mem_append_left _ q)))))))))))
theorem inR12 {w : Cond} (q : w ∈ wsL_law_r12) : w ∈ wsL_law := inR0 (List.mem_append_right _ (List.mem_append_right _ (List.mem_append_right _ (List.mem_append_right _ (List.mem_append_right _ (List.mem_append_right _ (List.mem_append_right _ (List.mem_append_right _ (List.mem_append_right _ (List.mem_append_right _ (List.mem_append_right _ (List.mem_append_left _ q))))))))))))
theorem inR13 {w : Cond} (q : w ∈ wsL_law_r13) : w ∈ wsL_law := inR0 (List.mem_append_right _ (List.mem_append_right _ (List.mem_append_right _ (List.mem_append_right _ (List.mem_append_right _ (List.mem_append_right _ (List.mem_append_right _ (List.mem_append_right _ (List.mem_append_right _ (List.mem_append_right _ (List.mem_append_right _ (List.mem_append_right _ (List.mem_append_left _ q)))))))))))))
theorem inR14 {w : Cond} (q : w ∈ wsL_law_r14) : w ∈ wsL_law := inR0 (List.mem_append_right _ (List.mem_append_right _ (List.mem_append_right _ (List.mem_append_right _ (List.mem_append_right _ (List.mem_append_right _ (List.mem_append_right _ (List.mem_append_right _ (List.mem_append_right _ (List.mem_append_right _ (List.mem_append_right _ (List.mem_append_right _ (List.mem_append_right _ (List.mem_append_left _ q))))))))))))))
theorem inR15 {w : Cond} (q : w ∈ wsL_law_r15) : w ∈ wsL_law := inR0 (List.mem_append_right _ (List.mem_append_right _ (List.mem_append_right _ (List.mem_append_right _ (List.mem_append_right _ (List.mem_append_right _ (List.mem_append_right _ (List.mem_append_right _ (List.mem_append_right _ (List.mem_append_right _ (List.mem_append_right _ (List.mem_append_right _ (List.mem_append_right _ (List.mem_append_right _ (List.mem_append_left _ q)))))))))))))))
theorem inR16 {w : Cond} (q : w ∈ wsL_law_r16) : w ∈ wsL_law := inR0 (List.mem_append_right _ (List.mem_append_right _ (List.mem_append_right _ (List.mem_append_right _ (List.mem_append_right _ (List.mem_append_right _ (List.mem_append_right _ (List.mem_append_right _ (List.mem_append_right _ (List.mem_append_right _ (List.mem_append_right _ (List.mem_append_right _ (List.mem_append_right _ (List.mem_append_right _ (List.mem_append_right _ (List.mem_append_left _ q))))))))))))))))
theorem inR17 {w : Cond} (q : w ∈ wsL_law_r17) : w ∈ wsL_law := inR0 (List.mem_append_right _ (List.mem_append_right _ (List.mem_append_right _ (List.mem_append_right _ (List.mem_append_right _ (List.mem_append_right _ (List.mem_append_right _ (List.mem_append_right _ (List.mem_append_right _ (List.mem_append_right _ (List.mem_append_right _ (List.mem_append_right _ (List.mem_append_right _ (List.mem_append_right _ (List.mem_append_right _ (List.mem_append_right _ (List.mem_append_left _ q)))))))))))))))))
theorem inR18 {w : Cond} (q : w ∈ wsL_law_r18) : w ∈ wsL_law := inR0 (List.mem_append_right _ (List.mem_append_right _ (List.mem_append_right _ (List.mem_append_right _ (List.mem_append_right _ (List.mem_append_right _ (List.mem_append_right _ (List.mem_append_right _ (List.mem_append_right _ (List.mem_append_right _ (List.mem_append_right _ (List.mem_append_right _ (List.mem_append_right _ (List.mem_append_right _ (List.mem_append_right _ (List.mem_append_right _ (List.mem_append_right _ (List.mem_append_left _ q))))))))))))))))))
theorem inR19 {w : Cond} (q : w ∈ wsL_law_r19) : w ∈ wsL_law := inR0 (List.mem_append_right _ (List.mem_append_right _ (List.mem_append_right _ (List.mem_append_right _ (List.mem_append_right _ (List.mem_append_right _ (List.mem_append_right _ (List.mem_append_right _ (List.mem_append_right _ (List.mem_append_right _ (List.mem_append_right _ (List.mem_append_right _ (List.mem_append_right _ (List.mem_append_right _ (List.mem_append_right _ (List.mem_append_right _ (List.mem_append_right _ (List.mem_append_right _ (List.mem_append_left _ q)))))))))))))))))))
theorem inR20 {w : Cond} (q : w ∈ wsL_law_r20) : w ∈ wsL_law := inR0 (List.mem_append_right _ (List.mem_append_right _ (List.mem_append_right _ (List.mem_append_right _ (List.mem_append_right _ (List.mem_append_right _ (List.mem_append_right _ (List.mem_append_right _ (List.mem_append_right _ (List.mem_append_right _ (List.mem_append_right _ (List.mem_append_right _ (List.mem_append_right _ (List.mem_append_right _ (List.mem_append_right _ (List.mem_append_right _ (List.mem_append_right _ (List.mem_append_right _ (List.mem_append_right _ (List.mem_append_left _ q))))))))))))))))))))
theorem inR21 {w : Cond} (q : w ∈ wsL_law_r21) : w ∈ wsL_law := inR0 (List.mem_append_right _ (List.mem_append_right _ (List.mem_append_right _ (List.mem_append_right _ (List.mem_append_right _ (List.mem_append_right _ (List.mem_append_right _ (List.mem_append_right _ (List.mem_append_right _ (List.mem_append_right _ (List.mem_append_right _ (List.mem_append_right _ (List.mem_append_right _ (List.mem_append_right _ (List.mem_append_right _ (List.mem_append_right _ (List.mem_append_right _ (List.mem_append_right _ (List.mem_append_right _ (List.mem_append_right _ (List.mem_append_left _ q)))))))))))))))))))))
theorem inR22 {w : Cond} (q : w ∈ wsL_law_r22) : w ∈ wsL_law := inR0 (List.mem_append_right _ (List.mem_append_right _ (List.mem_append_right _ (List.mem_append_right _ (List.mem_append_right _ (List.mem_append_right _ (List.mem_append_right _ (List.mem_append_right _ (List.mem_append_right _ (List.mem_append_right _ (List.mem_append_right _ (List.mem_append_right _ (List.mem_append_right _ (List.mem_append_right _ (List.mem_append_right _ (List.mem_append_right _ (List.mem_append_right _ (List.mem_append_right _ (List.mem_append_right _ (List.mem_append_right _ (List.mem_append_right _ (List.mem_append_left _ q))))))))))))))))))))))
theorem inR23 {w : Cond} (q : w ∈ wsL_law_r23) : w ∈ wsL_law := inR0 (List.mem_append_right _ (List.mem_append_right _ (List.mem_append_right _ (List.mem_append_right _ (List.mem_append_right _ (List.mem_append_right _ (List.mem_append_right _ (List.mem_append_right _ (List.mem_append_right _ (List.mem_append_right _ (List.mem_append_right _ (List.mem_append_right _ (List.mem_append_right _ (List.mem_append_right _ (List.mem_append_right _ (List.mem_append_right _ (List.mem_append_right _ (List.mem_append_right _ (List.mem_append_right _ (List.mem_append_right _ (List.mem_append_right _ (List.mem_append_right _ (List.mem_append_left _ q)))))))))))))))))))))))
theorem inR24 {w : Cond} (q : w ∈ wsL_law_r24) : w ∈ wsL_law := inR0 (List.mem_append_right _ (List.mem_append_right _ (List.mem_append_right _ (List.mem_append_right _ (List.mem_append_right _ (List.mem_append_right _ (List.mem_append_right _ (List.mem_append_right _ (List.mem_append_right _ (List.mem_append_right _ (List.mem_append_right _ (List.mem_append_right _ (List.mem_append_right _ (List.mem_append_right _ (List.mem_append_right _ (List.mem_append_right _ (List.mem_append_right _ (List.mem_append_right _ (List.mem_append_right _ (List.mem_append_right _ (List.mem_append_right _ (List.mem_append_right _ (List.mem_append_right _ (List.mem_append_left _ q))))))))))))))))))))))))
theorem inR25 {w : Cond} (q : w ∈ wsL_law_r25) : w ∈ wsL_law := inR0 (List.mem_append_right _ (List.mem_append_right _ (List.mem_append_right _ (List.mem_append_right _ (List.mem_append_right _ (List.mem_append_right _ (List.mem_append_right _ (List.mem_append_right _ (List.mem_append_right _ (List.mem_append_right _ (List.mem_append_right _ (List.mem_append_right _ (List.mem_append_right _ (List.mem_append_right _ (List.mem_append_right _ (List.mem_append_right _ (List.mem_append_right _ (List.mem_append_right _ (List.mem_append_right _ (List.mem_append_right _ (List.mem_append_right _ (List.mem_append_right _ (List.mem_append_right _ (List.mem_append_right _ (List.mem_append_left _ q)))))))))))))))))))))))))
theorem inR26 {w : Cond} (q : w ∈ wsL_law_r26) : w ∈ wsL_law := inR0 (List.mem_append_right _ (List.mem_append_right _ (List.mem_append_right _ (List.mem_append_right _ (List.mem_append_right _ (List.mem_append_right _ (List.mem_append_right _ (List.mem_append_right _ (List.mem_append_right _ (List.mem_append_right _ (List.mem_append_right _ (List.mem_append_right _ (List.mem_append_right _ (List.mem_append_right _ (List.mem_append_right _ (List.mem_append_right _ (List.mem_append_right _ (List.mem_append_right _ (List.mem_append_right _ (List.mem_append_right _ (List.mem_append_right _ (List.mem_append_right _ (List.mem_append_right _ (List.mem_append_right _ (List.mem_append_right _ (List.mem_append_left _ q))))))))))))))))))))))))))
theorem inR27 {w : Cond} (q : w ∈ wsL_law_r27) : w ∈ wsL_law := inR0 (List.mem_append_right _ (List.mem_append_right _ (List.mem_append_right _ (List.mem_append_right _ (List.mem_append_right _ (List.mem_append_right _ (List.mem_append_right _ (List.mem_append_right _ (List.mem_append_right _ (List.mem_append_right _ (List.mem_append_right _ (List.mem_append_right _ (List.mem_append_right _ (List.mem_append_right _ (List.mem_append_right _ (List.mem_append_right _ (List.mem_append_right _ (List.mem_append_right _ (List.mem_append_right _ (List.mem_append_right _ (List.mem_append_right _ (List.mem_append_right _ (List.mem_append_right _ (List.mem_append_right _ (List.mem_append_right _ (List.mem_append_right _ (List.mem_append_left _ q)))))))))))))))))))))))))))
theorem inR28 {w : Cond} (q : w ∈ wsL_law_r28) : w ∈ wsL_law := inR0 (List.mem_append_right _ (List.mem_append_right _ (List.mem_append_right _ (List.mem_append_right _ (List.mem_append_right _ (List.mem_append_right _ (List.mem_append_right _ (List.mem_append_right _ (List.mem_append_right _ (List.mem_append_right _ (List.mem_append_right _ (List.mem_append_right _ (List.mem_append_right _ (List.mem_append_right _ (List.mem_append_right _ (List.mem_append_right _ (List.mem_append_right _ (List.mem_append_right _ (List.mem_append_right _ (List.mem_append_right _ (List.mem_append_right _ (List.mem_append_right _ (List.mem_append_right _ (List.mem_append_right _ (List.mem_append_right _ (List.mem_append_right _ (List.mem_append_right _ (List.mem_append_left _ q))))))))))))))))))))))))))))
theorem inR29 {w : Cond} (q : w ∈ wsL_law_r29) : w ∈ wsL_law := inR0 (List.mem_append_right _ (List.mem_append_right _ (List.mem_append_right _ (List.mem_append_right _ (List.mem_append_right _ (List.mem_append_right _ (List.mem_append_right _ (List.mem_append_right _ (List.mem_append_right _ (List.mem_append_right _ (List.mem_append_right _ (List.mem_append_right _ (List.mem_append_right _ (List.mem_append_right _ (List.mem_append_right _ (List.mem_append_right _ (List.mem_append_right _ (List.mem_append_right _ (List.mem_append_right _ (List.mem_append_right _ (List.mem_append_right _ (List.mem_append_right _ (List.mem_append_right _ (List.mem_append_right _ (List.mem_append_right _ (List.mem_append_right _ (List.mem_append_right _ (List.mem_append_right _ (List.mem_append_left _ q)))))))))))))))))))))))))))))
theorem inR30 {w : Cond} (q : w ∈ wsL_law_r30) : w ∈ wsL_law := inR0 (List.mem_append_right _ (List.mem_append_right _ (List.mem_append_right _ (List.mem_append_right _ (List.mem_append_right _ (List.mem_append_right _ (List.mem_append_right _ (List.mem_append_right _ (List.mem_append_right _ (List.mem_append_right _ (List.mem_append_right _ (List.mem_append_right _ (List.mem_append_right _ (List.mem_append_right _ (List.mem_append_right _ (List.mem_append_right _ (List.mem_append_right _ (List.mem_append_right _ (List.mem_append_right _ (List.mem_append_right _ (List.mem_append_right _ (List.mem_append_right _ (List.mem_append_right _ (List.mem_append_right _ (List.mem_append_right _ (List.mem_append_right _ (List.mem_append_right _ (List.mem_append_right _ (List.mem_append_right _ (List.mem_append_left _ q))))))))))))))))))))))))))))))
theorem inR31 {w : Cond} (q : w ∈ wsL_law_r31) : w ∈ wsL_law := inR0 (List.mem_append_right _ (List.mem_append_right _ (List.mem_append_right _ (List.mem_append_right _ (List.mem_append_right _ (List.mem_append_right _ (List.mem_append_right _ (List.mem_append_right _ (List.mem_append_right _ (List.mem_append_right _ (List.mem_append_right _ (List.mem_append_right _ (List.mem_append_right _ (List.mem_append_right _ (List.mem_append_right _ (List.mem_append_right _ (List.mem_append_right _ (List.mem_append_right _ (List.mem_append_right _ (List.mem_append_right _ (List.mem_append_right _ (List.mem_append_right _ (List.mem_append_right _ (List.mem_append_right _ (List.mem_append_right _ (List.mem_append_right _ (List.mem_append_right _ (List.mem_append_right _ (List.mem_append_right _ (List.mem_append_right _ (List.mem_append_left _ q)))))))))))))))))))))))))))))))
theorem inR32 {w : Cond} (q : w ∈ wsL_law_r32) : w ∈ wsL_law := inR0 (List.mem_append_right _ (List.mem_append_right _ (List.mem_append_right _ (List.mem_append_right _ (List.mem_append_right _ (List.mem_append_right _ (List.mem_append_right _ (List.mem_append_right _ (List.mem_append_right _ (List.mem_append_right _ (List.mem_append_right _ (List.mem_append_right _ (List.mem_append_right _ (List.mem_append_right _ (List.mem_append_right _ (List.mem_append_right _ (List.mem_append_right _ (List.mem_append_right _ (List.mem_append_right _ (List.mem_append_right _ (List.mem_append_right _ (List.mem_append_right _ (List.mem_append_right _ (List.mem_append_right _ (List.mem_append_right _ (List.mem_append_right _ (List.mem_append_right _ (List.mem_append_right _ (List.mem_append_right _ (List.mem_append_right _ (List.mem_append_right _ (List.mem_append_left _ q))))))))))))))))))))))))))))))))
theorem inR33 {w : Cond} (q : w ∈ wsL_law_r33) : w ∈ wsL_law := inR0 (List.mem_append_right _ (List.mem_append_right _ (List.mem_append_right _ (List.mem_append_right _ (List.mem_append_right _ (List.mem_append_right _ (List.mem_append_right _ (List.mem_append_right _ (List.mem_append_right _ (List.mem_append_right _ (List.mem_append_right _ (List.mem_append_right _ (List.mem_append_right _ (List.mem_append_right _ (List.mem_append_right _ (List.mem_append_right _ (List.mem_append_right _ (List.mem_append_right _ (List.mem_append_right _ (List.mem_append_right _ (List.mem_append_right _ (List.mem_append_right _ (List.mem_append_right _ (List.mem_append_right _ (List.mem_append_right _ (List.mem_append_right _ (List.mem_append_right _ (List.mem_append_right _ (List.mem_append_right _ (List.mem_append_right _ (List.mem_append_right _ (List.mem_append_right _ (List.mem_append_left _ q)))))))))))))))))))))))))))))))))
theorem inR34 {w : Cond} (q : w ∈ wsL_law_r34) : w ∈ wsL_law := inR0 (List.mem_append_right _ (List.mem_append_right _ (List.mem_append_right _ (List.mem_append_right _ (List.mem_append_right _ (List.mem_append_right _ (List.mem_append_right _ (List.mem_append_right _ (List.mem_append_right _ (List.mem_append_right _ (List.mem_append_right _ (List.mem_append_right _ (List.mem_append_right _ (List.mem_append_right _ (List.mem_append_right _ (List.mem_append_right _ (List.mem_append_right _ (List.mem_append_right _ (List.mem_append_right _ (List.mem_append_right _ (List.mem_append_right _ (List.mem_append_right _ (List.mem_append_right _ (List.mem_append_right _ (List.mem_append_right _ (List.mem_append_right _ (List.mem_append_right _ (List.mem_append_right _ (List.mem_append_right _ (List.mem_append_right _ (List.mem_append_right _ (List.mem_append_right _ (List.mem_append_right _ (List.mem_append_left _ q))))))))))))))))))))))))))))))))))
theorem inR35 {w : Cond} (q : w ∈ wsL_law_r35) : w ∈ wsL_law := inR0 (List.mem_append_right _ (List.mem_append_right _ (List.mem_append_right _ (List.mem_append_right _ (List.mem_append_right _ (List.mem_append_right _ (List.mem_append_right _ (List.mem_append_right _ (List.mem_append_right _ (List.mem_append_right _ (List.mem_append_right _ (List.mem_append_right _ (List.mem_append_right _ (List.mem_append_right _ (List.mem_append_right _ (List.mem_append_right _ (List.mem_append_right _ (List.mem_append_right _ (List.mem_append_right _ (List.mem_append_right _ (List.mem_append_right _ (List.mem_append_right _ (List.mem_append_right _ (List.mem_append_right _ (List.mem_append_right _ (List.mem_append_right _ (List.mem_append_right _ (List.mem_append_right _ (List.mem_append_right _ (List.mem_append_right _ (List.mem_append_right _ (List.mem_append_right _ (List.mem_append_right _ (List.mem_append_right _ (List.mem_append_left _ q)))))))))))))))))))))))))))))))))))
theorem inR36 {w : Cond} (q : w ∈ wsL_law_r36) : w ∈ wsL_law := inR0 (List.mem_append_right _ (List.mem_append_right _ (List.mem_append_right _ (List.mem_append_right _ (List.mem_append_right _ (List.mem_append_right _ (List.mem_append_right _ (List.mem_append_right _ (List.mem_append_right _ (List.mem_append_right _ (List.mem_append_right _ (List.mem_append_right _ (List.mem_append_right _ (List.mem_append_right _ (List.mem_append_right _ (List.mem_append_right _ (List.mem_append_right _ (List.mem_append_right _ (List.mem_append_right _ (List.mem_append_right _ (List.mem_append_right _ (List.mem_append_right _ (List.mem_append_right _ (List.mem_append_right _ (List.mem_append_right _ (List.mem_append_right _ (List.mem_append_right _ (List.mem_append_right _ (List.mem_append_right _ (List.mem_append_right _ (List.mem_append_right _ (List.mem_append_right _ (List.mem_append_right _ (List.mem_append_right _ (List.mem_append_right _ (List.mem_append_left _ q))))))))))))))))))))))))))))))))))))
theorem inR37 {w : Cond} (q : w ∈ wsL_law_r37) : w ∈ wsL_law := inR0 (List.mem_append_right _ (List.mem_append_right _ (List.mem_append_right _ (List.mem_append_right _ (List.mem_append_right _ (List.mem_append_right _ (List.mem_append_right _ (List.mem_append_right _ (List.mem_append_right _ (List.mem_append_right _ (List.mem_append_right _ (List.mem_append_right _ (List.mem_append_right _ (List.mem_append_right _ (List.mem_append_right _ (List.mem_append_right _ (List.mem_append_right _ (List.mem_append_right _ (List.mem_append_right _ (List.mem_append_right _ (List.mem_append_right _ (List.mem_append_right _ (List.mem_append_right _ (List.mem_append_right _ (List.mem_append_right _ (List.mem_append_right _ (List.mem_append_right _ (List.mem_append_right _ (List.mem_append_right _ (List.mem_append_right _ (List.mem_append_right _ (List.mem_append_right _ (List.mem_append_right _ (List.mem_append_right _ (List.mem_append_right _ (List.mem_append_right _ (List.mem_append_left _ q)))))))))))))))))))))))))))))))))))))
theorem inR38 {w : Cond} (q : w ∈ wsL_law_r38) : w ∈ wsL_law := inR0 (List.mem_append_right _ (List.mem_append_right _ (List.mem_append_right _ (List.mem_append_right _ (List.mem_append_right _ (List.mem_append_right _ (List.mem_append_right _ (List.mem_append_right _ (List.mem_append_right _ (List.mem_append_right _ (List.mem_append_right _ (List.mem_append_right _ (List.mem_append_right _ (List.mem_append_right _ (List.mem_append_right _ (List.mem_append_right _ (List.mem_append_right _ (List.mem_append_right _ (List.mem_append_right _ (List.mem_append_right _ (List.mem_append_right _ (List.mem_append_right _ (List.mem_append_right _ (List.mem_append_right _ (List.mem_append_right _ (List.mem_append_right _ (List.mem_append_right _ (List.mem_append_right _ (List.mem_append_right _ (List.mem_append_right _ (List.mem_append_right _ (List.mem_append_right _ (List.mem_append_right _ (List.mem_append_right _ (List.mem_append_right _ (List.mem_append_right _ (List.mem_append_right _ (List.mem_append_left _ q))))))))))))))))))))))))))))))))))))))
theorem inR39 {w : Cond} (q : w ∈ wsL_law_r39) : w ∈ wsL_law := inR0 (List.mem_append_right _ (List.mem_append_right _ (List.mem_append_right _ (List.mem_append_right _ (List.mem_append_right _ (List.mem_append_right _ (List.mem_append_right _ (List.mem_append_right _ (List.mem_append_right _ (List.mem_append_right _ (List.mem_append_right _ (List.mem_append_right _ (List.mem_append_right _ (List.mem_append_right _ (List.mem_append_right _ (List.mem_append_right _ (List.mem_append_right _ (List.mem_append_right _ (List.mem_append_right _ (List.mem_append_right _ (List.mem_append_right _ (List.mem_append_right _ (List.mem_append_right _ (List.mem_append_right _ (List.mem_append_right _ (List.mem_append_right _ (List.mem_append_right _ (List.mem_append_right _ (List.mem_append_right _ (List.mem_append_right _ (List.mem_append_right _ (List.mem_append_right _ (List.mem_append_right _ (List.mem_append_right _ (List.mem_append_right _ (List.mem_append_right _ (List.mem_append_right _ (List.mem_append_right _ (List.mem_append_left _ q)))))))))))))))))))))))))))))))))))))))
theorem inR40 {w : Cond} (q : w ∈ wsL_law_r40) : w ∈ wsL_law := inR0 (List.mem_append_right _ (List.mem_append_right _ (List.mem_append_right _ (List.mem_append_right _ (List.mem_append_right _ (List.mem_append_right _ (List.mem_append_right _ (List.mem_append_right _ (List.mem_append_right _ (List.mem_append_right _ (List.mem_append_right _ (List.mem_append_right _ (List.mem_append_right _ (List.mem_append_right _ (List.mem_append_right _ (List.mem_append_right _ (List.mem_append_right _ (List.mem_append_right _ (List.mem_append_right _ (List.mem_append_right _ (List.mem_append_right _ (List.mem_append_right _ (List.mem_append_right _ (List.mem_append_right _ (List.mem_append_right _ (List.mem_append_right _ (List.mem_append_right _ (List.mem_append_right _ (List.mem_append_right _ (List.mem_append_right _ (List.mem_append_right _ (List.mem_append_right _ (List.mem_append_right _ (List.mem_append_right _ (List.mem_append_right _ (List.mem_append_right _ (List.mem_append_right _ (List.mem_append_right _ (List.mem_append_right _ (List.mem_append_left _ q))))))))))))))))))))))))))))))))))))))))
theorem inR41 {w : Cond} (q : w ∈ wsL_law_r41) : w ∈ wsL_law := inR0 (List.mem_append_right _ (List.mem_append_right _ (List.mem_append_right _ (List.mem_append_right _ (List.mem_append_right _ (List.mem_append_right _ (List.mem_append_right _ (List.mem_append_right _ (List.mem_append_right _ (List.mem_append_right _ (List.mem_append_right _ (List.mem_append_right _ (List.mem_append_right _ (List.mem_append_right _ (List.mem_append_right _ (List.mem_append_right _ (List.mem_append_right _ (List.mem_append_right _ (List.mem_append_right _ (List.mem_append_right _ (List.mem_append_right _ (List.mem_append_right _ (List.mem_append_right _ (List.mem_append_right _ (List.mem_append_right _ (List.mem_append_right _ (List.mem_append_right _ (List.mem_append_right _ (List.mem_append_right _ (List.mem_append_right _ (List.mem_append_right _ (List.mem_append_right _ (List.mem_append_right _ (List.mem_append_right _ (List.mem_append_right _ (List.mem_append_right _ (List.mem_append_right _ (List.mem_append_right _ (List.mem_append_right _ (List.mem_append_right _ (List.mem_append_left _ q)))))))))))))))))))))))))))))))))))))))))
theorem inR42 {w : Cond} (q : w ∈ wsL_law_r42) : w ∈ wsL_law := inR0 (List.mem_append_right _ (List.mem_append_right _ (List.mem_append_right _ (List.mem_append_right _ (List.mem_append_right _ (List.mem_append_right _ (List.mem_append_right _ (List.mem_append_right _ (List.mem_append_right _ (List.mem_append_right _ (List.mem_append_right _ (List.mem_append_right _ (List.mem_append_right _ (List.mem_append_right _ (List.mem_append_right _ (List.mem_append_right _ (List.mem_append_right _ (List.mem_append_right _ (List.mem_append_right _ (List.mem_append_right _ (List.mem_append_right _ (List.mem_append_right _ (List.mem_append_right _ (List.mem_append_right _ (List.mem_append_right _ (List.mem_append_right _ (List.mem_append_right _ (List.mem_append_right _ (List.mem_append_right _ (List.mem_append_right _ (List.mem_append_right _ (List.mem_append_right _ (List.mem_append_right _ (List.mem_append_right _ (List.mem_append_right _ (List.mem_append_right _ (List.mem_append_right _ (List.mem_append_right _ (List.mem_append_right _ (List.mem_append_right _ (List.mem_append_right _ (List.mem_append_left _ q))))))))))))))))))))))))))))))))))))))))))
theorem inR43 {w : Cond} (q : w ∈ wsL_law_r43) : w ∈ wsL_law := inR0 (List.mem_append_right _ (List.mem_append_right _ (List.mem_append_right _ (List.mem_append_right _ (List.mem_append_right _ (List.mem_append_right _ (List.mem_append_right _ (List.mem_append_right _ (List.mem_append_right _ (List.mem_append_right _ (List.mem_append_right _ (List.mem_append_right _ (List.mem_append_right _ (List.mem_append_right _ (List.mem_append_right _ (List.mem_append_right _ (List.mem_append_right _ (List.mem_append_right _ (List.mem_append_right _ (List.mem_append_right _ (List.mem_append_right _ (List.mem_append_right _ (List.mem_append_right _ (List.mem_append_right _ (List.mem_append_right _ (List.mem_append_right _ (List.mem_append_right _ (List.mem_append_right _ (List.mem_append_right _ (List.mem_append_right _ (List.mem_append_right _ (List.mem_append_right _ (List.mem_append_right _ (List.mem_append_right _ (List.mem_append_right _ (List.mem_append_right _ (List.mem_append_right _ (List.mem_append_right _ (List.mem_append_right _ (List.mem_append_right _ (List.mem_append_right _ (List.mem_append_right _ (List.mem_append_left _ q)))))))))))))))))))))))))))))))))))))))))))
theorem inR44 {w : Cond} (q : w ∈ wsL_law_r44) : w ∈ wsL_law := inR0 (List.mem_append_right _ (List.mem_append_right _ (List.mem_append_right _ (List.mem_append_right _ (List.mem_append_right _ (List.mem_append_right _ (List.mem_append_right _ (List.mem_append_right _ (List.mem_append_right _ (List.mem_append_right _ (List.mem_append_right _ (List.mem_append_right _ (List.mem_append_right _ (List.mem_append_right _ (List.mem_append_right _ (List.mem_append_right _ (List.mem_append_right _ (List.mem_append_right _ (List.mem_append_right _ (List.mem_append_right _ (List.mem_append_right _ (List.mem_append_right _ (List.mem_append_right _ (List.mem_append_right _ (List.mem_append_right _ (List.mem_append_right _ (List.mem_append_right _ (List.mem_append_right _ (List.mem_append_right _ (List.mem_append_right _ (List.mem_append_right _ (List.mem_append_right _ (List.mem_append_right _ (List.mem_append_right _ (List.mem_append_right _ (List.mem_append_right _ (List.mem_append_right _ (List.mem_append_right _ (List.mem_append_right _ (List.mem_append_right _ (List.mem_append_right _ (List.mem_append_right _ (List.mem_append_right _ (List.mem_append_left _ q))))))))))))))))))))))))))))))))))))))))))))
theorem inR45 {w : Cond} (q : w ∈ wsL_law_r45) : w ∈ wsL_law := inR0 (List.mem_append_right _ (List.mem_append_right _ (List.mem_append_right _ (List.mem_append_right _ (List.mem_append_right _ (List.mem_append_right _ (List.mem_append_right _ (List.mem_append_right _ (List.mem_append_right _ (List.mem_append_right _ (List.mem_append_right _ (List.mem_append_right _ (List.mem_append_right _ (List.mem_append_right _ (List.mem_append_right _ (List.mem_append_right _ (List.mem_append_right _ (List.mem_append_right _ (List.mem_append_right _ (List.mem_append_right _ (List.mem_append_right _ (List.mem_append_right _ (List.mem_append_right _ (List.mem_append_right _ (List.mem_append_right _ (List.mem_append_right _ (List.mem_append_right _ (List.mem_append_right _ (List.mem_append_right _ (List.mem_append_right _ (List.mem_append_right _ (List.mem_append_right _ (List.mem_append_right _ (List.mem_append_right _ (List.mem_append_right _ (List.mem_append_right _ (List.mem_append_right _ (List.mem_append_right _ (List.mem_append_right _ (List.mem_append_right _ (List.mem_append_right _ (List.mem_append_right _ (List.mem_append_right _ (List.mem_append_right _ (List.mem_append_left _ q)))))))))))))))))))))))))))))))))))))))))))))
theorem inR46 {w : Cond} (q : w ∈ wsL_law_r46) : w ∈ wsL_law := inR0 (List.mem_append_right _ (List.mem_append_right _ (List.mem_append_right _ (List.mem_append_right _ (List.mem_append_right _ (List.mem_append_right _ (List.mem_append_right _ (List.mem_append_right _ (List.mem_append_right _ (List.mem_append_right _ (List.mem_append_right _ (List.mem_append_right _ (List.mem_append_right _ (List.mem_append_right _ (List.mem_append_right _ (List.mem_append_right _ (List.mem_append_right _ (List.mem_append_right _ (List.mem_append_right _ (List.mem_append_right _ (List.mem_append_right _ (List.mem_append_right _ (List.mem_append_right _ (List.mem_append_right _ (List.mem_append_right _ (List.mem_append_right _ (List.mem_append_right _ (List.mem_append_right _ (List.mem_append_right _ (List.mem_append_right _ (List.mem_append_right _ (List.mem_append_right _ (List.mem_append_right _ (List.mem_append_right _ (List.mem_append_right _ (List.mem_append_right _ (List.mem_append_right _ (List.mem_append_right _ (List.mem_append_right _ (List.mem_append_right _ (List.mem_append_right _ (List.mem_append_right _ (List.mem_append_right _ (List.mem_append_right _ (List.mem_append_right _ (List.mem_append_left _ q))))))))))))))))))))))))))))))))))))))))))))))
theorem inR47 {w : Cond} (q : w ∈ wsL_law_r47) : w ∈ wsL_law := inR0 (List.mem_append_right _ (List.mem_append_right _ (List.mem_append_right _ (List.mem_append_right _ (List.mem_append_right _ (List.mem_append_right _ (List.mem_append_right _ (List.mem_append_right _ (List.mem_append_right _ (List.mem_append_right _ (List.mem_append_right _ (List.mem_append_right _ (List.mem_append_right _ (List.mem_append_right _ (List.mem_append_right _ (List.mem_append_right _ (List.mem_append_right _ (List.mem_append_right _ (List.mem_append_right _ (List.mem_append_right _ (List.mem_append_right _ (List.mem_append_right _ (List.mem_append_right _ (List.mem_append_right _ (List.mem_append_right _ (List.mem_append_right _ (List.mem_append_right _ (List.mem_append_right _ (List.mem_append_right _ (List.mem_append_right _ (List.mem_append_right _ (List.mem_append_right _ (List.mem_append_right _ (List.mem_append_right _ (List.mem_append_right _ (List.mem_append_right _ (List.mem_append_right _ (List.mem_append_right _ (List.mem_append_right _ (List.mem_append_right _ (List.mem_append_right _ (List.mem_append_right _ (List.mem_append_right _ (List.mem_append_right _ (List.mem_append_right _ (List.mem_append_right _ (q)))))))))))))))))))))))))))))))))))))))))))))))
theorem u_0 : Cond.fieldLink RX5 18 "PaintedGods$Whole" "length" "I" ∈ wsL_law := inR6 (List.mem_of_getElem? (i := 8) rfl)
theorem u_1 : Cond.fieldLink RX5 11 "PaintedGods$Whole" "limbs" "[I" ∈ wsL_law := inR5 (List.mem_of_getElem? (i := 17) rfl)
theorem u_2 : Cond.methodLink RX5 37 yX5_measure ∈ wsL_law := inR6 (List.mem_of_getElem? (i := 4) rfl)
theorem u_3 : Cond.constantLong RX5 40 (1073741823) ∈ wsL_law := inR6 (List.mem_of_getElem? (i := 3) rfl)
theorem u_4 : Cond.methodLink RX5 26 yX5_addTimes ∈ wsL_law := inR5 (List.mem_of_getElem? (i := 23) rfl)
theorem u_5 : Cond.constant RJ6 265 (1431655765) ∈ wsL_law := inR30 (List.mem_of_getElem? (i := 18) rfl)
theorem u_6 : Cond.constant RJ6 266 (858993459) ∈ wsL_law := inR30 (List.mem_of_getElem? (i := 19) rfl)
theorem u_7 : Cond.constant RJ6 267 (252645135) ∈ wsL_law := inR30 (List.mem_of_getElem? (i := 20) rfl)
theorem u_8 : Cond.methodLink RX5 42 yJ6_bitCount_0f7a4 ∈ wsL_law := inR30 (List.mem_of_getElem? (i := 14) rfl)
theorem u_9 : Cond.methodLink RX5 30 arraycopyName ∈ wsL_law := inR31 (List.mem_of_getElem? (i := 9) rfl)
theorem u_10 : Cond.native arraycopyName ∈ wsL_law := inR3 (List.mem_of_getElem? (i := 20) rfl)
theorem u_11 : Cond.static arraycopyName ∈ wsL_law := inR3 (List.mem_of_getElem? (i := 21) rfl)
theorem u_12 : Cond.initialized "java/lang/System" ∈ wsL_law := inR3 (List.mem_of_getElem? (i := 22) rfl)
theorem u_13 : Cond.constant RX5 36 (1073741823) ∈ wsL_law := inR31 (List.mem_of_getElem? (i := 18) rfl)
theorem u_14 : Cond.fieldLink RX0 19 "PaintedGods$Fraction" "greater" "LPaintedGods$Whole;" ∈ wsL_law := inR5 (List.mem_of_getElem? (i := 12) rfl)
theorem u_15 : Cond.fieldLink RX0 10 "PaintedGods$Fraction" "over" "LPaintedGods$Whole;" ∈ wsL_law := inR5 (List.mem_of_getElem? (i := 10) rfl)
theorem u_16 : Cond.fieldLink RX0 22 "PaintedGods$Fraction" "smaller" "LPaintedGods$Whole;" ∈ wsL_law := inR5 (List.mem_of_getElem? (i := 13) rfl)
theorem u_17 : Cond.fieldLink RX0 16 "PaintedGods$Fraction" "under" "LPaintedGods$Whole;" ∈ wsL_law := inR5 (List.mem_of_getElem? (i := 11) rfl)
theorem u_18 : Cond.methodLink RX0 50 yX5_shiftDown ∈ wsL_law := inR30 (List.mem_of_getElem? (i := 21) rfl)
theorem u_19 : Cond.methodLink RX0 40 yX5_twos ∈ wsL_law := inR30 (List.mem_of_getElem? (i := 10) rfl)
theorem u_20 : Cond.methodLink RX0 64 yX5_subtract ∈ wsL_law := inR31 (List.mem_of_getElem? (i := 14) rfl)
theorem u_21 : Cond.methodLink RX0 60 yX5_compareWith ∈ wsL_law := inR31 (List.mem_of_getElem? (i := 10) rfl)
theorem u_22 : Cond.methodLink RX0 32 yX5_become ∈ wsL_law := inR31 (List.mem_of_getElem? (i := 5) rfl)
theorem u_23 : Cond.fieldLink RX5 15 "PaintedGods$Whole" "result" "[I" ∈ wsL_law := inR5 (List.mem_of_getElem? (i := 18) rfl)
theorem u_24 : Cond.methodLink RX0 44 Lib.Math.min.name ∈ wsL_law := inR30 (List.mem_of_getElem? (i := 5) rfl)
theorem u_25 : Cond.static Lib.Math.min.name ∈ wsL_law := inR22 (List.mem_of_getElem? (i := 13) rfl)
theorem u_26 : Cond.initialized "java/lang/Math" ∈ wsL_law := inR22 (List.mem_of_getElem? (i := 10) rfl)
theorem u_27 : Cond.code Lib.Math.min.name Lib.Math.min.code 2 (some .int) ∈ wsL_law := inR22 (List.mem_of_getElem? (i := 14) rfl)
theorem u_28 : Cond.methodLink RX0 57 yX5_divideExactly ∈ wsL_law := inR31 (List.mem_of_getElem? (i := 19) rfl)
theorem u_29 : Cond.methodLink RX0 54 yX0_findCommon ∈ wsL_law := inR31 (List.mem_of_getElem? (i := 1) rfl)
theorem u_30 : Cond.methodLink RX0 25 yX5_set ∈ wsL_law := inR5 (List.mem_of_getElem? (i := 19) rfl)
theorem u_31 : Cond.methodLink RX0 36 yX5_isZero ∈ wsL_law := inR30 (List.mem_of_getElem? (i := 6) rfl)
theorem u_32 : Cond.methodLink RX0 29 yX0_reduce ∈ wsL_law := inR30 (List.mem_of_getElem? (i := 1) rfl)
theorem u_33 : Cond.fieldLink RX2 48 "PaintedGods$Statue" "stuffs" "I" ∈ wsL_law := inR3 (List.mem_of_getElem? (i := 16) rfl)
theorem u_34 : Cond.fieldLink RX4 19 "PaintedGods$Weather" "grains" "[[I" ∈ wsL_law := inR4 (List.mem_of_getElem? (i := 11) rfl)
theorem u_35 : Cond.fieldLink RX4 16 "PaintedGods$Weather" "lamps" "[[I" ∈ wsL_law := inR4 (List.mem_of_getElem? (i := 10) rfl)
theorem u_36 : Cond.fieldLink RX4 11 "PaintedGods$Weather" "lost" "[[I" ∈ wsL_law := inR4 (List.mem_of_getElem? (i := 9) rfl)
theorem u_37 : Cond.fieldLink RX1 83 "PaintedGods$Statue" "cells" "[I" ∈ wsL_law := inR26 (List.mem_of_getElem? (i := 16) rfl)
theorem u_38 : Cond.fieldLink RX1 94 "PaintedGods$Statue" "kinds" "[I" ∈ wsL_law := inR26 (List.mem_of_getElem? (i := 22) rfl)
theorem u_39 : Cond.fieldLink RX1 74 "PaintedGods$Hem" "ownTraces" "I" ∈ wsL_law := inR26 (List.mem_of_getElem? (i := 13) rfl)
theorem u_40 : Cond.fieldLink RX1 97 "PaintedGods$Statue" "values" "[I" ∈ wsL_law := inR26 (List.mem_of_getElem? (i := 23) rfl)
theorem u_41 : Cond.fieldLink RX1 17 "PaintedGods$Hem" "broken" "[[I" ∈ wsL_law := inR4 (List.mem_of_getElem? (i := 17) rfl)
theorem u_42 : Cond.methodLink RX1 100 yX4_isSo ∈ wsL_law := inR27 (List.mem_of_getElem? (i := 0) rfl)
theorem u_43 : Cond.fieldLink RX1 23 "PaintedGods$Hem" "edgePlaces" "[I" ∈ wsL_law := inR4 (List.mem_of_getElem? (i := 19) rfl)
theorem u_44 : Cond.fieldLink RX1 26 "PaintedGods$Hem" "edgeSteps" "[I" ∈ wsL_law := inR4 (List.mem_of_getElem? (i := 20) rfl)
theorem u_45 : Cond.fieldLink RX1 29 "PaintedGods$Hem" "steps" "[I" ∈ wsL_law := inR4 (List.mem_of_getElem? (i := 21) rfl)
theorem u_46 : Cond.methodLink RX1 109 Lib.Math.max.name ∈ wsL_law := inR27 (List.mem_of_getElem? (i := 8) rfl)
theorem u_47 : Cond.static Lib.Math.max.name ∈ wsL_law := inR22 (List.mem_of_getElem? (i := 9) rfl)
theorem u_48 : Cond.code Lib.Math.max.name Lib.Math.max.code 2 (some .int) ∈ wsL_law := inR22 (List.mem_of_getElem? (i := 11) rfl)
theorem u_49 : Cond.fieldLink RX1 50 "PaintedGods$Statue" "settings" "[I" ∈ wsL_law := inR26 (List.mem_of_getElem? (i := 8) rfl)
theorem u_50 : Cond.fieldLink RX1 55 "PaintedGods$Hem" "like" "I" ∈ wsL_law := inR26 (List.mem_of_getElem? (i := 9) rfl)
theorem u_51 : Cond.methodLink RX1 90 yX1_findSteps ∈ wsL_law := inR27 (List.mem_of_getElem? (i := 4) rfl)
theorem u_52 : Cond.fieldLink RX1 77 "PaintedGods$Statue" "traces" "I" ∈ wsL_law := inR26 (List.mem_of_getElem? (i := 14) rfl)
theorem u_53 : Cond.fieldLink RX1 80 "PaintedGods$Statue" "asides" "[I" ∈ wsL_law := inR26 (List.mem_of_getElem? (i := 15) rfl)
theorem u_54 : Cond.methodLink RX1 86 yX1_lookAtTrace ∈ wsL_law := inR26 (List.mem_of_getElem? (i := 18) rfl)
theorem u_55 : Cond.fieldLink RX1 20 "PaintedGods$Hem" "lost" "[[I" ∈ wsL_law := inR4 (List.mem_of_getElem? (i := 18) rfl)
theorem u_56 : Cond.fieldLink RX1 66 "PaintedGods$Weather" "lost" "[[I" ∈ wsL_law := inR26 (List.mem_of_getElem? (i := 11) rfl)
theorem u_57 : Cond.fieldLink RX1 9 "PaintedGods$Hem" "weights" "[I" ∈ wsL_law := inR4 (List.mem_of_getElem? (i := 15) rfl)
theorem u_58 : Cond.constant RX1 73 (1048576) ∈ wsL_law := inR26 (List.mem_of_getElem? (i := 12) rfl)
theorem u_59 : Cond.fieldLink RX1 63 "PaintedGods$Statue" "habits" "[I" ∈ wsL_law := inR26 (List.mem_of_getElem? (i := 10) rfl)
theorem u_60 : Cond.methodLink RX1 59 yX2_isStack ∈ wsL_law := inR26 (List.mem_of_getElem? (i := 17) rfl)
theorem u_61 : Cond.constant RX1 104 (-1048577) ∈ wsL_law := inR27 (List.mem_of_getElem? (i := 13) rfl)
theorem u_62 : Cond.methodLink RX1 115 yX1_canBe ∈ wsL_law := inR38 (List.mem_of_getElem? (i := 23) rfl)
theorem u_63 : Cond.methodLink RX1 118 yX1_laterOf ∈ wsL_law := inR39 (List.mem_of_getElem? (i := 0) rfl)
theorem u_64 : Cond.fieldLink RX1 135 "PaintedGods$Hem" "partsTogether" "J" ∈ wsL_law := inR28 (List.mem_of_getElem? (i := 23) rfl)
theorem u_65 : Cond.fieldLink RX1 43 "PaintedGods$Hem" "parts" "[J" ∈ wsL_law := inR5 (List.mem_of_getElem? (i := 3) rfl)
theorem u_66 : Cond.methodLink RX1 142 yX1_joint ∈ wsL_law := inR29 (List.mem_of_getElem? (i := 9) rfl)
theorem u_67 : Cond.fieldLink RX1 34 "PaintedGods$Hem" "ahead" "[[J" ∈ wsL_law := inR5 (List.mem_of_getElem? (i := 0) rfl)
theorem u_68 : Cond.fieldLink RX1 139 "PaintedGods$Hem" "all" "J" ∈ wsL_law := inR29 (List.mem_of_getElem? (i := 0) rfl)
theorem u_69 : Cond.methodLink RX1 127 yX1_weighParts ∈ wsL_law := inR29 (List.mem_of_getElem? (i := 1) rfl)
theorem u_70 : Cond.methodLink RX1 131 yX1_partsBeside ∈ wsL_law := inR29 (List.mem_of_getElem? (i := 5) rfl)
theorem u_71 : Cond.fieldLink RX1 37 "PaintedGods$Hem" "behind" "[[J" ∈ wsL_law := inR5 (List.mem_of_getElem? (i := 1) rfl)
theorem u_72 : Cond.methodLink RX1 124 yX1_reckonBehind ∈ wsL_law := inR29 (List.mem_of_getElem? (i := 13) rfl)
theorem u_73 : Cond.methodLink RX1 121 yX1_reckonAhead ∈ wsL_law := inR28 (List.mem_of_getElem? (i := 19) rfl)
theorem u_74 : Cond.fieldLink RX1 40 "PaintedGods$Hem" "most" "[[J" ∈ wsL_law := inR5 (List.mem_of_getElem? (i := 2) rfl)
theorem u_75 : Cond.methodLink RX1 152 yX1_mostNext ∈ wsL_law := inR36 (List.mem_of_getElem? (i := 8) rfl)
theorem u_76 : Cond.methodLink RX1 149 yX1_bestNext ∈ wsL_law := inR36 (List.mem_of_getElem? (i := 4) rfl)
theorem u_77 : Cond.methodLink RX1 146 yX1_reckonMost ∈ wsL_law := inR36 (List.mem_of_getElem? (i := 0) rfl)
theorem u_78 : Cond.fieldLink RX1 174 "PaintedGods$Weather" "lamps" "[[I" ∈ wsL_law := inR40 (List.mem_of_getElem? (i := 8) rfl)
theorem u_79 : Cond.fieldLink RX1 47 "PaintedGods$Hem" "lampWeights" "[J" ∈ wsL_law := inR5 (List.mem_of_getElem? (i := 4) rfl)
theorem u_80 : Cond.methodLink RX1 170 yX1_weightOf ∈ wsL_law := inR40 (List.mem_of_getElem? (i := 9) rfl)
theorem u_81 : Cond.constantLong RX6 300 (-9223372036854775808) ∈ wsL_law := inR40 (List.mem_of_getElem? (i := 12) rfl)
theorem u_82 : Cond.fieldLink RX1 156 "PaintedGods$Hem" "halfAt" "I" ∈ wsL_law := inR40 (List.mem_of_getElem? (i := 2) rfl)
theorem u_83 : Cond.fieldLink RX1 167 "PaintedGods$Hem" "halfOff" "J" ∈ wsL_law := inR40 (List.mem_of_getElem? (i := 3) rfl)
theorem u_84 : Cond.methodLink RX1 159 yX1_weighLamps ∈ wsL_law := inR40 (List.mem_of_getElem? (i := 4) rfl)
theorem u_85 : Cond.fieldLink RX2 52 "PaintedGods$Statue" "traces" "I" ∈ wsL_law := inR3 (List.mem_of_getElem? (i := 17) rfl)
theorem u_86 : Cond.fieldLink RX2 55 "PaintedGods$Statue" "FIRST_SET" "[I" ∈ wsL_law := inR3 (List.mem_of_getElem? (i := 18) rfl)
theorem u_87 : Cond.fieldLink RX2 24 "PaintedGods$Statue" "settings" "[I" ∈ wsL_law := inR3 (List.mem_of_getElem? (i := 5) rfl)
theorem u_88 : Cond.methodLink RX2 58 arraycopyName ∈ wsL_law := inR3 (List.mem_of_getElem? (i := 19) rfl)
theorem u_89 : Cond.fieldLink RX2 42 "PaintedGods$Statue" "copies" "[I" ∈ wsL_law := inR3 (List.mem_of_getElem? (i := 11) rfl)
theorem u_90 : Cond.fieldLink RX2 27 "PaintedGods$Statue" "habits" "[I" ∈ wsL_law := inR3 (List.mem_of_getElem? (i := 6) rfl)
theorem u_91 : Cond.fieldLink RX2 9 "PaintedGods$Statue" "thick" "[I" ∈ wsL_law := inR3 (List.mem_of_getElem? (i := 1) rfl)
theorem u_92 : Cond.fieldLink RX2 15 "PaintedGods$Statue" "brightness" "[I" ∈ wsL_law := inR3 (List.mem_of_getElem? (i := 2) rfl)
theorem u_93 : Cond.fieldLink RX2 18 "PaintedGods$Statue" "lamps" "[I" ∈ wsL_law := inR3 (List.mem_of_getElem? (i := 3) rfl)
theorem u_94 : Cond.fieldLink RX2 21 "PaintedGods$Statue" "least" "[I" ∈ wsL_law := inR3 (List.mem_of_getElem? (i := 4) rfl)
theorem u_95 : Cond.fieldLink RX2 30 "PaintedGods$Statue" "cells" "[I" ∈ wsL_law := inR3 (List.mem_of_getElem? (i := 7) rfl)
theorem u_96 : Cond.fieldLink RX2 33 "PaintedGods$Statue" "kinds" "[I" ∈ wsL_law := inR3 (List.mem_of_getElem? (i := 8) rfl)
theorem u_97 : Cond.fieldLink RX2 36 "PaintedGods$Statue" "values" "[I" ∈ wsL_law := inR3 (List.mem_of_getElem? (i := 9) rfl)
theorem u_98 : Cond.fieldLink RX2 39 "PaintedGods$Statue" "asides" "[I" ∈ wsL_law := inR3 (List.mem_of_getElem? (i := 10) rfl)
theorem u_99 : Cond.fieldLink RX2 68 "PaintedGods$Statue" "LEAST_SET" "[I" ∈ wsL_law := inR9 (List.mem_of_getElem? (i := 13) rfl)
theorem u_100 : Cond.fieldLink RX2 71 "PaintedGods$Statue" "MOST_SET" "[I" ∈ wsL_law := inR9 (List.mem_of_getElem? (i := 14) rfl)
theorem u_101 : Cond.methodLink RX6 121 yX6_within ∈ wsL_law := inR11 (List.mem_of_getElem? (i := 0) rfl)
theorem u_102 : Cond.methodLink RX2 81 yX2_isStuff ∈ wsL_law := inR11 (List.mem_of_getElem? (i := 5) rfl)
theorem u_103 : Cond.methodLink RX2 78 yX2_canTell ∈ wsL_law := inR11 (List.mem_of_getElem? (i := 1) rfl)
theorem u_104 : Cond.methodLink RX2 94 Lib.Math.max.name ∈ wsL_law := inR22 (List.mem_of_getElem? (i := 8) rfl)
theorem u_105 : Cond.methodLink RX2 91 yX2_thickOf ∈ wsL_law := inR22 (List.mem_of_getElem? (i := 15) rfl)
theorem u_106 : Cond.methodLink RX2 100 Lib.Math.min.name ∈ wsL_law := inR22 (List.mem_of_getElem? (i := 12) rfl)
theorem u_107 : Cond.methodLink RX2 106 yX2_lampsOfCoat ∈ wsL_law := inR24 (List.mem_of_getElem? (i := 19) rfl)
theorem u_108 : Cond.methodLink RX2 109 yX2_upperLeft ∈ wsL_law := inR24 (List.mem_of_getElem? (i := 23) rfl)
theorem u_109 : Cond.methodLink RX2 103 yX2_groundLeft ∈ wsL_law := inR24 (List.mem_of_getElem? (i := 18) rfl)
theorem u_110 : Cond.methodLink RX6 297 yX6_groundOf ∈ wsL_law := inR41 (List.mem_of_getElem? (i := 13) rfl)
theorem u_111 : Cond.methodLink RX6 166 yX6_upperOf ∈ wsL_law := inR35 (List.mem_of_getElem? (i := 4) rfl)
theorem u_112 : Cond.constantLong RX2 115 (31) ∈ wsL_law := inR46 (List.mem_of_getElem? (i := 10) rfl)
theorem u_113 : Cond.fieldLink RX3 23 "PaintedGods$Text" "length" "I" ∈ wsL_law := inR13 (List.mem_of_getElem? (i := 18) rfl)
theorem u_114 : Cond.fieldLink RX3 9 "PaintedGods$Text" "bytes" "[B" ∈ wsL_law := inR4 (List.mem_of_getElem? (i := 3) rfl)
theorem u_115 : Cond.methodLink RX3 102 yJ0_length_8abf5 ∈ wsL_law := inR15 (List.mem_of_getElem? (i := 22) rfl)
theorem u_116 : Cond.methodLink RX3 107 yJ0_charAt_5068e ∈ wsL_law := inR16 (List.mem_of_getElem? (i := 10) rfl)
theorem u_117 : Cond.fieldLink RX3 32 "PaintedGods$Text" "at" "I" ∈ wsL_law := inR14 (List.mem_of_getElem? (i := 22) rfl)
theorem u_118 : Cond.methodLink RX3 80 yX3_byteAt ∈ wsL_law := inR15 (List.mem_of_getElem? (i := 7) rfl)
theorem u_119 : Cond.fieldLink RX3 48 "PaintedGods$Text" "tokenStart" "I" ∈ wsL_law := inR15 (List.mem_of_getElem? (i := 1) rfl)
theorem u_120 : Cond.fieldLink RX3 41 "PaintedGods$Text" "tokenValue" "I" ∈ wsL_law := inR15 (List.mem_of_getElem? (i := 0) rfl)
theorem u_121 : Cond.fieldLink RX3 38 "PaintedGods$Text" "token" "I" ∈ wsL_law := inR14 (List.mem_of_getElem? (i := 23) rfl)
theorem u_122 : Cond.methodLink RX3 97 yX3_wordFrom ∈ wsL_law := inR15 (List.mem_of_getElem? (i := 18) rfl)
theorem u_123 : Cond.methodLink RX3 84 yX3_isLetter ∈ wsL_law := inR15 (List.mem_of_getElem? (i := 11) rfl)
theorem u_124 : Cond.methodLink RX3 91 yX3_isFigure ∈ wsL_law := inR17 (List.mem_of_getElem? (i := 23) rfl)
theorem u_125 : Cond.methodLink RX3 94 yX3_readNumber ∈ wsL_law := inR18 (List.mem_of_getElem? (i := 2) rfl)
theorem u_126 : Cond.methodLink RX3 88 yX3_readWord ∈ wsL_law := inR15 (List.mem_of_getElem? (i := 14) rfl)
theorem u_127 : Cond.fieldLink RX3 55 "PaintedGods$Text" "NUMBERS_BEHIND" "[I" ∈ wsL_law := inR18 (List.mem_of_getElem? (i := 10) rfl)
theorem u_128 : Cond.methodLink RX3 35 yX3_readToken ∈ wsL_law := inR15 (List.mem_of_getElem? (i := 3) rfl)
theorem u_129 : Cond.fieldLink RX3 15 "PaintedGods$Text" "numbers" "[I" ∈ wsL_law := inR4 (List.mem_of_getElem? (i := 4) rfl)
theorem u_130 : Cond.methodLink RX3 62 yX2_addStuff ∈ wsL_law := inR18 (List.mem_of_getElem? (i := 19) rfl)
theorem u_131 : Cond.methodLink RX3 66 yX2_set ∈ wsL_law := inR18 (List.mem_of_getElem? (i := 20) rfl)
theorem u_132 : Cond.methodLink RX3 70 yX2_setHabit ∈ wsL_law := inR18 (List.mem_of_getElem? (i := 21) rfl)
theorem u_133 : Cond.methodLink RX3 73 yX2_addTrace ∈ wsL_law := inR18 (List.mem_of_getElem? (i := 22) rfl)
theorem u_134 : Cond.methodLink RX3 77 yX2_paint ∈ wsL_law := inR18 (List.mem_of_getElem? (i := 23) rfl)
theorem u_135 : Cond.methodLink RX3 58 yX3_answerTo ∈ wsL_law := inR18 (List.mem_of_getElem? (i := 15) rfl)
theorem u_136 : Cond.methodLink RX3 51 yX3_tellItem ∈ wsL_law := inR18 (List.mem_of_getElem? (i := 11) rfl)
theorem u_137 : Cond.methodLink RX3 44 yX3_readItem ∈ wsL_law := inR18 (List.mem_of_getElem? (i := 6) rfl)
theorem u_138 : Cond.methodLink RX3 27 yX2_beAtFirst ∈ wsL_law := inR15 (List.mem_of_getElem? (i := 2) rfl)
theorem u_139 : Cond.methodLink RX4 39 yX2_grainsOf ∈ wsL_law := inR26 (List.mem_of_getElem? (i := 0) rfl)
theorem u_140 : Cond.methodLink RX4 36 yX2_lampsOf ∈ wsL_law := inR25 (List.mem_of_getElem? (i := 23) rfl)
theorem u_141 : Cond.methodLink RX4 32 yX2_stoneLost ∈ wsL_law := inR25 (List.mem_of_getElem? (i := 22) rfl)
theorem u_142 : Cond.methodLink RX4 28 yX2_isStack ∈ wsL_law := inR25 (List.mem_of_getElem? (i := 21) rfl)
theorem u_143 : Cond.methodLink RX4 22 yX2_wearOf ∈ wsL_law := inR25 (List.mem_of_getElem? (i := 20) rfl)
theorem u_144 : Cond.constantLong RX5 48 (31) ∈ wsL_law := inR46 (List.mem_of_getElem? (i := 15) rfl)
theorem u_145 : Cond.fieldLink RX6 68 "PaintedGods" "refusals" "[I" ∈ wsL_law := inR2 (List.mem_of_getElem? (i := 20) rfl)
theorem u_146 : Cond.fieldLink RX6 10 "PaintedGods" "now" "LPaintedGods$Statue;" ∈ wsL_law := inR1 (List.mem_of_getElem? (i := 16) rfl)
theorem u_147 : Cond.methodLink RX6 76 yX6_told ∈ wsL_law := inR8 (List.mem_of_getElem? (i := 2) rfl)
theorem u_148 : Cond.methodLink RX6 72 yX2_addStuff ∈ wsL_law := inR7 (List.mem_of_getElem? (i := 20) rfl)
theorem u_149 : Cond.methodLink RX6 80 yX2_set ∈ wsL_law := inR9 (List.mem_of_getElem? (i := 9) rfl)
theorem u_150 : Cond.methodLink RX6 84 yX2_setHabit ∈ wsL_law := inR10 (List.mem_of_getElem? (i := 5) rfl)
theorem u_151 : Cond.methodLink RX6 87 yX2_addTrace ∈ wsL_law := inR10 (List.mem_of_getElem? (i := 18) rfl)
theorem u_152 : Cond.methodLink RX6 91 yX2_setAside ∈ wsL_law := inR12 (List.mem_of_getElem? (i := 6) rfl)
theorem u_153 : Cond.methodLink RX6 95 yX2_paint ∈ wsL_law := inR13 (List.mem_of_getElem? (i := 2) rfl)
theorem u_154 : Cond.fieldLink RX6 30 "PaintedGods" "text" "LPaintedGods$Text;" ∈ wsL_law := inR2 (List.mem_of_getElem? (i := 0) rfl)
theorem u_155 : Cond.methodLink RX6 98 yX3_write ∈ wsL_law := inR13 (List.mem_of_getElem? (i := 14) rfl)
theorem u_156 : Cond.methodLink RX6 102 yX3_wipe ∈ wsL_law := inR14 (List.mem_of_getElem? (i := 6) rfl)
theorem u_157 : Cond.fieldLink RX6 16 "PaintedGods" "spare" "LPaintedGods$Statue;" ∈ wsL_law := inR1 (List.mem_of_getElem? (i := 17) rfl)
theorem u_158 : Cond.methodLink RX6 110 yX2_become ∈ wsL_law := inR19 (List.mem_of_getElem? (i := 0) rfl)
theorem u_159 : Cond.methodLink RX6 106 yX3_tell ∈ wsL_law := inR14 (List.mem_of_getElem? (i := 18) rfl)
theorem u_160 : Cond.methodLink RX6 137 yX2_stoneLost ∈ wsL_law := inR22 (List.mem_of_getElem? (i := 23) rfl)
theorem u_161 : Cond.methodLink RX6 134 yX2_upperLeft ∈ wsL_law := inR22 (List.mem_of_getElem? (i := 19) rfl)
theorem u_162 : Cond.methodLink RX6 131 yX2_groundLeft ∈ wsL_law := inR22 (List.mem_of_getElem? (i := 4) rfl)
theorem u_163 : Cond.methodLink RX6 128 yX2_wearOf ∈ wsL_law := inR22 (List.mem_of_getElem? (i := 0) rfl)
theorem u_164 : Cond.methodLink RX6 125 yX6_sideOf ∈ wsL_law := inR21 (List.mem_of_getElem? (i := 21) rfl)
theorem u_165 : Cond.methodLink RX6 118 yX2_isStack ∈ wsL_law := inR21 (List.mem_of_getElem? (i := 13) rfl)
theorem u_166 : Cond.methodLink RX6 114 yX6_isCell ∈ wsL_law := inR21 (List.mem_of_getElem? (i := 12) rfl)
theorem u_167 : Cond.methodLink RX6 140 yX2_lampsOf ∈ wsL_law := inR24 (List.mem_of_getElem? (i := 14) rfl)
theorem u_168 : Cond.fieldLink RX6 37 "PaintedGods" "weather" "LPaintedGods$Weather;" ∈ wsL_law := inR2 (List.mem_of_getElem? (i := 4) rfl)
theorem u_169 : Cond.fieldLink RX6 44 "PaintedGods" "rows" "LPaintedGods$Hem;" ∈ wsL_law := inR2 (List.mem_of_getElem? (i := 8) rfl)
theorem u_170 : Cond.methodLink RX6 268 yX1_look ∈ wsL_law := inR26 (List.mem_of_getElem? (i := 4) rfl)
theorem u_171 : Cond.methodLink RX6 265 yX4_take ∈ wsL_law := inR25 (List.mem_of_getElem? (i := 16) rfl)
theorem u_172 : Cond.methodLink RX6 147 yX1_isFree ∈ wsL_law := inR27 (List.mem_of_getElem? (i := 9) rfl)
theorem u_173 : Cond.methodLink RX6 143 yX6_lookAt ∈ wsL_law := inR25 (List.mem_of_getElem? (i := 12) rfl)
theorem u_174 : Cond.fieldLink RX6 158 "PaintedGods$Hem" "all" "J" ∈ wsL_law := inR28 (List.mem_of_getElem? (i := 10) rfl)
theorem u_175 : Cond.methodLink RX6 272 yX1_reckon ∈ wsL_law := inR28 (List.mem_of_getElem? (i := 15) rfl)
theorem u_176 : Cond.fieldLink RX6 51 "PaintedGods" "fraction" "LPaintedGods$Fraction;" ∈ wsL_law := inR2 (List.mem_of_getElem? (i := 12) rfl)
theorem u_177 : Cond.methodLink RX6 162 yX0_setTo ∈ wsL_law := inR29 (List.mem_of_getElem? (i := 21) rfl)
theorem u_178 : Cond.methodLink RX6 154 yX1_weightOf ∈ wsL_law := inR29 (List.mem_of_getElem? (i := 17) rfl)
theorem u_179 : Cond.methodLink RX6 151 yX6_reckonAround ∈ wsL_law := inR28 (List.mem_of_getElem? (i := 11) rfl)
theorem u_180 : Cond.methodLink RX6 175 yX1_likeliestAt ∈ wsL_law := inR35 (List.mem_of_getElem? (i := 20) rfl)
theorem u_181 : Cond.methodLink RX6 172 yX1_canBe ∈ wsL_law := inR35 (List.mem_of_getElem? (i := 16) rfl)
theorem u_182 : Cond.methodLink RX6 169 yX6_isHem ∈ wsL_law := inR35 (List.mem_of_getElem? (i := 13) rfl)
theorem u_183 : Cond.fieldLink RX6 58 "PaintedGods" "product" "LPaintedGods$Whole;" ∈ wsL_law := inR2 (List.mem_of_getElem? (i := 16) rfl)
theorem u_184 : Cond.methodLink RX6 278 yX5_multiply ∈ wsL_law := inR37 (List.mem_of_getElem? (i := 4) rfl)
theorem u_185 : Cond.methodLink RX6 275 yX1_reckonAhead ∈ wsL_law := inR37 (List.mem_of_getElem? (i := 3) rfl)
theorem u_186 : Cond.methodLink RX6 190 yX5_isZero ∈ wsL_law := inR37 (List.mem_of_getElem? (i := 2) rfl)
theorem u_187 : Cond.methodLink RX6 178 yX5_set ∈ wsL_law := inR36 (List.mem_of_getElem? (i := 21) rfl)
theorem u_188 : Cond.fieldLink RX6 65 "PaintedGods" "sum" "LPaintedGods$Whole;" ∈ wsL_law := inR2 (List.mem_of_getElem? (i := 18) rfl)
theorem u_189 : Cond.fieldLink RX6 62 "PaintedGods" "chosen" "LPaintedGods$Whole;" ∈ wsL_law := inR2 (List.mem_of_getElem? (i := 17) rfl)
theorem u_190 : Cond.methodLink RX6 194 yX0_setTo_ ∈ wsL_law := inR37 (List.mem_of_getElem? (i := 13) rfl)
theorem u_191 : Cond.methodLink RX6 188 yX5_become ∈ wsL_law := inR37 (List.mem_of_getElem? (i := 12) rfl)
theorem u_192 : Cond.methodLink RX6 184 yX5_add ∈ wsL_law := inR37 (List.mem_of_getElem? (i := 8) rfl)
theorem u_193 : Cond.methodLink RX6 181 yX6_multiplyHems ∈ wsL_law := inR36 (List.mem_of_getElem? (i := 22) rfl)
theorem u_194 : Cond.fieldLink RX6 200 "PaintedGods$Statue" "thick" "[I" ∈ wsL_law := inR38 (List.mem_of_getElem? (i := 1) rfl)
theorem u_195 : Cond.methodLink RX6 203 yX6_allHemsCanBe ∈ wsL_law := inR38 (List.mem_of_getElem? (i := 3) rfl)
theorem u_196 : Cond.methodLink RX6 197 yX2_isStuff ∈ wsL_law := inR38 (List.mem_of_getElem? (i := 2) rfl)
theorem u_197 : Cond.methodLink RX6 207 yX1_fewestLater ∈ wsL_law := inR38 (List.mem_of_getElem? (i := 19) rfl)
theorem u_198 : Cond.constantLong RX6 306 (4294967295) ∈ wsL_law := inR40 (List.mem_of_getElem? (i := 19) rfl)
theorem u_199 : Cond.methodLink RX6 287 yX6_isLess ∈ wsL_law := inR40 (List.mem_of_getElem? (i := 20) rfl)
theorem u_200 : Cond.methodLink RX6 302 yX6_highBits ∈ wsL_law := inR40 (List.mem_of_getElem? (i := 16) rfl)
theorem u_201 : Cond.fieldLink RX6 221 "PaintedGods$Hem" "halfAt" "I" ∈ wsL_law := inR39 (List.mem_of_getElem? (i := 21) rfl)
theorem u_202 : Cond.fieldLink RX6 214 "PaintedGods$Hem" "halfOff" "J" ∈ wsL_law := inR39 (List.mem_of_getElem? (i := 20) rfl)
theorem u_203 : Cond.methodLink RX6 217 yX6_isLess_ ∈ wsL_law := inR40 (List.mem_of_getElem? (i := 13) rfl)
theorem u_204 : Cond.methodLink RX6 210 yX1_seekHalf ∈ wsL_law := inR39 (List.mem_of_getElem? (i := 22) rfl)
theorem u_205 : Cond.fieldLink RX6 284 "PaintedGods$Statue" "copies" "[I" ∈ wsL_law := inR41 (List.mem_of_getElem? (i := 9) rfl)
theorem u_206 : Cond.methodLink RX6 281 yX6_topOf ∈ wsL_law := inR41 (List.mem_of_getElem? (i := 10) rfl)
theorem u_207 : Cond.methodLink RX6 225 yX6_restsOn ∈ wsL_law := inR41 (List.mem_of_getElem? (i := 5) rfl)
theorem u_208 : Cond.methodLink RX6 293 yX5_addTimes ∈ wsL_law := inR42 (List.mem_of_getElem? (i := 21) rfl)
theorem u_209 : Cond.methodLink RX6 290 yX2_brightOf ∈ wsL_law := inR42 (List.mem_of_getElem? (i := 17) rfl)
theorem u_210 : Cond.methodLink RX6 231 yX6_farthestBright ∈ wsL_law := inR42 (List.mem_of_getElem? (i := 22) rfl)
theorem u_211 : Cond.methodLink RX6 228 yX6_meanBright ∈ wsL_law := inR42 (List.mem_of_getElem? (i := 13) rfl)
theorem u_212 : Cond.fieldLink RX6 240 "PaintedGods$Fraction" "under" "LPaintedGods$Whole;" ∈ wsL_law := inR43 (List.mem_of_getElem? (i := 12) rfl)
theorem u_213 : Cond.fieldLink RX6 237 "PaintedGods$Whole" "length" "I" ∈ wsL_law := inR43 (List.mem_of_getElem? (i := 11) rfl)
theorem u_214 : Cond.fieldLink RX6 234 "PaintedGods$Fraction" "over" "LPaintedGods$Whole;" ∈ wsL_law := inR43 (List.mem_of_getElem? (i := 10) rfl)
theorem u_215 : Cond.methodLink RX6 243 yX5_digit ∈ wsL_law := inR43 (List.mem_of_getElem? (i := 21) rfl)
theorem u_216 : Cond.fieldLink RX6 19 "PaintedGods" "images" "[LPaintedGods$Statue;" ∈ wsL_law := inR1 (List.mem_of_getElem? (i := 18) rfl)
theorem u_217 : Cond.fieldLink RX6 23 "PaintedGods" "kept" "[Z" ∈ wsL_law := inR1 (List.mem_of_getElem? (i := 20) rfl)
theorem u_218 : Cond.fieldLink RX6 246 "PaintedGods$Statue" "stuffs" "I" ∈ wsL_law := inR45 (List.mem_of_getElem? (i := 9) rfl)
theorem u_219 : Cond.fieldLink RX6 249 "PaintedGods$Statue" "traces" "I" ∈ wsL_law := inR45 (List.mem_of_getElem? (i := 10) rfl)
theorem u_220 : Cond.methodLink RX6 252 yX2_countAside ∈ wsL_law := inR45 (List.mem_of_getElem? (i := 12) rfl)
theorem u_221 : Cond.fieldLink RX6 255 "PaintedGods$Text" "length" "I" ∈ wsL_law := inR45 (List.mem_of_getElem? (i := 11) rfl)
theorem u_222 : Cond.constantLong RX6 256 (557) ∈ wsL_law := inR46 (List.mem_of_getElem? (i := 4) rfl)
theorem u_223 : Cond.constantLong RX6 258 (31) ∈ wsL_law := inR46 (List.mem_of_getElem? (i := 5) rfl)
theorem u_224 : Cond.methodLink RX6 264 yX5_mix ∈ wsL_law := inR46 (List.mem_of_getElem? (i := 11) rfl)
theorem u_225 : Cond.methodLink RX6 260 yX2_mix ∈ wsL_law := inR46 (List.mem_of_getElem? (i := 6) rfl)
theorem u_226 : Cond.fieldLink RX7 7 "PaintedGodsModel" "book" "[I" ∈ wsL_law := inR6 (List.mem_of_getElem? (i := 13) rfl)
theorem u_227 : Cond.fieldLink RX7 23 "PaintedGodsModel" "refused" "[I" ∈ wsL_law := inR6 (List.mem_of_getElem? (i := 17) rfl)
theorem u_228 : Cond.fieldLink RX7 60 "PaintedGodsModel" "quiet" "Z" ∈ wsL_law := inR9 (List.mem_of_getElem? (i := 0) rfl)
theorem u_229 : Cond.methodLink RX7 64 yX7_refuses ∈ wsL_law := inR8 (List.mem_of_getElem? (i := 20) rfl)
theorem u_230 : Cond.fieldLink RX7 29 "PaintedGodsModel" "wide" "[I" ∈ wsL_law := inR6 (List.mem_of_getElem? (i := 19) rfl)
theorem u_231 : Cond.fieldLink RX7 26 "PaintedGodsModel" "limbs" "[I" ∈ wsL_law := inR6 (List.mem_of_getElem? (i := 18) rfl)
theorem u_232 : Cond.methodLink RX7 70 yX7_trims ∈ wsL_law := inR7 (List.mem_of_getElem? (i := 12) rfl)
theorem u_233 : Cond.constantLong RX7 68 (1073741823) ∈ wsL_law := inR7 (List.mem_of_getElem? (i := 11) rfl)
theorem u_234 : Cond.methodLink RX7 74 yX7_copies ∈ wsL_law := inR32 (List.mem_of_getElem? (i := 19) rfl)
theorem u_235 : Cond.methodLink RX7 56 yX7_sets ∈ wsL_law := inR7 (List.mem_of_getElem? (i := 7) rfl)
theorem u_236 : Cond.constant RX7 78 (1073741823) ∈ wsL_law := inR33 (List.mem_of_getElem? (i := 7) rfl)
theorem u_237 : Cond.methodLink RX7 92 yX7_parts ∈ wsL_law := inR34 (List.mem_of_getElem? (i := 20) rfl)
theorem u_238 : Cond.methodLink RX7 89 yX7_lessens ∈ wsL_law := inR34 (List.mem_of_getElem? (i := 16) rfl)
theorem u_239 : Cond.methodLink RX7 86 yX7_against ∈ wsL_law := inR33 (List.mem_of_getElem? (i := 12) rfl)
theorem u_240 : Cond.methodLink RX7 83 yX7_halves ∈ wsL_law := inR34 (List.mem_of_getElem? (i := 12) rfl)
theorem u_241 : Cond.methodLink RX7 79 yX7_isEven ∈ wsL_law := inR34 (List.mem_of_getElem? (i := 8) rfl)
theorem u_242 : Cond.methodLink RX7 98 yX7_bad ∈ wsL_law := inR8 (List.mem_of_getElem? (i := 16) rfl)
theorem u_243 : Cond.methodLink RX7 102 yX7_in ∈ wsL_law := inR8 (List.mem_of_getElem? (i := 13) rfl)
theorem u_244 : Cond.constantLong RX7 106 (47) ∈ wsL_law := inR11 (List.mem_of_getElem? (i := 16) rfl)
theorem u_245 : Cond.constantLong RX7 108 (60) ∈ wsL_law := inR8 (List.mem_of_getElem? (i := 10) rfl)
theorem u_246 : Cond.constantLong RX7 110 (9) ∈ wsL_law := inR8 (List.mem_of_getElem? (i := 11) rfl)
theorem u_247 : Cond.constantLong RX7 112 (15) ∈ wsL_law := inR8 (List.mem_of_getElem? (i := 12) rfl)
theorem u_248 : Cond.methodLink RX7 114 yX7_full ∈ wsL_law := inR9 (List.mem_of_getElem? (i := 1) rfl)
theorem u_249 : Cond.constantLong RX7 117 (3) ∈ wsL_law := inR9 (List.mem_of_getElem? (i := 19) rfl)
theorem u_250 : Cond.methodLink RX7 121 yX7_puts ∈ wsL_law := inR9 (List.mem_of_getElem? (i := 21) rfl)
theorem u_251 : Cond.constantLong RX7 119 (5) ∈ wsL_law := inR9 (List.mem_of_getElem? (i := 20) rfl)
theorem u_252 : Cond.constantLong RX7 124 (20) ∈ wsL_law := inR10 (List.mem_of_getElem? (i := 13) rfl)
theorem u_253 : Cond.methodLink RX7 126 yX7_isStuff ∈ wsL_law := inR11 (List.mem_of_getElem? (i := 22) rfl)
theorem u_254 : Cond.constantLong RX7 129 (400) ∈ wsL_law := inR11 (List.mem_of_getElem? (i := 21) rfl)
theorem u_255 : Cond.methodLink RX7 134 yX7_isTrace ∈ wsL_law := inR11 (List.mem_of_getElem? (i := 17) rfl)
theorem u_256 : Cond.methodLink RX7 131 yX7_isCell ∈ wsL_law := inR11 (List.mem_of_getElem? (i := 13) rfl)
theorem u_257 : Cond.methodLink RX7 141 yX7_no ∈ wsL_law := inR12 (List.mem_of_getElem? (i := 18) rfl)
theorem u_258 : Cond.methodLink RX7 138 yX7_ofTrace ∈ wsL_law := inR12 (List.mem_of_getElem? (i := 14) rfl)
theorem u_259 : Cond.constantLong RX7 144 (8) ∈ wsL_law := inR13 (List.mem_of_getElem? (i := 23) rfl)
theorem u_260 : Cond.fieldLink RX7 146 "PaintedGodsModel" "typed" "I" ∈ wsL_law := inR14 (List.mem_of_getElem? (i := 0) rfl)
theorem u_261 : Cond.fieldLink RX7 32 "PaintedGodsModel" "text" "[I" ∈ wsL_law := inR6 (List.mem_of_getElem? (i := 20) rfl)
theorem u_262 : Cond.constantLong RX7 150 (255) ∈ wsL_law := inR14 (List.mem_of_getElem? (i := 1) rfl)
theorem u_263 : Cond.fieldLink RX7 152 "PaintedGodsModel" "at" "I" ∈ wsL_law := inR19 (List.mem_of_getElem? (i := 14) rfl)
theorem u_264 : Cond.constantLong RX7 155 (7931182) ∈ wsL_law := inR20 (List.mem_of_getElem? (i := 6) rfl)
theorem u_265 : Cond.constantLong RX7 157 (646232243) ∈ wsL_law := inR20 (List.mem_of_getElem? (i := 7) rfl)
theorem u_266 : Cond.constantLong RX7 159 (132683) ∈ wsL_law := inR20 (List.mem_of_getElem? (i := 8) rfl)
theorem u_267 : Cond.constantLong RX7 161 (658552979) ∈ wsL_law := inR20 (List.mem_of_getElem? (i := 9) rfl)
theorem u_268 : Cond.constantLong RX7 163 (769614) ∈ wsL_law := inR20 (List.mem_of_getElem? (i := 10) rfl)
theorem u_269 : Cond.constantLong RX7 165 (168165) ∈ wsL_law := inR20 (List.mem_of_getElem? (i := 11) rfl)
theorem u_270 : Cond.constantLong RX7 167 (3764) ∈ wsL_law := inR20 (List.mem_of_getElem? (i := 12) rfl)
theorem u_271 : Cond.constantLong RX7 169 (20600006) ∈ wsL_law := inR20 (List.mem_of_getElem? (i := 13) rfl)
theorem u_272 : Cond.constantLong RX7 171 (591150) ∈ wsL_law := inR20 (List.mem_of_getElem? (i := 14) rfl)
theorem u_273 : Cond.constantLong RX7 173 (26379859) ∈ wsL_law := inR20 (List.mem_of_getElem? (i := 15) rfl)
theorem u_274 : Cond.constantLong RX7 175 (677454) ∈ wsL_law := inR20 (List.mem_of_getElem? (i := 16) rfl)
theorem u_275 : Cond.constantLong RX7 177 (402789) ∈ wsL_law := inR20 (List.mem_of_getElem? (i := 17) rfl)
theorem u_276 : Cond.constantLong RX7 179 (8423732) ∈ wsL_law := inR20 (List.mem_of_getElem? (i := 18) rfl)
theorem u_277 : Cond.constantLong RX7 181 (114201) ∈ wsL_law := inR20 (List.mem_of_getElem? (i := 19) rfl)
theorem u_278 : Cond.fieldLink RX7 187 "PaintedGodsModel" "start" "I" ∈ wsL_law := inR19 (List.mem_of_getElem? (i := 8) rfl)
theorem u_279 : Cond.fieldLink RX7 190 "PaintedGodsModel" "token" "I" ∈ wsL_law := inR19 (List.mem_of_getElem? (i := 15) rfl)
theorem u_280 : Cond.methodLink RX7 183 yX7_isAt ∈ wsL_law := inR19 (List.mem_of_getElem? (i := 23) rfl)
theorem u_281 : Cond.fieldLink RX7 201 "PaintedGodsModel" "value" "I" ∈ wsL_law := inR19 (List.mem_of_getElem? (i := 16) rfl)
theorem u_282 : Cond.methodLink RX7 197 yX7_wordOf ∈ wsL_law := inR20 (List.mem_of_getElem? (i := 3) rfl)
theorem u_283 : Cond.constantLong RX7 193 (32) ∈ wsL_law := inR19 (List.mem_of_getElem? (i := 21) rfl)
theorem u_284 : Cond.constantLong RX7 195 (97) ∈ wsL_law := inR19 (List.mem_of_getElem? (i := 22) rfl)
theorem u_285 : Cond.fieldLink RX7 204 "PaintedGodsModel" "items" "I" ∈ wsL_law := inR19 (List.mem_of_getElem? (i := 9) rfl)
theorem u_286 : Cond.fieldLink RX7 35 "PaintedGodsModel" "verbs" "[I" ∈ wsL_law := inR6 (List.mem_of_getElem? (i := 21) rfl)
theorem u_287 : Cond.methodLink RX7 207 yX7_scans ∈ wsL_law := inR19 (List.mem_of_getElem? (i := 17) rfl)
theorem u_288 : Cond.fieldLink RX7 38 "PaintedGodsModel" "nums" "[I" ∈ wsL_law := inR6 (List.mem_of_getElem? (i := 22) rfl)
theorem u_289 : Cond.methodLink RX7 210 yX7_numbers ∈ wsL_law := inR20 (List.mem_of_getElem? (i := 20) rfl)
theorem u_290 : Cond.methodLink RX7 214 yX7_stuff ∈ wsL_law := inR21 (List.mem_of_getElem? (i := 3) rfl)
theorem u_291 : Cond.methodLink RX7 218 yX7_put ∈ wsL_law := inR21 (List.mem_of_getElem? (i := 4) rfl)
theorem u_292 : Cond.methodLink RX7 221 yX7_habit ∈ wsL_law := inR21 (List.mem_of_getElem? (i := 5) rfl)
theorem u_293 : Cond.methodLink RX7 224 yX7_copy ∈ wsL_law := inR21 (List.mem_of_getElem? (i := 6) rfl)
theorem u_294 : Cond.methodLink RX7 227 yX7_trace ∈ wsL_law := inR21 (List.mem_of_getElem? (i := 7) rfl)
theorem u_295 : Cond.fieldLink RX7 20 "PaintedGodsModel" "before" "[I" ∈ wsL_law := inR6 (List.mem_of_getElem? (i := 16) rfl)
theorem u_296 : Cond.methodLink RX7 235 yX7_tellsItem ∈ wsL_law := inR20 (List.mem_of_getElem? (i := 23) rfl)
theorem u_297 : Cond.methodLink RX7 53 yX7_begins ∈ wsL_law := inR7 (List.mem_of_getElem? (i := 3) rfl)
theorem u_298 : Cond.methodLink RX7 231 yX7_reads ∈ wsL_law := inR19 (List.mem_of_getElem? (i := 10) rfl)
theorem u_299 : Cond.methodLink RX7 241 yX7_overOf ∈ wsL_law := inR23 (List.mem_of_getElem? (i := 15) rfl)
theorem u_300 : Cond.methodLink RX7 238 yX7_groundOf ∈ wsL_law := inR23 (List.mem_of_getElem? (i := 12) rfl)
theorem u_301 : Cond.methodLink RX7 244 yX7_ofStuff ∈ wsL_law := inR24 (List.mem_of_getElem? (i := 2) rfl)
theorem u_302 : Cond.methodLink RX7 250 yX7_wearOf ∈ wsL_law := inR24 (List.mem_of_getElem? (i := 6) rfl)
theorem u_303 : Cond.methodLink RX7 247 yX7_thick ∈ wsL_law := inR23 (List.mem_of_getElem? (i := 22) rfl)
theorem u_304 : Cond.methodLink RX7 253 yX7_leftOf ∈ wsL_law := inR23 (List.mem_of_getElem? (i := 18) rfl)
theorem u_305 : Cond.methodLink RX7 256 yX7_isBright ∈ wsL_law := inR25 (List.mem_of_getElem? (i := 4) rfl)
theorem u_306 : Cond.methodLink RX7 265 yX7_isSo ∈ wsL_law := inR28 (List.mem_of_getElem? (i := 2) rfl)
theorem u_307 : Cond.methodLink RX7 262 yX7_isLooked ∈ wsL_law := inR27 (List.mem_of_getElem? (i := 22) rfl)
theorem u_308 : Cond.methodLink RX7 259 yX7_isStack ∈ wsL_law := inR23 (List.mem_of_getElem? (i := 8) rfl)
theorem u_309 : Cond.constantLong RX7 268 (2) ∈ wsL_law := inR23 (List.mem_of_getElem? (i := 7) rfl)
theorem u_310 : Cond.methodLink RX7 270 yX7_isFit ∈ wsL_law := inR27 (List.mem_of_getElem? (i := 18) rfl)
theorem u_311 : Cond.fieldLink RX7 47 "PaintedGodsModel" "edges" "[I" ∈ wsL_law := inR7 (List.mem_of_getElem? (i := 1) rfl)
theorem u_312 : Cond.fieldLink RX7 41 "PaintedGodsModel" "weights" "[I" ∈ wsL_law := inR6 (List.mem_of_getElem? (i := 23) rfl)
theorem u_313 : Cond.fieldLink RX7 44 "PaintedGodsModel" "losts" "[I" ∈ wsL_law := inR7 (List.mem_of_getElem? (i := 0) rfl)
theorem u_314 : Cond.fieldLink RX7 50 "PaintedGodsModel" "met" "[Z" ∈ wsL_law := inR7 (List.mem_of_getElem? (i := 2) rfl)
theorem u_315 : Cond.methodLink RX7 276 yX7_goes ∈ wsL_law := inR32 (List.mem_of_getElem? (i := 15) rfl)
theorem u_316 : Cond.methodLink RX7 273 yX7_looks ∈ wsL_law := inR32 (List.mem_of_getElem? (i := 11) rfl)
theorem u_317 : Cond.methodLink RX7 282 yX7_adds ∈ wsL_law := inR33 (List.mem_of_getElem? (i := 3) rfl)
theorem u_318 : Cond.methodLink RX7 279 yX7_times ∈ wsL_law := inR32 (List.mem_of_getElem? (i := 23) rfl)
theorem u_319 : Cond.methodLink RX7 288 yX7_back ∈ wsL_law := inR33 (List.mem_of_getElem? (i := 8) rfl)
theorem u_320 : Cond.methodLink RX7 285 yX7_forth ∈ wsL_law := inR32 (List.mem_of_getElem? (i := 7) rfl)
theorem u_321 : Cond.methodLink RX7 292 yX7_multiplies ∈ wsL_law := inR33 (List.mem_of_getElem? (i := 20) rfl)
theorem u_322 : Cond.methodLink RX7 95 yX7_lowers ∈ wsL_law := inR34 (List.mem_of_getElem? (i := 4) rfl)
theorem u_323 : Cond.methodLink RX7 301 yX7_tellsSum ∈ wsL_law := inR34 (List.mem_of_getElem? (i := 0) rfl)
theorem u_324 : Cond.methodLink RX7 298 yX7_addsRows ∈ wsL_law := inR33 (List.mem_of_getElem? (i := 16) rfl)
theorem u_325 : Cond.methodLink RX7 295 yX7_rows ∈ wsL_law := inR32 (List.mem_of_getElem? (i := 3) rfl)
theorem u_326 : Cond.constantLong RX7 304 (7) ∈ wsL_law := inR36 (List.mem_of_getElem? (i := 16) rfl)
theorem u_327 : Cond.methodLink RX7 306 yX7_can ∈ wsL_law := inR38 (List.mem_of_getElem? (i := 11) rfl)
theorem u_328 : Cond.constant RX7 312 (1000000) ∈ wsL_law := inR39 (List.mem_of_getElem? (i := 8) rfl)
theorem u_329 : Cond.methodLink RX7 313 yX7_sizeOf ∈ wsL_law := inR39 (List.mem_of_getElem? (i := 13) rfl)
theorem u_330 : Cond.methodLink RX7 309 yX7_tracesOf ∈ wsL_law := inR39 (List.mem_of_getElem? (i := 9) rfl)
theorem u_331 : Cond.methodLink RX7 316 yX7_topOf ∈ wsL_law := inR41 (List.mem_of_getElem? (i := 22) rfl)
theorem u_332 : Cond.methodLink RX7 319 yX7_restsAt ∈ wsL_law := inR41 (List.mem_of_getElem? (i := 18) rfl)
theorem u_333 : Cond.fieldLink RX7 16 "PaintedGodsModel" "kept" "[Z" ∈ wsL_law := inR6 (List.mem_of_getElem? (i := 15) rfl)
theorem u_334 : Cond.fieldLink RX7 13 "PaintedGodsModel" "images" "[I" ∈ wsL_law := inR6 (List.mem_of_getElem? (i := 14) rfl)
theorem u_335 : Cond.methodLink RX7 322 yX7_countOf ∈ wsL_law := inR45 (List.mem_of_getElem? (i := 20) rfl)
theorem u_336 : Cond.constantLong RX7 325 (31) ∈ wsL_law := inR46 (List.mem_of_getElem? (i := 21) rfl)
theorem u_337 : Cond.constantLong RX7 327 (557) ∈ wsL_law := inR46 (List.mem_of_getElem? (i := 20) rfl)
theorem u_338 : Cond.methodLink RX7 329 yX7_mixed ∈ wsL_law := inR46 (List.mem_of_getElem? (i := 22) rfl)
theorem u_339 : Cond.code yJ0_length_8abf5 cJ0_length_8abf5 1 (some .int) ∈ wsL_law := inR16 (List.mem_of_getElem? (i := 2) rfl)
theorem u_340 : Cond.initialized RJ0 ∈ wsL_law := inR16 (List.mem_of_getElem? (i := 1) rfl)
theorem u_341 : Cond.instanceMethod yJ0_length_8abf5 ∈ wsL_law := inR15 (List.mem_of_getElem? (i := 23) rfl)
theorem u_342 : Cond.selects RJ0 yJ0_length_8abf5 yJ0_length_8abf5 ∈ wsL_law := inR16 (List.mem_of_getElem? (i := 0) rfl)
theorem u_343 : Cond.fieldLink RJ0 9 "java/lang/String" "value" "[B" ∈ wsL_law := inR16 (List.mem_of_getElem? (i := 3) rfl)
theorem u_344 : Cond.methodLink RJ0 335 yJ0_coder_7d493 ∈ wsL_law := inR16 (List.mem_of_getElem? (i := 4) rfl)
theorem u_345 : Cond.instanceMethod yJ0_coder_7d493 ∈ wsL_law := inR16 (List.mem_of_getElem? (i := 5) rfl)
theorem u_346 : Cond.selects RJ0 yJ0_coder_7d493 yJ0_coder_7d493 ∈ wsL_law := inR16 (List.mem_of_getElem? (i := 6) rfl)
theorem u_347 : Cond.code yJ0_coder_7d493 cJ0_coder_7d493 1 (some .byte) ∈ wsL_law := inR16 (List.mem_of_getElem? (i := 7) rfl)
theorem u_348 : Cond.fieldLink RJ0 38 "java/lang/String" "COMPACT_STRINGS" "Z" ∈ wsL_law := inR16 (List.mem_of_getElem? (i := 8) rfl)
theorem u_349 : Cond.fieldLink RJ0 15 "java/lang/String" "coder" "B" ∈ wsL_law := inR16 (List.mem_of_getElem? (i := 9) rfl)
theorem u_350 : Cond.instanceMethod yJ0_charAt_5068e ∈ wsL_law := inR16 (List.mem_of_getElem? (i := 11) rfl)
theorem u_351 : Cond.selects RJ0 yJ0_charAt_5068e yJ0_charAt_5068e ∈ wsL_law := inR16 (List.mem_of_getElem? (i := 12) rfl)
theorem u_352 : Cond.code yJ0_charAt_5068e cJ0_charAt_5068e 2 (some .char) ∈ wsL_law := inR16 (List.mem_of_getElem? (i := 13) rfl)
theorem u_353 : Cond.methodLink RJ0 492 yJ0_isLatin1_aae02 ∈ wsL_law := inR16 (List.mem_of_getElem? (i := 14) rfl)
theorem u_354 : Cond.instanceMethod yJ0_isLatin1_aae02 ∈ wsL_law := inR16 (List.mem_of_getElem? (i := 15) rfl)
theorem u_355 : Cond.selects RJ0 yJ0_isLatin1_aae02 yJ0_isLatin1_aae02 ∈ wsL_law := inR16 (List.mem_of_getElem? (i := 16) rfl)
theorem u_356 : Cond.code yJ0_isLatin1_aae02 cJ0_isLatin1_aae02 1 (some .boolean) ∈ wsL_law := inR16 (List.mem_of_getElem? (i := 17) rfl)
theorem u_357 : Cond.methodLink RJ0 495 yJ1_charAt_3b067 ∈ wsL_law := inR16 (List.mem_of_getElem? (i := 18) rfl)
theorem u_358 : Cond.static yJ1_charAt_3b067 ∈ wsL_law := inR16 (List.mem_of_getElem? (i := 19) rfl)
theorem u_359 : Cond.initialized RJ1 ∈ wsL_law := inR16 (List.mem_of_getElem? (i := 20) rfl)
theorem u_360 : Cond.code yJ1_charAt_3b067 cJ1_charAt_3b067 2 (some .char) ∈ wsL_law := inR16 (List.mem_of_getElem? (i := 21) rfl)
theorem u_361 : Cond.methodLink RJ1 9 yJ0_checkIndex_df160 ∈ wsL_law := inR16 (List.mem_of_getElem? (i := 22) rfl)
theorem u_362 : Cond.static yJ0_checkIndex_df160 ∈ wsL_law := inR16 (List.mem_of_getElem? (i := 23) rfl)
theorem u_363 : Cond.code yJ0_checkIndex_df160 cJ0_checkIndex_df160 2 none ∈ wsL_law := inR17 (List.mem_of_getElem? (i := 0) rfl)
theorem u_364 : Cond.fieldLink RJ0 1053 "jdk/internal/util/Preconditions" "SIOOBE_FORMATTER" "Ljava/util/function/BiFunction;" ∈ wsL_law := inR17 (List.mem_of_getElem? (i := 1) rfl)
theorem u_365 : Cond.methodLink RJ0 1059 yJ3_checkIndex_8e157 ∈ wsL_law := inR17 (List.mem_of_getElem? (i := 2) rfl)
theorem u_366 : Cond.static yJ3_checkIndex_8e157 ∈ wsL_law := inR17 (List.mem_of_getElem? (i := 3) rfl)
theorem u_367 : Cond.initialized RJ3 ∈ wsL_law := inR17 (List.mem_of_getElem? (i := 4) rfl)
theorem u_368 : Cond.code yJ3_checkIndex_8e157 cJ3_checkIndex_8e157 3 (some .int) ∈ wsL_law := inR17 (List.mem_of_getElem? (i := 5) rfl)
theorem u_369 : Cond.code yX5_measure cX5_measure 1 none ∈ wsL_law := inR6 (List.mem_of_getElem? (i := 7) rfl)
theorem u_370 : Cond.initialized RX5 ∈ wsL_law := inR2 (List.mem_of_getElem? (i := 15) rfl)
theorem u_371 : Cond.instanceMethod yX5_measure ∈ wsL_law := inR6 (List.mem_of_getElem? (i := 5) rfl)
theorem u_372 : Cond.selects RX5 yX5_measure yX5_measure ∈ wsL_law := inR6 (List.mem_of_getElem? (i := 6) rfl)
theorem u_373 : Cond.code yX5_addTimes cX5_addTimes 9 none ∈ wsL_law := inR6 (List.mem_of_getElem? (i := 2) rfl)
theorem u_374 : Cond.instanceMethod yX5_addTimes ∈ wsL_law := inR6 (List.mem_of_getElem? (i := 0) rfl)
theorem u_375 : Cond.selects RX5 yX5_addTimes yX5_addTimes ∈ wsL_law := inR6 (List.mem_of_getElem? (i := 1) rfl)
theorem u_376 : Cond.code yX5_set cX5_set 4 none ∈ wsL_law := inR5 (List.mem_of_getElem? (i := 22) rfl)
theorem u_377 : Cond.instanceMethod yX5_set ∈ wsL_law := inR5 (List.mem_of_getElem? (i := 20) rfl)
theorem u_378 : Cond.selects RX5 yX5_set yX5_set ∈ wsL_law := inR5 (List.mem_of_getElem? (i := 21) rfl)
theorem u_379 : Cond.code yX5_isZero cX5_isZero 1 (some .boolean) ∈ wsL_law := inR30 (List.mem_of_getElem? (i := 9) rfl)
theorem u_380 : Cond.instanceMethod yX5_isZero ∈ wsL_law := inR30 (List.mem_of_getElem? (i := 7) rfl)
theorem u_381 : Cond.selects RX5 yX5_isZero yX5_isZero ∈ wsL_law := inR30 (List.mem_of_getElem? (i := 8) rfl)
theorem u_382 : Cond.code yJ6_bitCount_0f7a4 cJ6_bitCount_0f7a4 1 (some .int) ∈ wsL_law := inR30 (List.mem_of_getElem? (i := 17) rfl)
theorem u_383 : Cond.initialized RJ6 ∈ wsL_law := inR30 (List.mem_of_getElem? (i := 16) rfl)
theorem u_384 : Cond.static yJ6_bitCount_0f7a4 ∈ wsL_law := inR30 (List.mem_of_getElem? (i := 15) rfl)
theorem u_385 : Cond.code yX5_twos cX5_twos 2 (some .int) ∈ wsL_law := inR30 (List.mem_of_getElem? (i := 13) rfl)
theorem u_386 : Cond.instanceMethod yX5_twos ∈ wsL_law := inR30 (List.mem_of_getElem? (i := 11) rfl)
theorem u_387 : Cond.selects RX5 yX5_twos yX5_twos ∈ wsL_law := inR30 (List.mem_of_getElem? (i := 12) rfl)
theorem u_388 : Cond.code yX5_shiftDown cX5_shiftDown 9 none ∈ wsL_law := inR31 (List.mem_of_getElem? (i := 0) rfl)
theorem u_389 : Cond.instanceMethod yX5_shiftDown ∈ wsL_law := inR30 (List.mem_of_getElem? (i := 22) rfl)
theorem u_390 : Cond.selects RX5 yX5_shiftDown yX5_shiftDown ∈ wsL_law := inR30 (List.mem_of_getElem? (i := 23) rfl)
theorem u_391 : Cond.code yX5_become cX5_become 2 none ∈ wsL_law := inR31 (List.mem_of_getElem? (i := 8) rfl)
theorem u_392 : Cond.instanceMethod yX5_become ∈ wsL_law := inR31 (List.mem_of_getElem? (i := 6) rfl)
theorem u_393 : Cond.selects RX5 yX5_become yX5_become ∈ wsL_law := inR31 (List.mem_of_getElem? (i := 7) rfl)
theorem u_394 : Cond.code yX5_compareWith cX5_compareWith 3 (some .int) ∈ wsL_law := inR31 (List.mem_of_getElem? (i := 13) rfl)
theorem u_395 : Cond.instanceMethod yX5_compareWith ∈ wsL_law := inR31 (List.mem_of_getElem? (i := 11) rfl)
theorem u_396 : Cond.selects RX5 yX5_compareWith yX5_compareWith ∈ wsL_law := inR31 (List.mem_of_getElem? (i := 12) rfl)
theorem u_397 : Cond.code yX5_subtract cX5_subtract 4 none ∈ wsL_law := inR31 (List.mem_of_getElem? (i := 17) rfl)
theorem u_398 : Cond.instanceMethod yX5_subtract ∈ wsL_law := inR31 (List.mem_of_getElem? (i := 15) rfl)
theorem u_399 : Cond.selects RX5 yX5_subtract yX5_subtract ∈ wsL_law := inR31 (List.mem_of_getElem? (i := 16) rfl)
theorem u_400 : Cond.code yX0_findCommon cX0_findCommon 4 none ∈ wsL_law := inR31 (List.mem_of_getElem? (i := 4) rfl)
theorem u_401 : Cond.initialized RX0 ∈ wsL_law := inR2 (List.mem_of_getElem? (i := 11) rfl)
theorem u_402 : Cond.instanceMethod yX0_findCommon ∈ wsL_law := inR31 (List.mem_of_getElem? (i := 2) rfl)
theorem u_403 : Cond.selects RX0 yX0_findCommon yX0_findCommon ∈ wsL_law := inR31 (List.mem_of_getElem? (i := 3) rfl)
theorem u_404 : Cond.code yX5_divideExactly cX5_divideExactly 9 none ∈ wsL_law := inR31 (List.mem_of_getElem? (i := 22) rfl)
theorem u_405 : Cond.instanceMethod yX5_divideExactly ∈ wsL_law := inR31 (List.mem_of_getElem? (i := 20) rfl)
theorem u_406 : Cond.selects RX5 yX5_divideExactly yX5_divideExactly ∈ wsL_law := inR31 (List.mem_of_getElem? (i := 21) rfl)
theorem u_407 : Cond.code yX0_reduce cX0_reduce 2 none ∈ wsL_law := inR30 (List.mem_of_getElem? (i := 4) rfl)
theorem u_408 : Cond.instanceMethod yX0_reduce ∈ wsL_law := inR30 (List.mem_of_getElem? (i := 2) rfl)
theorem u_409 : Cond.selects RX0 yX0_reduce yX0_reduce ∈ wsL_law := inR30 (List.mem_of_getElem? (i := 3) rfl)
theorem u_410 : Cond.code yX0_setTo cX0_setTo 5 none ∈ wsL_law := inR30 (List.mem_of_getElem? (i := 0) rfl)
theorem u_411 : Cond.instanceMethod yX0_setTo ∈ wsL_law := inR29 (List.mem_of_getElem? (i := 22) rfl)
theorem u_412 : Cond.selects RX0 yX0_setTo yX0_setTo ∈ wsL_law := inR29 (List.mem_of_getElem? (i := 23) rfl)
theorem u_413 : Cond.code yX0_setTo_ cX0_setTo_ 3 none ∈ wsL_law := inR37 (List.mem_of_getElem? (i := 16) rfl)
theorem u_414 : Cond.instanceMethod yX0_setTo_ ∈ wsL_law := inR37 (List.mem_of_getElem? (i := 14) rfl)
theorem u_415 : Cond.selects RX0 yX0_setTo_ yX0_setTo_ ∈ wsL_law := inR37 (List.mem_of_getElem? (i := 15) rfl)
theorem u_416 : Cond.code yX6_within cX6_within 3 (some .boolean) ∈ wsL_law := inR8 (List.mem_of_getElem? (i := 1) rfl)
theorem u_417 : Cond.initialized RX6 ∈ wsL_law := inR1 (List.mem_of_getElem? (i := 2) rfl)
theorem u_418 : Cond.static yX6_within ∈ wsL_law := inR8 (List.mem_of_getElem? (i := 0) rfl)
theorem u_419 : Cond.code yX6_groundOf cX6_groundOf 1 (some .int) ∈ wsL_law := inR21 (List.mem_of_getElem? (i := 18) rfl)
theorem u_420 : Cond.static yX6_groundOf ∈ wsL_law := inR21 (List.mem_of_getElem? (i := 17) rfl)
theorem u_421 : Cond.code yX6_upperOf cX6_upperOf 1 (some .int) ∈ wsL_law := inR21 (List.mem_of_getElem? (i := 20) rfl)
theorem u_422 : Cond.static yX6_upperOf ∈ wsL_law := inR21 (List.mem_of_getElem? (i := 19) rfl)
theorem u_423 : Cond.code yX2_isStack cX2_isStack 2 (some .boolean) ∈ wsL_law := inR21 (List.mem_of_getElem? (i := 16) rfl)
theorem u_424 : Cond.initialized RX2 ∈ wsL_law := inR1 (List.mem_of_getElem? (i := 15) rfl)
theorem u_425 : Cond.instanceMethod yX2_isStack ∈ wsL_law := inR21 (List.mem_of_getElem? (i := 14) rfl)
theorem u_426 : Cond.selects RX2 yX2_isStack yX2_isStack ∈ wsL_law := inR21 (List.mem_of_getElem? (i := 15) rfl)
theorem u_427 : Cond.code yX6_sideOf cX6_sideOf 1 (some .int) ∈ wsL_law := inR21 (List.mem_of_getElem? (i := 23) rfl)
theorem u_428 : Cond.static yX6_sideOf ∈ wsL_law := inR21 (List.mem_of_getElem? (i := 22) rfl)
theorem u_429 : Cond.code yX4_isSo cX4_isSo 5 (some .boolean) ∈ wsL_law := inR27 (List.mem_of_getElem? (i := 3) rfl)
theorem u_430 : Cond.initialized RX4 ∈ wsL_law := inR2 (List.mem_of_getElem? (i := 3) rfl)
theorem u_431 : Cond.instanceMethod yX4_isSo ∈ wsL_law := inR27 (List.mem_of_getElem? (i := 1) rfl)
theorem u_432 : Cond.selects RX4 yX4_isSo yX4_isSo ∈ wsL_law := inR27 (List.mem_of_getElem? (i := 2) rfl)
theorem u_433 : Cond.code yX1_lookAtTrace cX1_lookAtTrace 7 none ∈ wsL_law := inR26 (List.mem_of_getElem? (i := 21) rfl)
theorem u_434 : Cond.initialized RX1 ∈ wsL_law := inR2 (List.mem_of_getElem? (i := 7) rfl)
theorem u_435 : Cond.instanceMethod yX1_lookAtTrace ∈ wsL_law := inR26 (List.mem_of_getElem? (i := 19) rfl)
theorem u_436 : Cond.selects RX1 yX1_lookAtTrace yX1_lookAtTrace ∈ wsL_law := inR26 (List.mem_of_getElem? (i := 20) rfl)
theorem u_437 : Cond.code yX1_findSteps cX1_findSteps 4 none ∈ wsL_law := inR27 (List.mem_of_getElem? (i := 7) rfl)
theorem u_438 : Cond.instanceMethod yX1_findSteps ∈ wsL_law := inR27 (List.mem_of_getElem? (i := 5) rfl)
theorem u_439 : Cond.selects RX1 yX1_findSteps yX1_findSteps ∈ wsL_law := inR27 (List.mem_of_getElem? (i := 6) rfl)
theorem u_440 : Cond.code yX1_look cX1_look 6 none ∈ wsL_law := inR26 (List.mem_of_getElem? (i := 7) rfl)
theorem u_441 : Cond.instanceMethod yX1_look ∈ wsL_law := inR26 (List.mem_of_getElem? (i := 5) rfl)
theorem u_442 : Cond.selects RX1 yX1_look yX1_look ∈ wsL_law := inR26 (List.mem_of_getElem? (i := 6) rfl)
theorem u_443 : Cond.code yX1_isFree cX1_isFree 3 (some .boolean) ∈ wsL_law := inR27 (List.mem_of_getElem? (i := 12) rfl)
theorem u_444 : Cond.instanceMethod yX1_isFree ∈ wsL_law := inR27 (List.mem_of_getElem? (i := 10) rfl)
theorem u_445 : Cond.selects RX1 yX1_isFree yX1_isFree ∈ wsL_law := inR27 (List.mem_of_getElem? (i := 11) rfl)
theorem u_446 : Cond.code yX1_canBe cX1_canBe 7 (some .boolean) ∈ wsL_law := inR35 (List.mem_of_getElem? (i := 19) rfl)
theorem u_447 : Cond.instanceMethod yX1_canBe ∈ wsL_law := inR35 (List.mem_of_getElem? (i := 17) rfl)
theorem u_448 : Cond.selects RX1 yX1_canBe yX1_canBe ∈ wsL_law := inR35 (List.mem_of_getElem? (i := 18) rfl)
theorem u_449 : Cond.code yX1_laterOf cX1_laterOf 8 (some .int) ∈ wsL_law := inR39 (List.mem_of_getElem? (i := 3) rfl)
theorem u_450 : Cond.instanceMethod yX1_laterOf ∈ wsL_law := inR39 (List.mem_of_getElem? (i := 1) rfl)
theorem u_451 : Cond.selects RX1 yX1_laterOf yX1_laterOf ∈ wsL_law := inR39 (List.mem_of_getElem? (i := 2) rfl)
theorem u_452 : Cond.code yX1_fewestLater cX1_fewestLater 3 (some .int) ∈ wsL_law := inR38 (List.mem_of_getElem? (i := 22) rfl)
theorem u_453 : Cond.instanceMethod yX1_fewestLater ∈ wsL_law := inR38 (List.mem_of_getElem? (i := 20) rfl)
theorem u_454 : Cond.selects RX1 yX1_fewestLater yX1_fewestLater ∈ wsL_law := inR38 (List.mem_of_getElem? (i := 21) rfl)
theorem u_455 : Cond.code yX1_weighParts cX1_weighParts 4 none ∈ wsL_law := inR29 (List.mem_of_getElem? (i := 4) rfl)
theorem u_456 : Cond.instanceMethod yX1_weighParts ∈ wsL_law := inR29 (List.mem_of_getElem? (i := 2) rfl)
theorem u_457 : Cond.selects RX1 yX1_weighParts yX1_weighParts ∈ wsL_law := inR29 (List.mem_of_getElem? (i := 3) rfl)
theorem u_458 : Cond.code yX1_joint cX1_joint 4 (some .int) ∈ wsL_law := inR29 (List.mem_of_getElem? (i := 12) rfl)
theorem u_459 : Cond.instanceMethod yX1_joint ∈ wsL_law := inR29 (List.mem_of_getElem? (i := 10) rfl)
theorem u_460 : Cond.selects RX1 yX1_joint yX1_joint ∈ wsL_law := inR29 (List.mem_of_getElem? (i := 11) rfl)
theorem u_461 : Cond.code yX1_partsBeside cX1_partsBeside 7 (some .long) ∈ wsL_law := inR29 (List.mem_of_getElem? (i := 8) rfl)
theorem u_462 : Cond.instanceMethod yX1_partsBeside ∈ wsL_law := inR29 (List.mem_of_getElem? (i := 6) rfl)
theorem u_463 : Cond.selects RX1 yX1_partsBeside yX1_partsBeside ∈ wsL_law := inR29 (List.mem_of_getElem? (i := 7) rfl)
theorem u_464 : Cond.code yX1_reckonAhead cX1_reckonAhead 3 none ∈ wsL_law := inR28 (List.mem_of_getElem? (i := 22) rfl)
theorem u_465 : Cond.instanceMethod yX1_reckonAhead ∈ wsL_law := inR28 (List.mem_of_getElem? (i := 20) rfl)
theorem u_466 : Cond.selects RX1 yX1_reckonAhead yX1_reckonAhead ∈ wsL_law := inR28 (List.mem_of_getElem? (i := 21) rfl)
theorem u_467 : Cond.code yX1_reckonBehind cX1_reckonBehind 3 none ∈ wsL_law := inR29 (List.mem_of_getElem? (i := 16) rfl)
theorem u_468 : Cond.instanceMethod yX1_reckonBehind ∈ wsL_law := inR29 (List.mem_of_getElem? (i := 14) rfl)
theorem u_469 : Cond.selects RX1 yX1_reckonBehind yX1_reckonBehind ∈ wsL_law := inR29 (List.mem_of_getElem? (i := 15) rfl)
theorem u_470 : Cond.code yX1_reckon cX1_reckon 1 none ∈ wsL_law := inR28 (List.mem_of_getElem? (i := 18) rfl)
theorem u_471 : Cond.instanceMethod yX1_reckon ∈ wsL_law := inR28 (List.mem_of_getElem? (i := 16) rfl)
theorem u_472 : Cond.selects RX1 yX1_reckon yX1_reckon ∈ wsL_law := inR28 (List.mem_of_getElem? (i := 17) rfl)
theorem u_473 : Cond.code yX1_weightOf cX1_weightOf 3 (some .long) ∈ wsL_law := inR29 (List.mem_of_getElem? (i := 20) rfl)
theorem u_474 : Cond.instanceMethod yX1_weightOf ∈ wsL_law := inR29 (List.mem_of_getElem? (i := 18) rfl)
theorem u_475 : Cond.selects RX1 yX1_weightOf yX1_weightOf ∈ wsL_law := inR29 (List.mem_of_getElem? (i := 19) rfl)
theorem u_476 : Cond.code yX1_mostNext cX1_mostNext 4 (some .long) ∈ wsL_law := inR36 (List.mem_of_getElem? (i := 11) rfl)
theorem u_477 : Cond.instanceMethod yX1_mostNext ∈ wsL_law := inR36 (List.mem_of_getElem? (i := 9) rfl)
theorem u_478 : Cond.selects RX1 yX1_mostNext yX1_mostNext ∈ wsL_law := inR36 (List.mem_of_getElem? (i := 10) rfl)
theorem u_479 : Cond.code yX1_bestNext cX1_bestNext 5 (some .int) ∈ wsL_law := inR36 (List.mem_of_getElem? (i := 7) rfl)
theorem u_480 : Cond.instanceMethod yX1_bestNext ∈ wsL_law := inR36 (List.mem_of_getElem? (i := 5) rfl)
theorem u_481 : Cond.selects RX1 yX1_bestNext yX1_bestNext ∈ wsL_law := inR36 (List.mem_of_getElem? (i := 6) rfl)
theorem u_482 : Cond.code yX1_reckonMost cX1_reckonMost 5 none ∈ wsL_law := inR36 (List.mem_of_getElem? (i := 3) rfl)
theorem u_483 : Cond.instanceMethod yX1_reckonMost ∈ wsL_law := inR36 (List.mem_of_getElem? (i := 1) rfl)
theorem u_484 : Cond.selects RX1 yX1_reckonMost yX1_reckonMost ∈ wsL_law := inR36 (List.mem_of_getElem? (i := 2) rfl)
theorem u_485 : Cond.code yX1_likeliestAt cX1_likeliestAt 4 (some .int) ∈ wsL_law := inR35 (List.mem_of_getElem? (i := 23) rfl)
theorem u_486 : Cond.instanceMethod yX1_likeliestAt ∈ wsL_law := inR35 (List.mem_of_getElem? (i := 21) rfl)
theorem u_487 : Cond.selects RX1 yX1_likeliestAt yX1_likeliestAt ∈ wsL_law := inR35 (List.mem_of_getElem? (i := 22) rfl)
theorem u_488 : Cond.code yX1_weighLamps cX1_weighLamps 8 none ∈ wsL_law := inR40 (List.mem_of_getElem? (i := 7) rfl)
theorem u_489 : Cond.instanceMethod yX1_weighLamps ∈ wsL_law := inR40 (List.mem_of_getElem? (i := 5) rfl)
theorem u_490 : Cond.selects RX1 yX1_weighLamps yX1_weighLamps ∈ wsL_law := inR40 (List.mem_of_getElem? (i := 6) rfl)
theorem u_491 : Cond.code yX6_isLess cX6_isLess 4 (some .boolean) ∈ wsL_law := inR40 (List.mem_of_getElem? (i := 11) rfl)
theorem u_492 : Cond.static yX6_isLess ∈ wsL_law := inR40 (List.mem_of_getElem? (i := 10) rfl)
theorem u_493 : Cond.code yX1_seekHalf cX1_seekHalf 10 none ∈ wsL_law := inR40 (List.mem_of_getElem? (i := 1) rfl)
theorem u_494 : Cond.instanceMethod yX1_seekHalf ∈ wsL_law := inR39 (List.mem_of_getElem? (i := 23) rfl)
theorem u_495 : Cond.selects RX1 yX1_seekHalf yX1_seekHalf ∈ wsL_law := inR40 (List.mem_of_getElem? (i := 0) rfl)
theorem u_496 : Cond.code yX2_beAtFirst cX2_beAtFirst 2 none ∈ wsL_law := inR3 (List.mem_of_getElem? (i := 15) rfl)
theorem u_497 : Cond.instanceMethod yX2_beAtFirst ∈ wsL_law := inR3 (List.mem_of_getElem? (i := 13) rfl)
theorem u_498 : Cond.selects RX2 yX2_beAtFirst yX2_beAtFirst ∈ wsL_law := inR3 (List.mem_of_getElem? (i := 14) rfl)
theorem u_499 : Cond.code yX2_become cX2_become 2 none ∈ wsL_law := inR19 (List.mem_of_getElem? (i := 3) rfl)
theorem u_500 : Cond.instanceMethod yX2_become ∈ wsL_law := inR19 (List.mem_of_getElem? (i := 1) rfl)
theorem u_501 : Cond.selects RX2 yX2_become yX2_become ∈ wsL_law := inR19 (List.mem_of_getElem? (i := 2) rfl)
theorem u_502 : Cond.code yX2_addStuff cX2_addStuff 5 (some .int) ∈ wsL_law := inR7 (List.mem_of_getElem? (i := 23) rfl)
theorem u_503 : Cond.instanceMethod yX2_addStuff ∈ wsL_law := inR7 (List.mem_of_getElem? (i := 21) rfl)
theorem u_504 : Cond.selects RX2 yX2_addStuff yX2_addStuff ∈ wsL_law := inR7 (List.mem_of_getElem? (i := 22) rfl)
theorem u_505 : Cond.code yX2_set cX2_set 4 (some .int) ∈ wsL_law := inR9 (List.mem_of_getElem? (i := 12) rfl)
theorem u_506 : Cond.instanceMethod yX2_set ∈ wsL_law := inR9 (List.mem_of_getElem? (i := 10) rfl)
theorem u_507 : Cond.selects RX2 yX2_set yX2_set ∈ wsL_law := inR9 (List.mem_of_getElem? (i := 11) rfl)
theorem u_508 : Cond.code yX2_setHabit cX2_setHabit 4 (some .int) ∈ wsL_law := inR10 (List.mem_of_getElem? (i := 8) rfl)
theorem u_509 : Cond.instanceMethod yX2_setHabit ∈ wsL_law := inR10 (List.mem_of_getElem? (i := 6) rfl)
theorem u_510 : Cond.selects RX2 yX2_setHabit yX2_setHabit ∈ wsL_law := inR10 (List.mem_of_getElem? (i := 7) rfl)
theorem u_511 : Cond.code yX6_isCell cX6_isCell 1 (some .boolean) ∈ wsL_law := inR10 (List.mem_of_getElem? (i := 23) rfl)
theorem u_512 : Cond.static yX6_isCell ∈ wsL_law := inR10 (List.mem_of_getElem? (i := 22) rfl)
theorem u_513 : Cond.code yX2_isStuff cX2_isStuff 2 (some .boolean) ∈ wsL_law := inR11 (List.mem_of_getElem? (i := 8) rfl)
theorem u_514 : Cond.instanceMethod yX2_isStuff ∈ wsL_law := inR11 (List.mem_of_getElem? (i := 6) rfl)
theorem u_515 : Cond.selects RX2 yX2_isStuff yX2_isStuff ∈ wsL_law := inR11 (List.mem_of_getElem? (i := 7) rfl)
theorem u_516 : Cond.code yX2_canTell cX2_canTell 4 (some .boolean) ∈ wsL_law := inR11 (List.mem_of_getElem? (i := 4) rfl)
theorem u_517 : Cond.instanceMethod yX2_canTell ∈ wsL_law := inR11 (List.mem_of_getElem? (i := 2) rfl)
theorem u_518 : Cond.selects RX2 yX2_canTell yX2_canTell ∈ wsL_law := inR11 (List.mem_of_getElem? (i := 3) rfl)
theorem u_519 : Cond.code yX2_addTrace cX2_addTrace 4 (some .int) ∈ wsL_law := inR10 (List.mem_of_getElem? (i := 21) rfl)
theorem u_520 : Cond.instanceMethod yX2_addTrace ∈ wsL_law := inR10 (List.mem_of_getElem? (i := 19) rfl)
theorem u_521 : Cond.selects RX2 yX2_addTrace yX2_addTrace ∈ wsL_law := inR10 (List.mem_of_getElem? (i := 20) rfl)
theorem u_522 : Cond.code yX2_setAside cX2_setAside 4 (some .int) ∈ wsL_law := inR12 (List.mem_of_getElem? (i := 9) rfl)
theorem u_523 : Cond.instanceMethod yX2_setAside ∈ wsL_law := inR12 (List.mem_of_getElem? (i := 7) rfl)
theorem u_524 : Cond.selects RX2 yX2_setAside yX2_setAside ∈ wsL_law := inR12 (List.mem_of_getElem? (i := 8) rfl)
theorem u_525 : Cond.code yX2_paint cX2_paint 4 (some .int) ∈ wsL_law := inR13 (List.mem_of_getElem? (i := 5) rfl)
theorem u_526 : Cond.instanceMethod yX2_paint ∈ wsL_law := inR13 (List.mem_of_getElem? (i := 3) rfl)
theorem u_527 : Cond.selects RX2 yX2_paint yX2_paint ∈ wsL_law := inR13 (List.mem_of_getElem? (i := 4) rfl)
theorem u_528 : Cond.code yX2_countAside cX2_countAside 3 (some .int) ∈ wsL_law := inR45 (List.mem_of_getElem? (i := 15) rfl)
theorem u_529 : Cond.instanceMethod yX2_countAside ∈ wsL_law := inR45 (List.mem_of_getElem? (i := 13) rfl)
theorem u_530 : Cond.selects RX2 yX2_countAside yX2_countAside ∈ wsL_law := inR45 (List.mem_of_getElem? (i := 14) rfl)
theorem u_531 : Cond.code yX2_wearOf cX2_wearOf 2 (some .int) ∈ wsL_law := inR22 (List.mem_of_getElem? (i := 3) rfl)
theorem u_532 : Cond.instanceMethod yX2_wearOf ∈ wsL_law := inR22 (List.mem_of_getElem? (i := 1) rfl)
theorem u_533 : Cond.selects RX2 yX2_wearOf yX2_wearOf ∈ wsL_law := inR22 (List.mem_of_getElem? (i := 2) rfl)
theorem u_534 : Cond.code yX2_thickOf cX2_thickOf 2 (some .int) ∈ wsL_law := inR22 (List.mem_of_getElem? (i := 18) rfl)
theorem u_535 : Cond.instanceMethod yX2_thickOf ∈ wsL_law := inR22 (List.mem_of_getElem? (i := 16) rfl)
theorem u_536 : Cond.selects RX2 yX2_thickOf yX2_thickOf ∈ wsL_law := inR22 (List.mem_of_getElem? (i := 17) rfl)
theorem u_537 : Cond.code yX2_upperLeft cX2_upperLeft 3 (some .int) ∈ wsL_law := inR22 (List.mem_of_getElem? (i := 22) rfl)
theorem u_538 : Cond.instanceMethod yX2_upperLeft ∈ wsL_law := inR22 (List.mem_of_getElem? (i := 20) rfl)
theorem u_539 : Cond.selects RX2 yX2_upperLeft yX2_upperLeft ∈ wsL_law := inR22 (List.mem_of_getElem? (i := 21) rfl)
theorem u_540 : Cond.code yX2_groundLeft cX2_groundLeft 4 (some .int) ∈ wsL_law := inR22 (List.mem_of_getElem? (i := 7) rfl)
theorem u_541 : Cond.instanceMethod yX2_groundLeft ∈ wsL_law := inR22 (List.mem_of_getElem? (i := 5) rfl)
theorem u_542 : Cond.selects RX2 yX2_groundLeft yX2_groundLeft ∈ wsL_law := inR22 (List.mem_of_getElem? (i := 6) rfl)
theorem u_543 : Cond.code yX2_stoneLost cX2_stoneLost 3 (some .int) ∈ wsL_law := inR23 (List.mem_of_getElem? (i := 2) rfl)
theorem u_544 : Cond.instanceMethod yX2_stoneLost ∈ wsL_law := inR23 (List.mem_of_getElem? (i := 0) rfl)
theorem u_545 : Cond.selects RX2 yX2_stoneLost yX2_stoneLost ∈ wsL_law := inR23 (List.mem_of_getElem? (i := 1) rfl)
theorem u_546 : Cond.code yX2_lampsOfCoat cX2_lampsOfCoat 3 (some .int) ∈ wsL_law := inR24 (List.mem_of_getElem? (i := 22) rfl)
theorem u_547 : Cond.instanceMethod yX2_lampsOfCoat ∈ wsL_law := inR24 (List.mem_of_getElem? (i := 20) rfl)
theorem u_548 : Cond.selects RX2 yX2_lampsOfCoat yX2_lampsOfCoat ∈ wsL_law := inR24 (List.mem_of_getElem? (i := 21) rfl)
theorem u_549 : Cond.code yX2_lampsOf cX2_lampsOf 3 (some .int) ∈ wsL_law := inR24 (List.mem_of_getElem? (i := 17) rfl)
theorem u_550 : Cond.instanceMethod yX2_lampsOf ∈ wsL_law := inR24 (List.mem_of_getElem? (i := 15) rfl)
theorem u_551 : Cond.selects RX2 yX2_lampsOf yX2_lampsOf ∈ wsL_law := inR24 (List.mem_of_getElem? (i := 16) rfl)
theorem u_552 : Cond.code yX2_grainsOf cX2_grainsOf 5 (some .int) ∈ wsL_law := inR26 (List.mem_of_getElem? (i := 3) rfl)
theorem u_553 : Cond.instanceMethod yX2_grainsOf ∈ wsL_law := inR26 (List.mem_of_getElem? (i := 1) rfl)
theorem u_554 : Cond.selects RX2 yX2_grainsOf yX2_grainsOf ∈ wsL_law := inR26 (List.mem_of_getElem? (i := 2) rfl)
theorem u_555 : Cond.code yX6_topOf cX6_topOf 2 (some .int) ∈ wsL_law := inR41 (List.mem_of_getElem? (i := 12) rfl)
theorem u_556 : Cond.static yX6_topOf ∈ wsL_law := inR41 (List.mem_of_getElem? (i := 11) rfl)
theorem u_557 : Cond.code yX2_brightOf cX2_brightOf 3 (some .int) ∈ wsL_law := inR42 (List.mem_of_getElem? (i := 20) rfl)
theorem u_558 : Cond.instanceMethod yX2_brightOf ∈ wsL_law := inR42 (List.mem_of_getElem? (i := 18) rfl)
theorem u_559 : Cond.selects RX2 yX2_brightOf yX2_brightOf ∈ wsL_law := inR42 (List.mem_of_getElem? (i := 19) rfl)
theorem u_560 : Cond.code yX2_mix cX2_mix 6 (some .long) ∈ wsL_law := inR46 (List.mem_of_getElem? (i := 9) rfl)
theorem u_561 : Cond.instanceMethod yX2_mix ∈ wsL_law := inR46 (List.mem_of_getElem? (i := 7) rfl)
theorem u_562 : Cond.selects RX2 yX2_mix yX2_mix ∈ wsL_law := inR46 (List.mem_of_getElem? (i := 8) rfl)
theorem u_563 : Cond.code yX3_write cX3_write 5 (some .int) ∈ wsL_law := inR13 (List.mem_of_getElem? (i := 17) rfl)
theorem u_564 : Cond.initialized RX3 ∈ wsL_law := inR1 (List.mem_of_getElem? (i := 23) rfl)
theorem u_565 : Cond.instanceMethod yX3_write ∈ wsL_law := inR13 (List.mem_of_getElem? (i := 15) rfl)
theorem u_566 : Cond.selects RX3 yX3_write yX3_write ∈ wsL_law := inR13 (List.mem_of_getElem? (i := 16) rfl)
theorem u_567 : Cond.code yX3_wipe cX3_wipe 2 (some .int) ∈ wsL_law := inR14 (List.mem_of_getElem? (i := 9) rfl)
theorem u_568 : Cond.instanceMethod yX3_wipe ∈ wsL_law := inR14 (List.mem_of_getElem? (i := 7) rfl)
theorem u_569 : Cond.selects RX3 yX3_wipe yX3_wipe ∈ wsL_law := inR14 (List.mem_of_getElem? (i := 8) rfl)
theorem u_570 : Cond.code yX3_byteAt cX3_byteAt 2 (some .int) ∈ wsL_law := inR15 (List.mem_of_getElem? (i := 10) rfl)
theorem u_571 : Cond.instanceMethod yX3_byteAt ∈ wsL_law := inR15 (List.mem_of_getElem? (i := 8) rfl)
theorem u_572 : Cond.selects RX3 yX3_byteAt yX3_byteAt ∈ wsL_law := inR15 (List.mem_of_getElem? (i := 9) rfl)
theorem u_573 : Cond.code yX3_isLetter cX3_isLetter 1 (some .boolean) ∈ wsL_law := inR15 (List.mem_of_getElem? (i := 13) rfl)
theorem u_574 : Cond.static yX3_isLetter ∈ wsL_law := inR15 (List.mem_of_getElem? (i := 12) rfl)
theorem u_575 : Cond.code yX3_wordFrom cX3_wordFrom 7 (some .int) ∈ wsL_law := inR15 (List.mem_of_getElem? (i := 21) rfl)
theorem u_576 : Cond.instanceMethod yX3_wordFrom ∈ wsL_law := inR15 (List.mem_of_getElem? (i := 19) rfl)
theorem u_577 : Cond.selects RX3 yX3_wordFrom yX3_wordFrom ∈ wsL_law := inR15 (List.mem_of_getElem? (i := 20) rfl)
theorem u_578 : Cond.code yX3_readWord cX3_readWord 1 none ∈ wsL_law := inR15 (List.mem_of_getElem? (i := 17) rfl)
theorem u_579 : Cond.instanceMethod yX3_readWord ∈ wsL_law := inR15 (List.mem_of_getElem? (i := 15) rfl)
theorem u_580 : Cond.selects RX3 yX3_readWord yX3_readWord ∈ wsL_law := inR15 (List.mem_of_getElem? (i := 16) rfl)
theorem u_581 : Cond.code yX3_isFigure cX3_isFigure 1 (some .boolean) ∈ wsL_law := inR18 (List.mem_of_getElem? (i := 1) rfl)
theorem u_582 : Cond.static yX3_isFigure ∈ wsL_law := inR18 (List.mem_of_getElem? (i := 0) rfl)
theorem u_583 : Cond.code yX3_readNumber cX3_readNumber 1 none ∈ wsL_law := inR18 (List.mem_of_getElem? (i := 5) rfl)
theorem u_584 : Cond.instanceMethod yX3_readNumber ∈ wsL_law := inR18 (List.mem_of_getElem? (i := 3) rfl)
theorem u_585 : Cond.selects RX3 yX3_readNumber yX3_readNumber ∈ wsL_law := inR18 (List.mem_of_getElem? (i := 4) rfl)
theorem u_586 : Cond.code yX3_readToken cX3_readToken 2 none ∈ wsL_law := inR15 (List.mem_of_getElem? (i := 6) rfl)
theorem u_587 : Cond.instanceMethod yX3_readToken ∈ wsL_law := inR15 (List.mem_of_getElem? (i := 4) rfl)
theorem u_588 : Cond.selects RX3 yX3_readToken yX3_readToken ∈ wsL_law := inR15 (List.mem_of_getElem? (i := 5) rfl)
theorem u_589 : Cond.code yX3_readItem cX3_readItem 3 (some .boolean) ∈ wsL_law := inR18 (List.mem_of_getElem? (i := 9) rfl)
theorem u_590 : Cond.instanceMethod yX3_readItem ∈ wsL_law := inR18 (List.mem_of_getElem? (i := 7) rfl)
theorem u_591 : Cond.selects RX3 yX3_readItem yX3_readItem ∈ wsL_law := inR18 (List.mem_of_getElem? (i := 8) rfl)
theorem u_592 : Cond.code yX3_answerTo cX3_answerTo 3 (some .int) ∈ wsL_law := inR18 (List.mem_of_getElem? (i := 18) rfl)
theorem u_593 : Cond.instanceMethod yX3_answerTo ∈ wsL_law := inR18 (List.mem_of_getElem? (i := 16) rfl)
theorem u_594 : Cond.selects RX3 yX3_answerTo yX3_answerTo ∈ wsL_law := inR18 (List.mem_of_getElem? (i := 17) rfl)
theorem u_595 : Cond.code yX3_tellItem cX3_tellItem 3 (some .boolean) ∈ wsL_law := inR18 (List.mem_of_getElem? (i := 14) rfl)
theorem u_596 : Cond.instanceMethod yX3_tellItem ∈ wsL_law := inR18 (List.mem_of_getElem? (i := 12) rfl)
theorem u_597 : Cond.selects RX3 yX3_tellItem yX3_tellItem ∈ wsL_law := inR18 (List.mem_of_getElem? (i := 13) rfl)
theorem u_598 : Cond.code yX3_tell cX3_tell 6 (some .int) ∈ wsL_law := inR14 (List.mem_of_getElem? (i := 21) rfl)
theorem u_599 : Cond.instanceMethod yX3_tell ∈ wsL_law := inR14 (List.mem_of_getElem? (i := 19) rfl)
theorem u_600 : Cond.selects RX3 yX3_tell yX3_tell ∈ wsL_law := inR14 (List.mem_of_getElem? (i := 20) rfl)
theorem u_601 : Cond.code yX4_take cX4_take 5 none ∈ wsL_law := inR25 (List.mem_of_getElem? (i := 19) rfl)
theorem u_602 : Cond.instanceMethod yX4_take ∈ wsL_law := inR25 (List.mem_of_getElem? (i := 17) rfl)
theorem u_603 : Cond.selects RX4 yX4_take yX4_take ∈ wsL_law := inR25 (List.mem_of_getElem? (i := 18) rfl)
theorem u_604 : Cond.code yX5_digit cX5_digit 2 (some .int) ∈ wsL_law := inR44 (List.mem_of_getElem? (i := 0) rfl)
theorem u_605 : Cond.instanceMethod yX5_digit ∈ wsL_law := inR43 (List.mem_of_getElem? (i := 22) rfl)
theorem u_606 : Cond.selects RX5 yX5_digit yX5_digit ∈ wsL_law := inR43 (List.mem_of_getElem? (i := 23) rfl)
theorem u_607 : Cond.code yX5_add cX5_add 4 none ∈ wsL_law := inR37 (List.mem_of_getElem? (i := 11) rfl)
theorem u_608 : Cond.instanceMethod yX5_add ∈ wsL_law := inR37 (List.mem_of_getElem? (i := 9) rfl)
theorem u_609 : Cond.selects RX5 yX5_add yX5_add ∈ wsL_law := inR37 (List.mem_of_getElem? (i := 10) rfl)
theorem u_610 : Cond.code yX5_multiply cX5_multiply 9 none ∈ wsL_law := inR37 (List.mem_of_getElem? (i := 7) rfl)
theorem u_611 : Cond.instanceMethod yX5_multiply ∈ wsL_law := inR37 (List.mem_of_getElem? (i := 5) rfl)
theorem u_612 : Cond.selects RX5 yX5_multiply yX5_multiply ∈ wsL_law := inR37 (List.mem_of_getElem? (i := 6) rfl)
theorem u_613 : Cond.code yX5_mix cX5_mix 6 (some .long) ∈ wsL_law := inR46 (List.mem_of_getElem? (i := 14) rfl)
theorem u_614 : Cond.instanceMethod yX5_mix ∈ wsL_law := inR46 (List.mem_of_getElem? (i := 12) rfl)
theorem u_615 : Cond.selects RX5 yX5_mix yX5_mix ∈ wsL_law := inR46 (List.mem_of_getElem? (i := 13) rfl)
theorem u_616 : Cond.code yX6_told cX6_told 2 (some .int) ∈ wsL_law := inR8 (List.mem_of_getElem? (i := 5) rfl)
theorem u_617 : Cond.instanceMethod yX6_told ∈ wsL_law := inR8 (List.mem_of_getElem? (i := 3) rfl)
theorem u_618 : Cond.selects RX6 yX6_told yX6_told ∈ wsL_law := inR8 (List.mem_of_getElem? (i := 4) rfl)
theorem u_619 : Cond.code yX6_stuff cX6_stuff 5 (some .int) ∈ wsL_law := inR7 (List.mem_of_getElem? (i := 19) rfl)
theorem u_620 : Cond.instanceMethod yX6_stuff ∈ wsL_law := inR7 (List.mem_of_getElem? (i := 17) rfl)
theorem u_621 : Cond.selects RX6 yX6_stuff yX6_stuff ∈ wsL_law := inR7 (List.mem_of_getElem? (i := 18) rfl)
theorem u_622 : Cond.code yX6_put cX6_put 3 (some .int) ∈ wsL_law := inR9 (List.mem_of_getElem? (i := 8) rfl)
theorem u_623 : Cond.instanceMethod yX6_put ∈ wsL_law := inR9 (List.mem_of_getElem? (i := 6) rfl)
theorem u_624 : Cond.selects RX6 yX6_put yX6_put ∈ wsL_law := inR9 (List.mem_of_getElem? (i := 7) rfl)
theorem u_625 : Cond.code yX6_habit cX6_habit 3 (some .int) ∈ wsL_law := inR10 (List.mem_of_getElem? (i := 4) rfl)
theorem u_626 : Cond.instanceMethod yX6_habit ∈ wsL_law := inR10 (List.mem_of_getElem? (i := 2) rfl)
theorem u_627 : Cond.selects RX6 yX6_habit yX6_habit ∈ wsL_law := inR10 (List.mem_of_getElem? (i := 3) rfl)
theorem u_628 : Cond.code yX6_trace cX6_trace 4 (some .int) ∈ wsL_law := inR10 (List.mem_of_getElem? (i := 17) rfl)
theorem u_629 : Cond.instanceMethod yX6_trace ∈ wsL_law := inR10 (List.mem_of_getElem? (i := 15) rfl)
theorem u_630 : Cond.selects RX6 yX6_trace yX6_trace ∈ wsL_law := inR10 (List.mem_of_getElem? (i := 16) rfl)
theorem u_631 : Cond.code yX6_aside cX6_aside 3 (some .int) ∈ wsL_law := inR12 (List.mem_of_getElem? (i := 5) rfl)
theorem u_632 : Cond.instanceMethod yX6_aside ∈ wsL_law := inR12 (List.mem_of_getElem? (i := 3) rfl)
theorem u_633 : Cond.selects RX6 yX6_aside yX6_aside ∈ wsL_law := inR12 (List.mem_of_getElem? (i := 4) rfl)
theorem u_634 : Cond.code yX6_copy cX6_copy 4 (some .int) ∈ wsL_law := inR13 (List.mem_of_getElem? (i := 1) rfl)
theorem u_635 : Cond.instanceMethod yX6_copy ∈ wsL_law := inR12 (List.mem_of_getElem? (i := 23) rfl)
theorem u_636 : Cond.selects RX6 yX6_copy yX6_copy ∈ wsL_law := inR13 (List.mem_of_getElem? (i := 0) rfl)
theorem u_637 : Cond.code yX6_type cX6_type 4 (some .int) ∈ wsL_law := inR13 (List.mem_of_getElem? (i := 13) rfl)
theorem u_638 : Cond.instanceMethod yX6_type ∈ wsL_law := inR13 (List.mem_of_getElem? (i := 11) rfl)
theorem u_639 : Cond.selects RX6 yX6_type yX6_type ∈ wsL_law := inR13 (List.mem_of_getElem? (i := 12) rfl)
theorem u_640 : Cond.code yX6_clear cX6_clear 1 (some .int) ∈ wsL_law := inR14 (List.mem_of_getElem? (i := 5) rfl)
theorem u_641 : Cond.instanceMethod yX6_clear ∈ wsL_law := inR14 (List.mem_of_getElem? (i := 3) rfl)
theorem u_642 : Cond.selects RX6 yX6_clear yX6_clear ∈ wsL_law := inR14 (List.mem_of_getElem? (i := 4) rfl)
theorem u_643 : Cond.code yX6_statue cX6_statue 2 (some .int) ∈ wsL_law := inR14 (List.mem_of_getElem? (i := 17) rfl)
theorem u_644 : Cond.instanceMethod yX6_statue ∈ wsL_law := inR14 (List.mem_of_getElem? (i := 15) rfl)
theorem u_645 : Cond.selects RX6 yX6_statue yX6_statue ∈ wsL_law := inR14 (List.mem_of_getElem? (i := 16) rfl)
theorem u_646 : Cond.code yX6_left cX6_left 5 (some .int) ∈ wsL_law := inR21 (List.mem_of_getElem? (i := 11) rfl)
theorem u_647 : Cond.instanceMethod yX6_left ∈ wsL_law := inR21 (List.mem_of_getElem? (i := 9) rfl)
theorem u_648 : Cond.selects RX6 yX6_left yX6_left ∈ wsL_law := inR21 (List.mem_of_getElem? (i := 10) rfl)
theorem u_649 : Cond.code yX6_shines cX6_shines 4 (some .int) ∈ wsL_law := inR24 (List.mem_of_getElem? (i := 13) rfl)
theorem u_650 : Cond.instanceMethod yX6_shines ∈ wsL_law := inR24 (List.mem_of_getElem? (i := 11) rfl)
theorem u_651 : Cond.selects RX6 yX6_shines yX6_shines ∈ wsL_law := inR24 (List.mem_of_getElem? (i := 12) rfl)
theorem u_652 : Cond.code yX6_lookAt cX6_lookAt 3 none ∈ wsL_law := inR25 (List.mem_of_getElem? (i := 15) rfl)
theorem u_653 : Cond.instanceMethod yX6_lookAt ∈ wsL_law := inR25 (List.mem_of_getElem? (i := 13) rfl)
theorem u_654 : Cond.selects RX6 yX6_lookAt yX6_lookAt ∈ wsL_law := inR25 (List.mem_of_getElem? (i := 14) rfl)
theorem u_655 : Cond.code yX6_fits cX6_fits 3 (some .int) ∈ wsL_law := inR25 (List.mem_of_getElem? (i := 11) rfl)
theorem u_656 : Cond.instanceMethod yX6_fits ∈ wsL_law := inR25 (List.mem_of_getElem? (i := 9) rfl)
theorem u_657 : Cond.selects RX6 yX6_fits yX6_fits ∈ wsL_law := inR25 (List.mem_of_getElem? (i := 10) rfl)
theorem u_658 : Cond.code yX6_reckonAround cX6_reckonAround 2 (some .boolean) ∈ wsL_law := inR28 (List.mem_of_getElem? (i := 14) rfl)
theorem u_659 : Cond.instanceMethod yX6_reckonAround ∈ wsL_law := inR28 (List.mem_of_getElem? (i := 12) rfl)
theorem u_660 : Cond.selects RX6 yX6_reckonAround yX6_reckonAround ∈ wsL_law := inR28 (List.mem_of_getElem? (i := 13) rfl)
theorem u_661 : Cond.code yX6_odds cX6_odds 3 (some .int) ∈ wsL_law := inR28 (List.mem_of_getElem? (i := 9) rfl)
theorem u_662 : Cond.instanceMethod yX6_odds ∈ wsL_law := inR28 (List.mem_of_getElem? (i := 7) rfl)
theorem u_663 : Cond.selects RX6 yX6_odds yX6_odds ∈ wsL_law := inR28 (List.mem_of_getElem? (i := 8) rfl)
theorem u_664 : Cond.code yX6_above cX6_above 5 (some .int) ∈ wsL_law := inR35 (List.mem_of_getElem? (i := 3) rfl)
theorem u_665 : Cond.instanceMethod yX6_above ∈ wsL_law := inR35 (List.mem_of_getElem? (i := 1) rfl)
theorem u_666 : Cond.selects RX6 yX6_above yX6_above ∈ wsL_law := inR35 (List.mem_of_getElem? (i := 2) rfl)
theorem u_667 : Cond.code yX6_isHem cX6_isHem 1 (some .boolean) ∈ wsL_law := inR35 (List.mem_of_getElem? (i := 15) rfl)
theorem u_668 : Cond.static yX6_isHem ∈ wsL_law := inR35 (List.mem_of_getElem? (i := 14) rfl)
theorem u_669 : Cond.code yX6_likeliest cX6_likeliest 3 (some .int) ∈ wsL_law := inR35 (List.mem_of_getElem? (i := 12) rfl)
theorem u_670 : Cond.instanceMethod yX6_likeliest ∈ wsL_law := inR35 (List.mem_of_getElem? (i := 10) rfl)
theorem u_671 : Cond.selects RX6 yX6_likeliest yX6_likeliest ∈ wsL_law := inR35 (List.mem_of_getElem? (i := 11) rfl)
theorem u_672 : Cond.code yX6_multiplyHems cX6_multiplyHems 3 none ∈ wsL_law := inR37 (List.mem_of_getElem? (i := 1) rfl)
theorem u_673 : Cond.instanceMethod yX6_multiplyHems ∈ wsL_law := inR36 (List.mem_of_getElem? (i := 23) rfl)
theorem u_674 : Cond.selects RX6 yX6_multiplyHems yX6_multiplyHems ∈ wsL_law := inR37 (List.mem_of_getElem? (i := 0) rfl)
theorem u_675 : Cond.code yX6_stood cX6_stood 3 (some .int) ∈ wsL_law := inR36 (List.mem_of_getElem? (i := 20) rfl)
theorem u_676 : Cond.instanceMethod yX6_stood ∈ wsL_law := inR36 (List.mem_of_getElem? (i := 18) rfl)
theorem u_677 : Cond.selects RX6 yX6_stood yX6_stood ∈ wsL_law := inR36 (List.mem_of_getElem? (i := 19) rfl)
theorem u_678 : Cond.code yX6_allHemsCanBe cX6_allHemsCanBe 3 (some .boolean) ∈ wsL_law := inR38 (List.mem_of_getElem? (i := 6) rfl)
theorem u_679 : Cond.instanceMethod yX6_allHemsCanBe ∈ wsL_law := inR38 (List.mem_of_getElem? (i := 4) rfl)
theorem u_680 : Cond.selects RX6 yX6_allHemsCanBe yX6_allHemsCanBe ∈ wsL_law := inR38 (List.mem_of_getElem? (i := 5) rfl)
theorem u_681 : Cond.code yX6_span cX6_span 5 (some .int) ∈ wsL_law := inR38 (List.mem_of_getElem? (i := 0) rfl)
theorem u_682 : Cond.instanceMethod yX6_span ∈ wsL_law := inR37 (List.mem_of_getElem? (i := 22) rfl)
theorem u_683 : Cond.selects RX6 yX6_span yX6_span ∈ wsL_law := inR37 (List.mem_of_getElem? (i := 23) rfl)
theorem u_684 : Cond.code yX6_later cX6_later 2 (some .int) ∈ wsL_law := inR38 (List.mem_of_getElem? (i := 18) rfl)
theorem u_685 : Cond.instanceMethod yX6_later ∈ wsL_law := inR38 (List.mem_of_getElem? (i := 16) rfl)
theorem u_686 : Cond.selects RX6 yX6_later yX6_later ∈ wsL_law := inR38 (List.mem_of_getElem? (i := 17) rfl)
theorem u_687 : Cond.code yX6_highBits cX6_highBits 10 (some .long) ∈ wsL_law := inR40 (List.mem_of_getElem? (i := 18) rfl)
theorem u_688 : Cond.static yX6_highBits ∈ wsL_law := inR40 (List.mem_of_getElem? (i := 17) rfl)
theorem u_689 : Cond.code yX6_isLess_ cX6_isLess_ 12 (some .boolean) ∈ wsL_law := inR40 (List.mem_of_getElem? (i := 15) rfl)
theorem u_690 : Cond.static yX6_isLess_ ∈ wsL_law := inR40 (List.mem_of_getElem? (i := 14) rfl)
theorem u_691 : Cond.code yX6_next cX6_next 7 (some .int) ∈ wsL_law := inR39 (List.mem_of_getElem? (i := 19) rfl)
theorem u_692 : Cond.instanceMethod yX6_next ∈ wsL_law := inR39 (List.mem_of_getElem? (i := 17) rfl)
theorem u_693 : Cond.selects RX6 yX6_next yX6_next ∈ wsL_law := inR39 (List.mem_of_getElem? (i := 18) rfl)
theorem u_694 : Cond.code yX6_restsOn cX6_restsOn 5 (some .int) ∈ wsL_law := inR41 (List.mem_of_getElem? (i := 8) rfl)
theorem u_695 : Cond.instanceMethod yX6_restsOn ∈ wsL_law := inR41 (List.mem_of_getElem? (i := 6) rfl)
theorem u_696 : Cond.selects RX6 yX6_restsOn yX6_restsOn ∈ wsL_law := inR41 (List.mem_of_getElem? (i := 7) rfl)
theorem u_697 : Cond.code yX6_rests cX6_rests 2 (some .int) ∈ wsL_law := inR41 (List.mem_of_getElem? (i := 4) rfl)
theorem u_698 : Cond.instanceMethod yX6_rests ∈ wsL_law := inR41 (List.mem_of_getElem? (i := 2) rfl)
theorem u_699 : Cond.selects RX6 yX6_rests yX6_rests ∈ wsL_law := inR41 (List.mem_of_getElem? (i := 3) rfl)
theorem u_700 : Cond.code yX6_resting cX6_resting 5 (some .int) ∈ wsL_law := inR42 (List.mem_of_getElem? (i := 4) rfl)
theorem u_701 : Cond.instanceMethod yX6_resting ∈ wsL_law := inR42 (List.mem_of_getElem? (i := 2) rfl)
theorem u_702 : Cond.selects RX6 yX6_resting yX6_resting ∈ wsL_law := inR42 (List.mem_of_getElem? (i := 3) rfl)
theorem u_703 : Cond.code yX6_meanBright cX6_meanBright 3 (some .int) ∈ wsL_law := inR42 (List.mem_of_getElem? (i := 16) rfl)
theorem u_704 : Cond.instanceMethod yX6_meanBright ∈ wsL_law := inR42 (List.mem_of_getElem? (i := 14) rfl)
theorem u_705 : Cond.selects RX6 yX6_meanBright yX6_meanBright ∈ wsL_law := inR42 (List.mem_of_getElem? (i := 15) rfl)
theorem u_706 : Cond.code yX6_farthestBright cX6_farthestBright 6 (some .int) ∈ wsL_law := inR43 (List.mem_of_getElem? (i := 1) rfl)
theorem u_707 : Cond.instanceMethod yX6_farthestBright ∈ wsL_law := inR42 (List.mem_of_getElem? (i := 23) rfl)
theorem u_708 : Cond.selects RX6 yX6_farthestBright yX6_farthestBright ∈ wsL_law := inR43 (List.mem_of_getElem? (i := 0) rfl)
theorem u_709 : Cond.code yX6_bright cX6_bright 3 (some .int) ∈ wsL_law := inR42 (List.mem_of_getElem? (i := 12) rfl)
theorem u_710 : Cond.instanceMethod yX6_bright ∈ wsL_law := inR42 (List.mem_of_getElem? (i := 10) rfl)
theorem u_711 : Cond.selects RX6 yX6_bright yX6_bright ∈ wsL_law := inR42 (List.mem_of_getElem? (i := 11) rfl)
theorem u_712 : Cond.code yX6_sign cX6_sign 2 (some .int) ∈ wsL_law := inR43 (List.mem_of_getElem? (i := 9) rfl)
theorem u_713 : Cond.instanceMethod yX6_sign ∈ wsL_law := inR43 (List.mem_of_getElem? (i := 7) rfl)
theorem u_714 : Cond.selects RX6 yX6_sign yX6_sign ∈ wsL_law := inR43 (List.mem_of_getElem? (i := 8) rfl)
theorem u_715 : Cond.code yX6_limb cX6_limb 3 (some .int) ∈ wsL_law := inR43 (List.mem_of_getElem? (i := 20) rfl)
theorem u_716 : Cond.instanceMethod yX6_limb ∈ wsL_law := inR43 (List.mem_of_getElem? (i := 18) rfl)
theorem u_717 : Cond.selects RX6 yX6_limb yX6_limb ∈ wsL_law := inR43 (List.mem_of_getElem? (i := 19) rfl)
theorem u_718 : Cond.code yX6_image cX6_image 2 (some .int) ∈ wsL_law := inR44 (List.mem_of_getElem? (i := 8) rfl)
theorem u_719 : Cond.instanceMethod yX6_image ∈ wsL_law := inR44 (List.mem_of_getElem? (i := 6) rfl)
theorem u_720 : Cond.selects RX6 yX6_image yX6_image ∈ wsL_law := inR44 (List.mem_of_getElem? (i := 7) rfl)
theorem u_721 : Cond.code yX6_from cX6_from 2 (some .int) ∈ wsL_law := inR44 (List.mem_of_getElem? (i := 16) rfl)
theorem u_722 : Cond.instanceMethod yX6_from ∈ wsL_law := inR44 (List.mem_of_getElem? (i := 14) rfl)
theorem u_723 : Cond.selects RX6 yX6_from yX6_from ∈ wsL_law := inR44 (List.mem_of_getElem? (i := 15) rfl)
theorem u_724 : Cond.code yX6_status cX6_status 2 (some .int) ∈ wsL_law := inR45 (List.mem_of_getElem? (i := 0) rfl)
theorem u_725 : Cond.instanceMethod yX6_status ∈ wsL_law := inR44 (List.mem_of_getElem? (i := 22) rfl)
theorem u_726 : Cond.selects RX6 yX6_status yX6_status ∈ wsL_law := inR44 (List.mem_of_getElem? (i := 23) rfl)
theorem u_727 : Cond.code yX6_count cX6_count 2 (some .int) ∈ wsL_law := inR45 (List.mem_of_getElem? (i := 8) rfl)
theorem u_728 : Cond.instanceMethod yX6_count ∈ wsL_law := inR45 (List.mem_of_getElem? (i := 6) rfl)
theorem u_729 : Cond.selects RX6 yX6_count yX6_count ∈ wsL_law := inR45 (List.mem_of_getElem? (i := 7) rfl)
theorem u_730 : Cond.code yX6_digest cX6_digest 3 (some .long) ∈ wsL_law := inR46 (List.mem_of_getElem? (i := 3) rfl)
theorem u_731 : Cond.instanceMethod yX6_digest ∈ wsL_law := inR46 (List.mem_of_getElem? (i := 1) rfl)
theorem u_732 : Cond.selects RX6 yX6_digest yX6_digest ∈ wsL_law := inR46 (List.mem_of_getElem? (i := 2) rfl)
theorem u_733 : Cond.code yX7_in cX7_in 6 (some .boolean) ∈ wsL_law := inR8 (List.mem_of_getElem? (i := 15) rfl)
theorem u_734 : Cond.initialized RX7 ∈ wsL_law := inR1 (List.mem_of_getElem? (i := 5) rfl)
theorem u_735 : Cond.static yX7_in ∈ wsL_law := inR8 (List.mem_of_getElem? (i := 14) rfl)
theorem u_736 : Cond.code yX7_begins cX7_begins 2 none ∈ wsL_law := inR7 (List.mem_of_getElem? (i := 6) rfl)
theorem u_737 : Cond.instanceMethod yX7_begins ∈ wsL_law := inR7 (List.mem_of_getElem? (i := 4) rfl)
theorem u_738 : Cond.selects RX7 yX7_begins yX7_begins ∈ wsL_law := inR7 (List.mem_of_getElem? (i := 5) rfl)
theorem u_739 : Cond.code yX7_refuses cX7_refuses 3 (some .int) ∈ wsL_law := inR8 (List.mem_of_getElem? (i := 23) rfl)
theorem u_740 : Cond.instanceMethod yX7_refuses ∈ wsL_law := inR8 (List.mem_of_getElem? (i := 21) rfl)
theorem u_741 : Cond.selects RX7 yX7_refuses yX7_refuses ∈ wsL_law := inR8 (List.mem_of_getElem? (i := 22) rfl)
theorem u_742 : Cond.code yX7_bad cX7_bad 1 (some .int) ∈ wsL_law := inR8 (List.mem_of_getElem? (i := 19) rfl)
theorem u_743 : Cond.instanceMethod yX7_bad ∈ wsL_law := inR8 (List.mem_of_getElem? (i := 17) rfl)
theorem u_744 : Cond.selects RX7 yX7_bad yX7_bad ∈ wsL_law := inR8 (List.mem_of_getElem? (i := 18) rfl)
theorem u_745 : Cond.code yX7_no cX7_no 1 (some .int) ∈ wsL_law := inR12 (List.mem_of_getElem? (i := 21) rfl)
theorem u_746 : Cond.instanceMethod yX7_no ∈ wsL_law := inR12 (List.mem_of_getElem? (i := 19) rfl)
theorem u_747 : Cond.selects RX7 yX7_no yX7_no ∈ wsL_law := inR12 (List.mem_of_getElem? (i := 20) rfl)
theorem u_748 : Cond.code yX7_full cX7_full 1 (some .int) ∈ wsL_law := inR9 (List.mem_of_getElem? (i := 4) rfl)
theorem u_749 : Cond.instanceMethod yX7_full ∈ wsL_law := inR9 (List.mem_of_getElem? (i := 2) rfl)
theorem u_750 : Cond.selects RX7 yX7_full yX7_full ∈ wsL_law := inR9 (List.mem_of_getElem? (i := 3) rfl)
theorem u_751 : Cond.code yX7_trims cX7_trims 2 none ∈ wsL_law := inR7 (List.mem_of_getElem? (i := 15) rfl)
theorem u_752 : Cond.instanceMethod yX7_trims ∈ wsL_law := inR7 (List.mem_of_getElem? (i := 13) rfl)
theorem u_753 : Cond.selects RX7 yX7_trims yX7_trims ∈ wsL_law := inR7 (List.mem_of_getElem? (i := 14) rfl)
theorem u_754 : Cond.code yX7_sets cX7_sets 5 none ∈ wsL_law := inR7 (List.mem_of_getElem? (i := 10) rfl)
theorem u_755 : Cond.instanceMethod yX7_sets ∈ wsL_law := inR7 (List.mem_of_getElem? (i := 8) rfl)
theorem u_756 : Cond.selects RX7 yX7_sets yX7_sets ∈ wsL_law := inR7 (List.mem_of_getElem? (i := 9) rfl)
theorem u_757 : Cond.code yX7_copies cX7_copies 4 none ∈ wsL_law := inR32 (List.mem_of_getElem? (i := 22) rfl)
theorem u_758 : Cond.instanceMethod yX7_copies ∈ wsL_law := inR32 (List.mem_of_getElem? (i := 20) rfl)
theorem u_759 : Cond.selects RX7 yX7_copies yX7_copies ∈ wsL_law := inR32 (List.mem_of_getElem? (i := 21) rfl)
theorem u_760 : Cond.code yX7_times cX7_times 8 none ∈ wsL_law := inR33 (List.mem_of_getElem? (i := 2) rfl)
theorem u_761 : Cond.instanceMethod yX7_times ∈ wsL_law := inR33 (List.mem_of_getElem? (i := 0) rfl)
theorem u_762 : Cond.selects RX7 yX7_times yX7_times ∈ wsL_law := inR33 (List.mem_of_getElem? (i := 1) rfl)
theorem u_763 : Cond.code yX7_multiplies cX7_multiplies 11 none ∈ wsL_law := inR33 (List.mem_of_getElem? (i := 23) rfl)
theorem u_764 : Cond.instanceMethod yX7_multiplies ∈ wsL_law := inR33 (List.mem_of_getElem? (i := 21) rfl)
theorem u_765 : Cond.selects RX7 yX7_multiplies yX7_multiplies ∈ wsL_law := inR33 (List.mem_of_getElem? (i := 22) rfl)
theorem u_766 : Cond.code yX7_adds cX7_adds 7 none ∈ wsL_law := inR33 (List.mem_of_getElem? (i := 6) rfl)
theorem u_767 : Cond.instanceMethod yX7_adds ∈ wsL_law := inR33 (List.mem_of_getElem? (i := 4) rfl)
theorem u_768 : Cond.selects RX7 yX7_adds yX7_adds ∈ wsL_law := inR33 (List.mem_of_getElem? (i := 5) rfl)
theorem u_769 : Cond.code yX7_lessens cX7_lessens 6 none ∈ wsL_law := inR34 (List.mem_of_getElem? (i := 19) rfl)
theorem u_770 : Cond.instanceMethod yX7_lessens ∈ wsL_law := inR34 (List.mem_of_getElem? (i := 17) rfl)
theorem u_771 : Cond.selects RX7 yX7_lessens yX7_lessens ∈ wsL_law := inR34 (List.mem_of_getElem? (i := 18) rfl)
theorem u_772 : Cond.code yX7_against cX7_against 4 (some .int) ∈ wsL_law := inR33 (List.mem_of_getElem? (i := 15) rfl)
theorem u_773 : Cond.instanceMethod yX7_against ∈ wsL_law := inR33 (List.mem_of_getElem? (i := 13) rfl)
theorem u_774 : Cond.selects RX7 yX7_against yX7_against ∈ wsL_law := inR33 (List.mem_of_getElem? (i := 14) rfl)
theorem u_775 : Cond.code yX7_isEven cX7_isEven 2 (some .boolean) ∈ wsL_law := inR34 (List.mem_of_getElem? (i := 11) rfl)
theorem u_776 : Cond.instanceMethod yX7_isEven ∈ wsL_law := inR34 (List.mem_of_getElem? (i := 9) rfl)
theorem u_777 : Cond.selects RX7 yX7_isEven yX7_isEven ∈ wsL_law := inR34 (List.mem_of_getElem? (i := 10) rfl)
theorem u_778 : Cond.code yX7_halves cX7_halves 4 none ∈ wsL_law := inR34 (List.mem_of_getElem? (i := 15) rfl)
theorem u_779 : Cond.instanceMethod yX7_halves ∈ wsL_law := inR34 (List.mem_of_getElem? (i := 13) rfl)
theorem u_780 : Cond.selects RX7 yX7_halves yX7_halves ∈ wsL_law := inR34 (List.mem_of_getElem? (i := 14) rfl)
theorem u_781 : Cond.code yX7_parts cX7_parts 13 none ∈ wsL_law := inR34 (List.mem_of_getElem? (i := 23) rfl)
theorem u_782 : Cond.instanceMethod yX7_parts ∈ wsL_law := inR34 (List.mem_of_getElem? (i := 21) rfl)
theorem u_783 : Cond.selects RX7 yX7_parts yX7_parts ∈ wsL_law := inR34 (List.mem_of_getElem? (i := 22) rfl)
theorem u_784 : Cond.code yX7_lowers cX7_lowers 2 none ∈ wsL_law := inR34 (List.mem_of_getElem? (i := 7) rfl)
theorem u_785 : Cond.instanceMethod yX7_lowers ∈ wsL_law := inR34 (List.mem_of_getElem? (i := 5) rfl)
theorem u_786 : Cond.selects RX7 yX7_lowers yX7_lowers ∈ wsL_law := inR34 (List.mem_of_getElem? (i := 6) rfl)
theorem u_787 : Cond.code yX7_sign cX7_sign 2 (some .int) ∈ wsL_law := inR43 (List.mem_of_getElem? (i := 16) rfl)
theorem u_788 : Cond.instanceMethod yX7_sign ∈ wsL_law := inR43 (List.mem_of_getElem? (i := 14) rfl)
theorem u_789 : Cond.selects RX7 yX7_sign yX7_sign ∈ wsL_law := inR43 (List.mem_of_getElem? (i := 15) rfl)
theorem u_790 : Cond.code yX7_limb cX7_limb 3 (some .int) ∈ wsL_law := inR44 (List.mem_of_getElem? (i := 4) rfl)
theorem u_791 : Cond.instanceMethod yX7_limb ∈ wsL_law := inR44 (List.mem_of_getElem? (i := 2) rfl)
theorem u_792 : Cond.selects RX7 yX7_limb yX7_limb ∈ wsL_law := inR44 (List.mem_of_getElem? (i := 3) rfl)
theorem u_793 : Cond.code yX7_puts cX7_puts 4 (some .int) ∈ wsL_law := inR10 (List.mem_of_getElem? (i := 0) rfl)
theorem u_794 : Cond.instanceMethod yX7_puts ∈ wsL_law := inR9 (List.mem_of_getElem? (i := 22) rfl)
theorem u_795 : Cond.selects RX7 yX7_puts yX7_puts ∈ wsL_law := inR9 (List.mem_of_getElem? (i := 23) rfl)
theorem u_796 : Cond.code yX7_isCell cX7_isCell 1 (some .boolean) ∈ wsL_law := inR11 (List.mem_of_getElem? (i := 15) rfl)
theorem u_797 : Cond.static yX7_isCell ∈ wsL_law := inR11 (List.mem_of_getElem? (i := 14) rfl)
theorem u_798 : Cond.code yX7_isStuff cX7_isStuff 2 (some .boolean) ∈ wsL_law := inR12 (List.mem_of_getElem? (i := 1) rfl)
theorem u_799 : Cond.instanceMethod yX7_isStuff ∈ wsL_law := inR11 (List.mem_of_getElem? (i := 23) rfl)
theorem u_800 : Cond.selects RX7 yX7_isStuff yX7_isStuff ∈ wsL_law := inR12 (List.mem_of_getElem? (i := 0) rfl)
theorem u_801 : Cond.code yX7_ofStuff cX7_ofStuff 3 (some .int) ∈ wsL_law := inR24 (List.mem_of_getElem? (i := 5) rfl)
theorem u_802 : Cond.instanceMethod yX7_ofStuff ∈ wsL_law := inR24 (List.mem_of_getElem? (i := 3) rfl)
theorem u_803 : Cond.selects RX7 yX7_ofStuff yX7_ofStuff ∈ wsL_law := inR24 (List.mem_of_getElem? (i := 4) rfl)
theorem u_804 : Cond.code yX7_stuff cX7_stuff 6 (some .int) ∈ wsL_law := inR8 (List.mem_of_getElem? (i := 9) rfl)
theorem u_805 : Cond.instanceMethod yX7_stuff ∈ wsL_law := inR8 (List.mem_of_getElem? (i := 7) rfl)
theorem u_806 : Cond.selects RX7 yX7_stuff yX7_stuff ∈ wsL_law := inR8 (List.mem_of_getElem? (i := 8) rfl)
theorem u_807 : Cond.code yX7_put cX7_put 4 (some .int) ∈ wsL_law := inR9 (List.mem_of_getElem? (i := 18) rfl)
theorem u_808 : Cond.instanceMethod yX7_put ∈ wsL_law := inR9 (List.mem_of_getElem? (i := 16) rfl)
theorem u_809 : Cond.selects RX7 yX7_put yX7_put ∈ wsL_law := inR9 (List.mem_of_getElem? (i := 17) rfl)
theorem u_810 : Cond.code yX7_habit cX7_habit 3 (some .int) ∈ wsL_law := inR10 (List.mem_of_getElem? (i := 12) rfl)
theorem u_811 : Cond.instanceMethod yX7_habit ∈ wsL_law := inR10 (List.mem_of_getElem? (i := 10) rfl)
theorem u_812 : Cond.selects RX7 yX7_habit yX7_habit ∈ wsL_law := inR10 (List.mem_of_getElem? (i := 11) rfl)
theorem u_813 : Cond.code yX7_isTrace cX7_isTrace 4 (some .boolean) ∈ wsL_law := inR11 (List.mem_of_getElem? (i := 20) rfl)
theorem u_814 : Cond.instanceMethod yX7_isTrace ∈ wsL_law := inR11 (List.mem_of_getElem? (i := 18) rfl)
theorem u_815 : Cond.selects RX7 yX7_isTrace yX7_isTrace ∈ wsL_law := inR11 (List.mem_of_getElem? (i := 19) rfl)
theorem u_816 : Cond.code yX7_trace cX7_trace 5 (some .int) ∈ wsL_law := inR11 (List.mem_of_getElem? (i := 12) rfl)
theorem u_817 : Cond.instanceMethod yX7_trace ∈ wsL_law := inR11 (List.mem_of_getElem? (i := 10) rfl)
theorem u_818 : Cond.selects RX7 yX7_trace yX7_trace ∈ wsL_law := inR11 (List.mem_of_getElem? (i := 11) rfl)
theorem u_819 : Cond.code yX7_ofTrace cX7_ofTrace 3 (some .int) ∈ wsL_law := inR12 (List.mem_of_getElem? (i := 17) rfl)
theorem u_820 : Cond.instanceMethod yX7_ofTrace ∈ wsL_law := inR12 (List.mem_of_getElem? (i := 15) rfl)
theorem u_821 : Cond.selects RX7 yX7_ofTrace yX7_ofTrace ∈ wsL_law := inR12 (List.mem_of_getElem? (i := 16) rfl)
theorem u_822 : Cond.code yX7_aside cX7_aside 3 (some .int) ∈ wsL_law := inR12 (List.mem_of_getElem? (i := 13) rfl)
theorem u_823 : Cond.instanceMethod yX7_aside ∈ wsL_law := inR12 (List.mem_of_getElem? (i := 11) rfl)
theorem u_824 : Cond.selects RX7 yX7_aside yX7_aside ∈ wsL_law := inR12 (List.mem_of_getElem? (i := 12) rfl)
theorem u_825 : Cond.code yX7_copy cX7_copy 3 (some .int) ∈ wsL_law := inR13 (List.mem_of_getElem? (i := 9) rfl)
theorem u_826 : Cond.instanceMethod yX7_copy ∈ wsL_law := inR13 (List.mem_of_getElem? (i := 7) rfl)
theorem u_827 : Cond.selects RX7 yX7_copy yX7_copy ∈ wsL_law := inR13 (List.mem_of_getElem? (i := 8) rfl)
theorem u_828 : Cond.code yX7_type cX7_type 5 (some .int) ∈ wsL_law := inR13 (List.mem_of_getElem? (i := 22) rfl)
theorem u_829 : Cond.instanceMethod yX7_type ∈ wsL_law := inR13 (List.mem_of_getElem? (i := 20) rfl)
theorem u_830 : Cond.selects RX7 yX7_type yX7_type ∈ wsL_law := inR13 (List.mem_of_getElem? (i := 21) rfl)
theorem u_831 : Cond.code yX7_clear cX7_clear 2 (some .int) ∈ wsL_law := inR14 (List.mem_of_getElem? (i := 13) rfl)
theorem u_832 : Cond.instanceMethod yX7_clear ∈ wsL_law := inR14 (List.mem_of_getElem? (i := 11) rfl)
theorem u_833 : Cond.selects RX7 yX7_clear yX7_clear ∈ wsL_law := inR14 (List.mem_of_getElem? (i := 12) rfl)
theorem u_834 : Cond.code yX7_isAt cX7_isAt 3 (some .boolean) ∈ wsL_law := inR20 (List.mem_of_getElem? (i := 2) rfl)
theorem u_835 : Cond.instanceMethod yX7_isAt ∈ wsL_law := inR20 (List.mem_of_getElem? (i := 0) rfl)
theorem u_836 : Cond.selects RX7 yX7_isAt yX7_isAt ∈ wsL_law := inR20 (List.mem_of_getElem? (i := 1) rfl)
theorem u_837 : Cond.code yX7_wordOf cX7_wordOf 4 (some .int) ∈ wsL_law := inR20 (List.mem_of_getElem? (i := 5) rfl)
theorem u_838 : Cond.static yX7_wordOf ∈ wsL_law := inR20 (List.mem_of_getElem? (i := 4) rfl)
theorem u_839 : Cond.code yX7_scans cX7_scans 3 none ∈ wsL_law := inR19 (List.mem_of_getElem? (i := 20) rfl)
theorem u_840 : Cond.instanceMethod yX7_scans ∈ wsL_law := inR19 (List.mem_of_getElem? (i := 18) rfl)
theorem u_841 : Cond.selects RX7 yX7_scans yX7_scans ∈ wsL_law := inR19 (List.mem_of_getElem? (i := 19) rfl)
theorem u_842 : Cond.code yX7_numbers cX7_numbers 1 (some .int) ∈ wsL_law := inR20 (List.mem_of_getElem? (i := 22) rfl)
theorem u_843 : Cond.static yX7_numbers ∈ wsL_law := inR20 (List.mem_of_getElem? (i := 21) rfl)
theorem u_844 : Cond.code yX7_reads cX7_reads 3 (some .boolean) ∈ wsL_law := inR19 (List.mem_of_getElem? (i := 13) rfl)
theorem u_845 : Cond.instanceMethod yX7_reads ∈ wsL_law := inR19 (List.mem_of_getElem? (i := 11) rfl)
theorem u_846 : Cond.selects RX7 yX7_reads yX7_reads ∈ wsL_law := inR19 (List.mem_of_getElem? (i := 12) rfl)
theorem u_847 : Cond.code yX7_tellsItem cX7_tellsItem 4 (some .boolean) ∈ wsL_law := inR21 (List.mem_of_getElem? (i := 2) rfl)
theorem u_848 : Cond.instanceMethod yX7_tellsItem ∈ wsL_law := inR21 (List.mem_of_getElem? (i := 0) rfl)
theorem u_849 : Cond.selects RX7 yX7_tellsItem yX7_tellsItem ∈ wsL_law := inR21 (List.mem_of_getElem? (i := 1) rfl)
theorem u_850 : Cond.code yX7_statue cX7_statue 3 (some .int) ∈ wsL_law := inR19 (List.mem_of_getElem? (i := 7) rfl)
theorem u_851 : Cond.instanceMethod yX7_statue ∈ wsL_law := inR19 (List.mem_of_getElem? (i := 5) rfl)
theorem u_852 : Cond.selects RX7 yX7_statue yX7_statue ∈ wsL_law := inR19 (List.mem_of_getElem? (i := 6) rfl)
theorem u_853 : Cond.code yX7_groundOf cX7_groundOf 1 (some .int) ∈ wsL_law := inR23 (List.mem_of_getElem? (i := 14) rfl)
theorem u_854 : Cond.static yX7_groundOf ∈ wsL_law := inR23 (List.mem_of_getElem? (i := 13) rfl)
theorem u_855 : Cond.code yX7_overOf cX7_overOf 1 (some .int) ∈ wsL_law := inR23 (List.mem_of_getElem? (i := 17) rfl)
theorem u_856 : Cond.static yX7_overOf ∈ wsL_law := inR23 (List.mem_of_getElem? (i := 16) rfl)
theorem u_857 : Cond.code yX7_isStack cX7_isStack 2 (some .boolean) ∈ wsL_law := inR23 (List.mem_of_getElem? (i := 11) rfl)
theorem u_858 : Cond.instanceMethod yX7_isStack ∈ wsL_law := inR23 (List.mem_of_getElem? (i := 9) rfl)
theorem u_859 : Cond.selects RX7 yX7_isStack yX7_isStack ∈ wsL_law := inR23 (List.mem_of_getElem? (i := 10) rfl)
theorem u_860 : Cond.code yX7_wearOf cX7_wearOf 2 (some .int) ∈ wsL_law := inR24 (List.mem_of_getElem? (i := 9) rfl)
theorem u_861 : Cond.instanceMethod yX7_wearOf ∈ wsL_law := inR24 (List.mem_of_getElem? (i := 7) rfl)
theorem u_862 : Cond.selects RX7 yX7_wearOf yX7_wearOf ∈ wsL_law := inR24 (List.mem_of_getElem? (i := 8) rfl)
theorem u_863 : Cond.code yX7_thick cX7_thick 2 (some .int) ∈ wsL_law := inR24 (List.mem_of_getElem? (i := 1) rfl)
theorem u_864 : Cond.instanceMethod yX7_thick ∈ wsL_law := inR23 (List.mem_of_getElem? (i := 23) rfl)
theorem u_865 : Cond.selects RX7 yX7_thick yX7_thick ∈ wsL_law := inR24 (List.mem_of_getElem? (i := 0) rfl)
theorem u_866 : Cond.code yX7_leftOf cX7_leftOf 8 (some .int) ∈ wsL_law := inR23 (List.mem_of_getElem? (i := 21) rfl)
theorem u_867 : Cond.instanceMethod yX7_leftOf ∈ wsL_law := inR23 (List.mem_of_getElem? (i := 19) rfl)
theorem u_868 : Cond.selects RX7 yX7_leftOf yX7_leftOf ∈ wsL_law := inR23 (List.mem_of_getElem? (i := 20) rfl)
theorem u_869 : Cond.code yX7_isBright cX7_isBright 7 (some .boolean) ∈ wsL_law := inR25 (List.mem_of_getElem? (i := 7) rfl)
theorem u_870 : Cond.instanceMethod yX7_isBright ∈ wsL_law := inR25 (List.mem_of_getElem? (i := 5) rfl)
theorem u_871 : Cond.selects RX7 yX7_isBright yX7_isBright ∈ wsL_law := inR25 (List.mem_of_getElem? (i := 6) rfl)
theorem u_872 : Cond.code yX7_isSo cX7_isSo 5 (some .boolean) ∈ wsL_law := inR28 (List.mem_of_getElem? (i := 5) rfl)
theorem u_873 : Cond.instanceMethod yX7_isSo ∈ wsL_law := inR28 (List.mem_of_getElem? (i := 3) rfl)
theorem u_874 : Cond.selects RX7 yX7_isSo yX7_isSo ∈ wsL_law := inR28 (List.mem_of_getElem? (i := 4) rfl)
theorem u_875 : Cond.code yX7_isLooked cX7_isLooked 3 (some .boolean) ∈ wsL_law := inR28 (List.mem_of_getElem? (i := 1) rfl)
theorem u_876 : Cond.instanceMethod yX7_isLooked ∈ wsL_law := inR27 (List.mem_of_getElem? (i := 23) rfl)
theorem u_877 : Cond.selects RX7 yX7_isLooked yX7_isLooked ∈ wsL_law := inR28 (List.mem_of_getElem? (i := 0) rfl)
theorem u_878 : Cond.code yX7_isFit cX7_isFit 6 (some .boolean) ∈ wsL_law := inR27 (List.mem_of_getElem? (i := 21) rfl)
theorem u_879 : Cond.instanceMethod yX7_isFit ∈ wsL_law := inR27 (List.mem_of_getElem? (i := 19) rfl)
theorem u_880 : Cond.selects RX7 yX7_isFit yX7_isFit ∈ wsL_law := inR27 (List.mem_of_getElem? (i := 20) rfl)
theorem u_881 : Cond.code yX7_left cX7_left 4 (some .int) ∈ wsL_law := inR23 (List.mem_of_getElem? (i := 6) rfl)
theorem u_882 : Cond.instanceMethod yX7_left ∈ wsL_law := inR23 (List.mem_of_getElem? (i := 4) rfl)
theorem u_883 : Cond.selects RX7 yX7_left yX7_left ∈ wsL_law := inR23 (List.mem_of_getElem? (i := 5) rfl)
theorem u_884 : Cond.code yX7_shines cX7_shines 4 (some .int) ∈ wsL_law := inR25 (List.mem_of_getElem? (i := 3) rfl)
theorem u_885 : Cond.instanceMethod yX7_shines ∈ wsL_law := inR25 (List.mem_of_getElem? (i := 1) rfl)
theorem u_886 : Cond.selects RX7 yX7_shines yX7_shines ∈ wsL_law := inR25 (List.mem_of_getElem? (i := 2) rfl)
theorem u_887 : Cond.code yX7_fits cX7_fits 3 (some .int) ∈ wsL_law := inR27 (List.mem_of_getElem? (i := 17) rfl)
theorem u_888 : Cond.instanceMethod yX7_fits ∈ wsL_law := inR27 (List.mem_of_getElem? (i := 15) rfl)
theorem u_889 : Cond.selects RX7 yX7_fits yX7_fits ∈ wsL_law := inR27 (List.mem_of_getElem? (i := 16) rfl)
theorem u_890 : Cond.code yX7_looks cX7_looks 6 none ∈ wsL_law := inR32 (List.mem_of_getElem? (i := 14) rfl)
theorem u_891 : Cond.instanceMethod yX7_looks ∈ wsL_law := inR32 (List.mem_of_getElem? (i := 12) rfl)
theorem u_892 : Cond.selects RX7 yX7_looks yX7_looks ∈ wsL_law := inR32 (List.mem_of_getElem? (i := 13) rfl)
theorem u_893 : Cond.code yX7_goes cX7_goes 5 (some .int) ∈ wsL_law := inR32 (List.mem_of_getElem? (i := 18) rfl)
theorem u_894 : Cond.instanceMethod yX7_goes ∈ wsL_law := inR32 (List.mem_of_getElem? (i := 16) rfl)
theorem u_895 : Cond.selects RX7 yX7_goes yX7_goes ∈ wsL_law := inR32 (List.mem_of_getElem? (i := 17) rfl)
theorem u_896 : Cond.code yX7_can cX7_can 7 (some .boolean) ∈ wsL_law := inR38 (List.mem_of_getElem? (i := 14) rfl)
theorem u_897 : Cond.instanceMethod yX7_can ∈ wsL_law := inR38 (List.mem_of_getElem? (i := 12) rfl)
theorem u_898 : Cond.selects RX7 yX7_can yX7_can ∈ wsL_law := inR38 (List.mem_of_getElem? (i := 13) rfl)
theorem u_899 : Cond.code yX7_forth cX7_forth 6 (some .boolean) ∈ wsL_law := inR32 (List.mem_of_getElem? (i := 10) rfl)
theorem u_900 : Cond.instanceMethod yX7_forth ∈ wsL_law := inR32 (List.mem_of_getElem? (i := 8) rfl)
theorem u_901 : Cond.selects RX7 yX7_forth yX7_forth ∈ wsL_law := inR32 (List.mem_of_getElem? (i := 9) rfl)
theorem u_902 : Cond.code yX7_back cX7_back 6 none ∈ wsL_law := inR33 (List.mem_of_getElem? (i := 11) rfl)
theorem u_903 : Cond.instanceMethod yX7_back ∈ wsL_law := inR33 (List.mem_of_getElem? (i := 9) rfl)
theorem u_904 : Cond.selects RX7 yX7_back yX7_back ∈ wsL_law := inR33 (List.mem_of_getElem? (i := 10) rfl)
theorem u_905 : Cond.code yX7_rows cX7_rows 3 (some .boolean) ∈ wsL_law := inR32 (List.mem_of_getElem? (i := 6) rfl)
theorem u_906 : Cond.instanceMethod yX7_rows ∈ wsL_law := inR32 (List.mem_of_getElem? (i := 4) rfl)
theorem u_907 : Cond.selects RX7 yX7_rows yX7_rows ∈ wsL_law := inR32 (List.mem_of_getElem? (i := 5) rfl)
theorem u_908 : Cond.code yX7_addsRows cX7_addsRows 3 none ∈ wsL_law := inR33 (List.mem_of_getElem? (i := 19) rfl)
theorem u_909 : Cond.instanceMethod yX7_addsRows ∈ wsL_law := inR33 (List.mem_of_getElem? (i := 17) rfl)
theorem u_910 : Cond.selects RX7 yX7_addsRows yX7_addsRows ∈ wsL_law := inR33 (List.mem_of_getElem? (i := 18) rfl)
theorem u_911 : Cond.code yX7_tellsSum cX7_tellsSum 1 (some .int) ∈ wsL_law := inR34 (List.mem_of_getElem? (i := 3) rfl)
theorem u_912 : Cond.instanceMethod yX7_tellsSum ∈ wsL_law := inR34 (List.mem_of_getElem? (i := 1) rfl)
theorem u_913 : Cond.selects RX7 yX7_tellsSum yX7_tellsSum ∈ wsL_law := inR34 (List.mem_of_getElem? (i := 2) rfl)
theorem u_914 : Cond.code yX7_odds cX7_odds 3 (some .int) ∈ wsL_law := inR32 (List.mem_of_getElem? (i := 2) rfl)
theorem u_915 : Cond.instanceMethod yX7_odds ∈ wsL_law := inR32 (List.mem_of_getElem? (i := 0) rfl)
theorem u_916 : Cond.selects RX7 yX7_odds yX7_odds ∈ wsL_law := inR32 (List.mem_of_getElem? (i := 1) rfl)
theorem u_917 : Cond.code yX7_above cX7_above 3 (some .int) ∈ wsL_law := inR35 (List.mem_of_getElem? (i := 8) rfl)
theorem u_918 : Cond.instanceMethod yX7_above ∈ wsL_law := inR35 (List.mem_of_getElem? (i := 6) rfl)
theorem u_919 : Cond.selects RX7 yX7_above yX7_above ∈ wsL_law := inR35 (List.mem_of_getElem? (i := 7) rfl)
theorem u_920 : Cond.code yX7_likeliest cX7_likeliest 8 (some .int) ∈ wsL_law := inR36 (List.mem_of_getElem? (i := 15) rfl)
theorem u_921 : Cond.instanceMethod yX7_likeliest ∈ wsL_law := inR36 (List.mem_of_getElem? (i := 13) rfl)
theorem u_922 : Cond.selects RX7 yX7_likeliest yX7_likeliest ∈ wsL_law := inR36 (List.mem_of_getElem? (i := 14) rfl)
theorem u_923 : Cond.code yX7_stood cX7_stood 5 (some .int) ∈ wsL_law := inR37 (List.mem_of_getElem? (i := 20) rfl)
theorem u_924 : Cond.instanceMethod yX7_stood ∈ wsL_law := inR37 (List.mem_of_getElem? (i := 18) rfl)
theorem u_925 : Cond.selects RX7 yX7_stood yX7_stood ∈ wsL_law := inR37 (List.mem_of_getElem? (i := 19) rfl)
theorem u_926 : Cond.code yX7_span cX7_span 8 (some .int) ∈ wsL_law := inR38 (List.mem_of_getElem? (i := 10) rfl)
theorem u_927 : Cond.instanceMethod yX7_span ∈ wsL_law := inR38 (List.mem_of_getElem? (i := 8) rfl)
theorem u_928 : Cond.selects RX7 yX7_span yX7_span ∈ wsL_law := inR38 (List.mem_of_getElem? (i := 9) rfl)
theorem u_929 : Cond.code yX7_sizeOf cX7_sizeOf 3 (some .int) ∈ wsL_law := inR39 (List.mem_of_getElem? (i := 15) rfl)
theorem u_930 : Cond.static yX7_sizeOf ∈ wsL_law := inR39 (List.mem_of_getElem? (i := 14) rfl)
theorem u_931 : Cond.code yX7_tracesOf cX7_tracesOf 4 (some .int) ∈ wsL_law := inR39 (List.mem_of_getElem? (i := 12) rfl)
theorem u_932 : Cond.instanceMethod yX7_tracesOf ∈ wsL_law := inR39 (List.mem_of_getElem? (i := 10) rfl)
theorem u_933 : Cond.selects RX7 yX7_tracesOf yX7_tracesOf ∈ wsL_law := inR39 (List.mem_of_getElem? (i := 11) rfl)
theorem u_934 : Cond.code yX7_later cX7_later 11 (some .int) ∈ wsL_law := inR39 (List.mem_of_getElem? (i := 7) rfl)
theorem u_935 : Cond.instanceMethod yX7_later ∈ wsL_law := inR39 (List.mem_of_getElem? (i := 5) rfl)
theorem u_936 : Cond.selects RX7 yX7_later yX7_later ∈ wsL_law := inR39 (List.mem_of_getElem? (i := 6) rfl)
theorem u_937 : Cond.code yX7_next cX7_next 6 (some .int) ∈ wsL_law := inR41 (List.mem_of_getElem? (i := 0) rfl)
theorem u_938 : Cond.instanceMethod yX7_next ∈ wsL_law := inR40 (List.mem_of_getElem? (i := 22) rfl)
theorem u_939 : Cond.selects RX7 yX7_next yX7_next ∈ wsL_law := inR40 (List.mem_of_getElem? (i := 23) rfl)
theorem u_940 : Cond.code yX7_topOf cX7_topOf 1 (some .int) ∈ wsL_law := inR42 (List.mem_of_getElem? (i := 0) rfl)
theorem u_941 : Cond.static yX7_topOf ∈ wsL_law := inR41 (List.mem_of_getElem? (i := 23) rfl)
theorem u_942 : Cond.code yX7_restsAt cX7_restsAt 3 (some .int) ∈ wsL_law := inR41 (List.mem_of_getElem? (i := 21) rfl)
theorem u_943 : Cond.instanceMethod yX7_restsAt ∈ wsL_law := inR41 (List.mem_of_getElem? (i := 19) rfl)
theorem u_944 : Cond.selects RX7 yX7_restsAt yX7_restsAt ∈ wsL_law := inR41 (List.mem_of_getElem? (i := 20) rfl)
theorem u_945 : Cond.code yX7_rests cX7_rests 2 (some .int) ∈ wsL_law := inR41 (List.mem_of_getElem? (i := 17) rfl)
theorem u_946 : Cond.instanceMethod yX7_rests ∈ wsL_law := inR41 (List.mem_of_getElem? (i := 15) rfl)
theorem u_947 : Cond.selects RX7 yX7_rests yX7_rests ∈ wsL_law := inR41 (List.mem_of_getElem? (i := 16) rfl)
theorem u_948 : Cond.code yX7_resting cX7_resting 5 (some .int) ∈ wsL_law := inR42 (List.mem_of_getElem? (i := 8) rfl)
theorem u_949 : Cond.instanceMethod yX7_resting ∈ wsL_law := inR42 (List.mem_of_getElem? (i := 6) rfl)
theorem u_950 : Cond.selects RX7 yX7_resting yX7_resting ∈ wsL_law := inR42 (List.mem_of_getElem? (i := 7) rfl)
theorem u_951 : Cond.code yX7_bright cX7_bright 7 (some .int) ∈ wsL_law := inR43 (List.mem_of_getElem? (i := 5) rfl)
theorem u_952 : Cond.instanceMethod yX7_bright ∈ wsL_law := inR43 (List.mem_of_getElem? (i := 3) rfl)
theorem u_953 : Cond.selects RX7 yX7_bright yX7_bright ∈ wsL_law := inR43 (List.mem_of_getElem? (i := 4) rfl)
theorem u_954 : Cond.code yX7_image cX7_image 3 (some .int) ∈ wsL_law := inR44 (List.mem_of_getElem? (i := 12) rfl)
theorem u_955 : Cond.instanceMethod yX7_image ∈ wsL_law := inR44 (List.mem_of_getElem? (i := 10) rfl)
theorem u_956 : Cond.selects RX7 yX7_image yX7_image ∈ wsL_law := inR44 (List.mem_of_getElem? (i := 11) rfl)
theorem u_957 : Cond.code yX7_from cX7_from 3 (some .int) ∈ wsL_law := inR44 (List.mem_of_getElem? (i := 20) rfl)
theorem u_958 : Cond.instanceMethod yX7_from ∈ wsL_law := inR44 (List.mem_of_getElem? (i := 18) rfl)
theorem u_959 : Cond.selects RX7 yX7_from yX7_from ∈ wsL_law := inR44 (List.mem_of_getElem? (i := 19) rfl)
theorem u_960 : Cond.code yX7_status cX7_status 2 (some .int) ∈ wsL_law := inR45 (List.mem_of_getElem? (i := 4) rfl)
theorem u_961 : Cond.instanceMethod yX7_status ∈ wsL_law := inR45 (List.mem_of_getElem? (i := 2) rfl)
theorem u_962 : Cond.selects RX7 yX7_status yX7_status ∈ wsL_law := inR45 (List.mem_of_getElem? (i := 3) rfl)
theorem u_963 : Cond.code yX7_countOf cX7_countOf 4 (some .int) ∈ wsL_law := inR45 (List.mem_of_getElem? (i := 23) rfl)
theorem u_964 : Cond.instanceMethod yX7_countOf ∈ wsL_law := inR45 (List.mem_of_getElem? (i := 21) rfl)
theorem u_965 : Cond.selects RX7 yX7_countOf yX7_countOf ∈ wsL_law := inR45 (List.mem_of_getElem? (i := 22) rfl)
theorem u_966 : Cond.code yX7_count cX7_count 2 (some .int) ∈ wsL_law := inR45 (List.mem_of_getElem? (i := 19) rfl)
theorem u_967 : Cond.instanceMethod yX7_count ∈ wsL_law := inR45 (List.mem_of_getElem? (i := 17) rfl)
theorem u_968 : Cond.selects RX7 yX7_count yX7_count ∈ wsL_law := inR45 (List.mem_of_getElem? (i := 18) rfl)
theorem u_969 : Cond.code yX7_mixed cX7_mixed 8 (some .long) ∈ wsL_law := inR47 (List.mem_of_getElem? (i := 0) rfl)
theorem u_970 : Cond.static yX7_mixed ∈ wsL_law := inR46 (List.mem_of_getElem? (i := 23) rfl)
theorem u_971 : Cond.code yX7_digest cX7_digest 4 (some .long) ∈ wsL_law := inR46 (List.mem_of_getElem? (i := 19) rfl)
theorem u_972 : Cond.instanceMethod yX7_digest ∈ wsL_law := inR46 (List.mem_of_getElem? (i := 17) rfl)
theorem u_973 : Cond.selects RX7 yX7_digest yX7_digest ∈ wsL_law := inR46 (List.mem_of_getElem? (i := 18) rfl)
theorem FW_RX5_18 : FW RX5 18 5 2 .int := ⟨RX5, TX5, 3, tyX5, rfl, inlX5, tyX5_ok, nmX5, by decide, u_0, rfl, by decide +kernel⟩
theorem FL_RX5_18 : FL RX5 18 5 2 := ⟨RX5, TX5, 3, tyX5, rfl, inlX5, tyX5_ok, nmX5, by decide, u_0⟩
theorem FL_RX5_11 : FL RX5 11 5 0 := ⟨RX5, TX5, 3, tyX5, rfl, inlX5, tyX5_ok, nmX5, by decide, u_1⟩
theorem FL_RX0_19 : FL RX0 19 0 2 := ⟨RX0, TX0, 4, tyX0, rfl, inlX0, tyX0_ok, nmX0, by decide, u_14⟩
theorem FL_RX0_10 : FL RX0 10 0 0 := ⟨RX0, TX0, 4, tyX0, rfl, inlX0, tyX0_ok, nmX0, by decide, u_15⟩
theorem FL_RX0_22 : FL RX0 22 0 3 := ⟨RX0, TX0, 4, tyX0, rfl, inlX0, tyX0_ok, nmX0, by decide, u_16⟩
theorem FL_RX0_16 : FL RX0 16 0 1 := ⟨RX0, TX0, 4, tyX0, rfl, inlX0, tyX0_ok, nmX0, by decide, u_17⟩
theorem FL_RX5_15 : FL RX5 15 5 1 := ⟨RX5, TX5, 3, tyX5, rfl, inlX5, tyX5_ok, nmX5, by decide, u_23⟩
theorem FL_RX2_48 : FL RX2 48 2 11 := ⟨RX2, TX2, 13, tyX2, rfl, inlX2, tyX2_ok, nmX2, by decide, u_33⟩
theorem FL_RX4_19 : FL RX4 19 4 2 := ⟨RX4, TX4, 3, tyX4, rfl, inlX4, tyX4_ok, nmX4, by decide, u_34⟩
theorem FL_RX4_16 : FL RX4 16 4 1 := ⟨RX4, TX4, 3, tyX4, rfl, inlX4, tyX4_ok, nmX4, by decide, u_35⟩
theorem FL_RX4_11 : FL RX4 11 4 0 := ⟨RX4, TX4, 3, tyX4, rfl, inlX4, tyX4_ok, nmX4, by decide, u_36⟩
theorem FL_RX1_83 : FL RX1 83 2 6 := ⟨RX2, TX2, 13, tyX2, rfl, inlX2, tyX2_ok, nmX2, by decide, u_37⟩
theorem FL_RX1_94 : FL RX1 94 2 7 := ⟨RX2, TX2, 13, tyX2, rfl, inlX2, tyX2_ok, nmX2, by decide, u_38⟩
theorem FL_RX1_74 : FL RX1 74 1 16 := ⟨RX1, TX1, 17, tyX1, rfl, inlX1, tyX1_ok, nmX1, by decide, u_39⟩
theorem FW_RX1_74 : FW RX1 74 1 16 .int := ⟨RX1, TX1, 17, tyX1, rfl, inlX1, tyX1_ok, nmX1, by decide, u_39, rfl, by decide +kernel⟩
theorem FL_RX1_97 : FL RX1 97 2 8 := ⟨RX2, TX2, 13, tyX2, rfl, inlX2, tyX2_ok, nmX2, by decide, u_40⟩
theorem FL_RX1_17 : FL RX1 17 1 1 := ⟨RX1, TX1, 17, tyX1, rfl, inlX1, tyX1_ok, nmX1, by decide, u_41⟩
theorem FL_RX1_23 : FL RX1 23 1 3 := ⟨RX1, TX1, 17, tyX1, rfl, inlX1, tyX1_ok, nmX1, by decide, u_43⟩
theorem FL_RX1_26 : FL RX1 26 1 4 := ⟨RX1, TX1, 17, tyX1, rfl, inlX1, tyX1_ok, nmX1, by decide, u_44⟩
theorem FL_RX1_29 : FL RX1 29 1 5 := ⟨RX1, TX1, 17, tyX1, rfl, inlX1, tyX1_ok, nmX1, by decide, u_45⟩
theorem FL_RX1_50 : FL RX1 50 2 4 := ⟨RX2, TX2, 13, tyX2, rfl, inlX2, tyX2_ok, nmX2, by decide, u_49⟩
theorem FW_RX1_55 : FW RX1 55 1 15 .int := ⟨RX1, TX1, 17, tyX1, rfl, inlX1, tyX1_ok, nmX1, by decide, u_50, rfl, by decide +kernel⟩
theorem FL_RX1_77 : FL RX1 77 2 12 := ⟨RX2, TX2, 13, tyX2, rfl, inlX2, tyX2_ok, nmX2, by decide, u_52⟩
theorem FL_RX1_80 : FL RX1 80 2 9 := ⟨RX2, TX2, 13, tyX2, rfl, inlX2, tyX2_ok, nmX2, by decide, u_53⟩
theorem FL_RX1_20 : FL RX1 20 1 2 := ⟨RX1, TX1, 17, tyX1, rfl, inlX1, tyX1_ok, nmX1, by decide, u_55⟩
theorem FL_RX1_66 : FL RX1 66 4 0 := ⟨RX4, TX4, 3, tyX4, rfl, inlX4, tyX4_ok, nmX4, by decide, u_56⟩
theorem FL_RX1_9 : FL RX1 9 1 0 := ⟨RX1, TX1, 17, tyX1, rfl, inlX1, tyX1_ok, nmX1, by decide, u_57⟩
theorem FL_RX1_63 : FL RX1 63 2 5 := ⟨RX2, TX2, 13, tyX2, rfl, inlX2, tyX2_ok, nmX2, by decide, u_59⟩
theorem FW_RX1_135 : FW RX1 135 1 11 .long := ⟨RX1, TX1, 17, tyX1, rfl, inlX1, tyX1_ok, nmX1, by decide, u_64, rfl, by decide +kernel⟩
theorem FL_RX1_43 : FL RX1 43 1 9 := ⟨RX1, TX1, 17, tyX1, rfl, inlX1, tyX1_ok, nmX1, by decide, u_65⟩
theorem FL_RX1_135 : FL RX1 135 1 11 := ⟨RX1, TX1, 17, tyX1, rfl, inlX1, tyX1_ok, nmX1, by decide, u_64⟩
theorem FL_RX1_55 : FL RX1 55 1 15 := ⟨RX1, TX1, 17, tyX1, rfl, inlX1, tyX1_ok, nmX1, by decide, u_50⟩
theorem FL_RX1_34 : FL RX1 34 1 6 := ⟨RX1, TX1, 17, tyX1, rfl, inlX1, tyX1_ok, nmX1, by decide, u_67⟩
theorem FW_RX1_139 : FW RX1 139 1 12 .long := ⟨RX1, TX1, 17, tyX1, rfl, inlX1, tyX1_ok, nmX1, by decide, u_68, rfl, by decide +kernel⟩
theorem FL_RX1_37 : FL RX1 37 1 7 := ⟨RX1, TX1, 17, tyX1, rfl, inlX1, tyX1_ok, nmX1, by decide, u_71⟩
theorem FL_RX1_40 : FL RX1 40 1 8 := ⟨RX1, TX1, 17, tyX1, rfl, inlX1, tyX1_ok, nmX1, by decide, u_74⟩
theorem FL_RX1_174 : FL RX1 174 4 1 := ⟨RX4, TX4, 3, tyX4, rfl, inlX4, tyX4_ok, nmX4, by decide, u_78⟩
theorem FL_RX1_47 : FL RX1 47 1 10 := ⟨RX1, TX1, 17, tyX1, rfl, inlX1, tyX1_ok, nmX1, by decide, u_79⟩
theorem FW_RX1_156 : FW RX1 156 1 14 .int := ⟨RX1, TX1, 17, tyX1, rfl, inlX1, tyX1_ok, nmX1, by decide, u_82, rfl, by decide +kernel⟩
theorem FL_RX1_139 : FL RX1 139 1 12 := ⟨RX1, TX1, 17, tyX1, rfl, inlX1, tyX1_ok, nmX1, by decide, u_68⟩
theorem FL_RX1_156 : FL RX1 156 1 14 := ⟨RX1, TX1, 17, tyX1, rfl, inlX1, tyX1_ok, nmX1, by decide, u_82⟩
theorem FW_RX1_167 : FW RX1 167 1 13 .long := ⟨RX1, TX1, 17, tyX1, rfl, inlX1, tyX1_ok, nmX1, by decide, u_83, rfl, by decide +kernel⟩
theorem FL_RX1_167 : FL RX1 167 1 13 := ⟨RX1, TX1, 17, tyX1, rfl, inlX1, tyX1_ok, nmX1, by decide, u_83⟩
theorem FW_RX2_48 : FW RX2 48 2 11 .int := ⟨RX2, TX2, 13, tyX2, rfl, inlX2, tyX2_ok, nmX2, by decide, u_33, rfl, by decide +kernel⟩
theorem FW_RX2_52 : FW RX2 52 2 12 .int := ⟨RX2, TX2, 13, tyX2, rfl, inlX2, tyX2_ok, nmX2, by decide, u_85, rfl, by decide +kernel⟩
theorem FL_RX2_24 : FL RX2 24 2 4 := ⟨RX2, TX2, 13, tyX2, rfl, inlX2, tyX2_ok, nmX2, by decide, u_87⟩
theorem FL_RX2_42 : FL RX2 42 2 10 := ⟨RX2, TX2, 13, tyX2, rfl, inlX2, tyX2_ok, nmX2, by decide, u_89⟩
theorem FL_RX2_27 : FL RX2 27 2 5 := ⟨RX2, TX2, 13, tyX2, rfl, inlX2, tyX2_ok, nmX2, by decide, u_90⟩
theorem FL_RX2_52 : FL RX2 52 2 12 := ⟨RX2, TX2, 13, tyX2, rfl, inlX2, tyX2_ok, nmX2, by decide, u_85⟩
theorem FL_RX2_9 : FL RX2 9 2 0 := ⟨RX2, TX2, 13, tyX2, rfl, inlX2, tyX2_ok, nmX2, by decide, u_91⟩
theorem FL_RX2_15 : FL RX2 15 2 1 := ⟨RX2, TX2, 13, tyX2, rfl, inlX2, tyX2_ok, nmX2, by decide, u_92⟩
theorem FL_RX2_18 : FL RX2 18 2 2 := ⟨RX2, TX2, 13, tyX2, rfl, inlX2, tyX2_ok, nmX2, by decide, u_93⟩
theorem FL_RX2_21 : FL RX2 21 2 3 := ⟨RX2, TX2, 13, tyX2, rfl, inlX2, tyX2_ok, nmX2, by decide, u_94⟩
theorem FL_RX2_30 : FL RX2 30 2 6 := ⟨RX2, TX2, 13, tyX2, rfl, inlX2, tyX2_ok, nmX2, by decide, u_95⟩
theorem FL_RX2_33 : FL RX2 33 2 7 := ⟨RX2, TX2, 13, tyX2, rfl, inlX2, tyX2_ok, nmX2, by decide, u_96⟩
theorem FL_RX2_36 : FL RX2 36 2 8 := ⟨RX2, TX2, 13, tyX2, rfl, inlX2, tyX2_ok, nmX2, by decide, u_97⟩
theorem FL_RX2_39 : FL RX2 39 2 9 := ⟨RX2, TX2, 13, tyX2, rfl, inlX2, tyX2_ok, nmX2, by decide, u_98⟩
theorem FL_RX3_23 : FL RX3 23 3 2 := ⟨RX3, TX3, 7, tyX3, rfl, inlX3, tyX3_ok, nmX3, by decide, u_113⟩
theorem FL_RX3_9 : FL RX3 9 3 0 := ⟨RX3, TX3, 7, tyX3, rfl, inlX3, tyX3_ok, nmX3, by decide, u_114⟩
theorem FW_RX3_23 : FW RX3 23 3 2 .int := ⟨RX3, TX3, 7, tyX3, rfl, inlX3, tyX3_ok, nmX3, by decide, u_113, rfl, by decide +kernel⟩
theorem FL_RX3_32 : FL RX3 32 3 3 := ⟨RX3, TX3, 7, tyX3, rfl, inlX3, tyX3_ok, nmX3, by decide, u_117⟩
theorem FL_RX3_48 : FL RX3 48 3 5 := ⟨RX3, TX3, 7, tyX3, rfl, inlX3, tyX3_ok, nmX3, by decide, u_119⟩
theorem FW_RX3_41 : FW RX3 41 3 6 .int := ⟨RX3, TX3, 7, tyX3, rfl, inlX3, tyX3_ok, nmX3, by decide, u_120, rfl, by decide +kernel⟩
theorem FL_RX3_41 : FL RX3 41 3 6 := ⟨RX3, TX3, 7, tyX3, rfl, inlX3, tyX3_ok, nmX3, by decide, u_120⟩
theorem FW_RX3_38 : FW RX3 38 3 4 .int := ⟨RX3, TX3, 7, tyX3, rfl, inlX3, tyX3_ok, nmX3, by decide, u_121, rfl, by decide +kernel⟩
theorem FW_RX3_32 : FW RX3 32 3 3 .int := ⟨RX3, TX3, 7, tyX3, rfl, inlX3, tyX3_ok, nmX3, by decide, u_117, rfl, by decide +kernel⟩
theorem FW_RX3_48 : FW RX3 48 3 5 .int := ⟨RX3, TX3, 7, tyX3, rfl, inlX3, tyX3_ok, nmX3, by decide, u_119, rfl, by decide +kernel⟩
theorem FL_RX3_38 : FL RX3 38 3 4 := ⟨RX3, TX3, 7, tyX3, rfl, inlX3, tyX3_ok, nmX3, by decide, u_121⟩
theorem FL_RX3_15 : FL RX3 15 3 1 := ⟨RX3, TX3, 7, tyX3, rfl, inlX3, tyX3_ok, nmX3, by decide, u_129⟩
theorem FL_RX6_68 : FL RX6 68 6 11 := ⟨RX6, TX6, 12, tyX6, rfl, inlX6, tyX6_ok, nmX6, by decide, u_145⟩
theorem FL_RX6_10 : FL RX6 10 6 0 := ⟨RX6, TX6, 12, tyX6, rfl, inlX6, tyX6_ok, nmX6, by decide, u_146⟩
theorem FL_RX6_30 : FL RX6 30 6 4 := ⟨RX6, TX6, 12, tyX6, rfl, inlX6, tyX6_ok, nmX6, by decide, u_154⟩
theorem FL_RX6_16 : FL RX6 16 6 1 := ⟨RX6, TX6, 12, tyX6, rfl, inlX6, tyX6_ok, nmX6, by decide, u_157⟩
theorem FL_RX6_37 : FL RX6 37 6 5 := ⟨RX6, TX6, 12, tyX6, rfl, inlX6, tyX6_ok, nmX6, by decide, u_168⟩
theorem FL_RX6_44 : FL RX6 44 6 6 := ⟨RX6, TX6, 12, tyX6, rfl, inlX6, tyX6_ok, nmX6, by decide, u_169⟩
theorem FL_RX6_158 : FL RX6 158 1 12 := ⟨RX1, TX1, 17, tyX1, rfl, inlX1, tyX1_ok, nmX1, by decide, u_174⟩
theorem FL_RX6_51 : FL RX6 51 6 7 := ⟨RX6, TX6, 12, tyX6, rfl, inlX6, tyX6_ok, nmX6, by decide, u_176⟩
theorem FL_RX6_58 : FL RX6 58 6 8 := ⟨RX6, TX6, 12, tyX6, rfl, inlX6, tyX6_ok, nmX6, by decide, u_183⟩
theorem FL_RX6_65 : FL RX6 65 6 10 := ⟨RX6, TX6, 12, tyX6, rfl, inlX6, tyX6_ok, nmX6, by decide, u_188⟩
theorem FL_RX6_62 : FL RX6 62 6 9 := ⟨RX6, TX6, 12, tyX6, rfl, inlX6, tyX6_ok, nmX6, by decide, u_189⟩
theorem FL_RX6_200 : FL RX6 200 2 0 := ⟨RX2, TX2, 13, tyX2, rfl, inlX2, tyX2_ok, nmX2, by decide, u_194⟩
theorem FL_RX6_221 : FL RX6 221 1 14 := ⟨RX1, TX1, 17, tyX1, rfl, inlX1, tyX1_ok, nmX1, by decide, u_201⟩
theorem FL_RX6_214 : FL RX6 214 1 13 := ⟨RX1, TX1, 17, tyX1, rfl, inlX1, tyX1_ok, nmX1, by decide, u_202⟩
theorem FL_RX6_284 : FL RX6 284 2 10 := ⟨RX2, TX2, 13, tyX2, rfl, inlX2, tyX2_ok, nmX2, by decide, u_205⟩
theorem FL_RX6_240 : FL RX6 240 0 1 := ⟨RX0, TX0, 4, tyX0, rfl, inlX0, tyX0_ok, nmX0, by decide, u_212⟩
theorem FL_RX6_237 : FL RX6 237 5 2 := ⟨RX5, TX5, 3, tyX5, rfl, inlX5, tyX5_ok, nmX5, by decide, u_213⟩
theorem FL_RX6_234 : FL RX6 234 0 0 := ⟨RX0, TX0, 4, tyX0, rfl, inlX0, tyX0_ok, nmX0, by decide, u_214⟩
theorem FL_RX6_19 : FL RX6 19 6 2 := ⟨RX6, TX6, 12, tyX6, rfl, inlX6, tyX6_ok, nmX6, by decide, u_216⟩
theorem FL_RX6_23 : FL RX6 23 6 3 := ⟨RX6, TX6, 12, tyX6, rfl, inlX6, tyX6_ok, nmX6, by decide, u_217⟩
theorem FL_RX6_246 : FL RX6 246 2 11 := ⟨RX2, TX2, 13, tyX2, rfl, inlX2, tyX2_ok, nmX2, by decide, u_218⟩
theorem FL_RX6_249 : FL RX6 249 2 12 := ⟨RX2, TX2, 13, tyX2, rfl, inlX2, tyX2_ok, nmX2, by decide, u_219⟩
theorem FL_RX6_255 : FL RX6 255 3 2 := ⟨RX3, TX3, 7, tyX3, rfl, inlX3, tyX3_ok, nmX3, by decide, u_221⟩
theorem FL_RX7_7 : FL RX7 7 7 0 := ⟨RX7, TX7, 21, tyX7, rfl, inlX7, tyX7_ok, nmX7, by decide, u_226⟩
theorem FL_RX7_23 : FL RX7 23 7 4 := ⟨RX7, TX7, 21, tyX7, rfl, inlX7, tyX7_ok, nmX7, by decide, u_227⟩
theorem FL_RX7_60 : FL RX7 60 7 5 := ⟨RX7, TX7, 21, tyX7, rfl, inlX7, tyX7_ok, nmX7, by decide, u_228⟩
theorem FL_RX7_29 : FL RX7 29 7 7 := ⟨RX7, TX7, 21, tyX7, rfl, inlX7, tyX7_ok, nmX7, by decide, u_230⟩
theorem FL_RX7_26 : FL RX7 26 7 6 := ⟨RX7, TX7, 21, tyX7, rfl, inlX7, tyX7_ok, nmX7, by decide, u_231⟩
theorem FL_RX7_146 : FL RX7 146 7 9 := ⟨RX7, TX7, 21, tyX7, rfl, inlX7, tyX7_ok, nmX7, by decide, u_260⟩
theorem FL_RX7_32 : FL RX7 32 7 8 := ⟨RX7, TX7, 21, tyX7, rfl, inlX7, tyX7_ok, nmX7, by decide, u_261⟩
theorem FW_RX7_146 : FW RX7 146 7 9 .int := ⟨RX7, TX7, 21, tyX7, rfl, inlX7, tyX7_ok, nmX7, by decide, u_260, rfl, by decide +kernel⟩
theorem FL_RX7_152 : FL RX7 152 7 10 := ⟨RX7, TX7, 21, tyX7, rfl, inlX7, tyX7_ok, nmX7, by decide, u_263⟩
theorem FW_RX7_187 : FW RX7 187 7 11 .int := ⟨RX7, TX7, 21, tyX7, rfl, inlX7, tyX7_ok, nmX7, by decide, u_278, rfl, by decide +kernel⟩
theorem FW_RX7_190 : FW RX7 190 7 12 .int := ⟨RX7, TX7, 21, tyX7, rfl, inlX7, tyX7_ok, nmX7, by decide, u_279, rfl, by decide +kernel⟩
theorem FW_RX7_152 : FW RX7 152 7 10 .int := ⟨RX7, TX7, 21, tyX7, rfl, inlX7, tyX7_ok, nmX7, by decide, u_263, rfl, by decide +kernel⟩
theorem FW_RX7_201 : FW RX7 201 7 13 .int := ⟨RX7, TX7, 21, tyX7, rfl, inlX7, tyX7_ok, nmX7, by decide, u_281, rfl, by decide +kernel⟩
theorem FL_RX7_187 : FL RX7 187 7 11 := ⟨RX7, TX7, 21, tyX7, rfl, inlX7, tyX7_ok, nmX7, by decide, u_278⟩
theorem FL_RX7_201 : FL RX7 201 7 13 := ⟨RX7, TX7, 21, tyX7, rfl, inlX7, tyX7_ok, nmX7, by decide, u_281⟩
theorem FW_RX7_204 : FW RX7 204 7 16 .int := ⟨RX7, TX7, 21, tyX7, rfl, inlX7, tyX7_ok, nmX7, by decide, u_285, rfl, by decide +kernel⟩
theorem FL_RX7_190 : FL RX7 190 7 12 := ⟨RX7, TX7, 21, tyX7, rfl, inlX7, tyX7_ok, nmX7, by decide, u_279⟩
theorem FL_RX7_35 : FL RX7 35 7 14 := ⟨RX7, TX7, 21, tyX7, rfl, inlX7, tyX7_ok, nmX7, by decide, u_286⟩
theorem FL_RX7_204 : FL RX7 204 7 16 := ⟨RX7, TX7, 21, tyX7, rfl, inlX7, tyX7_ok, nmX7, by decide, u_285⟩
theorem FL_RX7_38 : FL RX7 38 7 15 := ⟨RX7, TX7, 21, tyX7, rfl, inlX7, tyX7_ok, nmX7, by decide, u_288⟩
theorem FW_RX7_60 : FW RX7 60 7 5 .boolean := ⟨RX7, TX7, 21, tyX7, rfl, inlX7, tyX7_ok, nmX7, by decide, u_228, rfl, by decide +kernel⟩
theorem FL_RX7_20 : FL RX7 20 7 3 := ⟨RX7, TX7, 21, tyX7, rfl, inlX7, tyX7_ok, nmX7, by decide, u_295⟩
theorem FL_RX7_47 : FL RX7 47 7 19 := ⟨RX7, TX7, 21, tyX7, rfl, inlX7, tyX7_ok, nmX7, by decide, u_311⟩
theorem FL_RX7_41 : FL RX7 41 7 17 := ⟨RX7, TX7, 21, tyX7, rfl, inlX7, tyX7_ok, nmX7, by decide, u_312⟩
theorem FL_RX7_44 : FL RX7 44 7 18 := ⟨RX7, TX7, 21, tyX7, rfl, inlX7, tyX7_ok, nmX7, by decide, u_313⟩
theorem FL_RX7_50 : FL RX7 50 7 20 := ⟨RX7, TX7, 21, tyX7, rfl, inlX7, tyX7_ok, nmX7, by decide, u_314⟩
theorem FL_RX7_16 : FL RX7 16 7 2 := ⟨RX7, TX7, 21, tyX7, rfl, inlX7, tyX7_ok, nmX7, by decide, u_333⟩
theorem FL_RX7_13 : FL RX7 13 7 1 := ⟨RX7, TX7, 21, tyX7, rfl, inlX7, tyX7_ok, nmX7, by decide, u_334⟩
theorem Y_X5_measure : YM yX5_measure cX5_measure 1 (none) 0 := ⟨u_369, u_370, by decide, ⟨by decide +kernel, by decide +kernel⟩, by decide +kernel⟩
theorem Z_X5_measure : YV yX5_measure := ⟨u_371, u_372⟩
theorem Y_X5_addTimes : YM yX5_addTimes cX5_addTimes 9 (none) 2 := ⟨u_373, u_370, by decide, ⟨by decide +kernel, by decide +kernel⟩, by decide +kernel⟩
theorem Z_X5_addTimes : YV yX5_addTimes := ⟨u_374, u_375⟩
theorem Y_X5_set : YM yX5_set cX5_set 4 (none) 1 := ⟨u_376, u_370, by decide, ⟨by decide +kernel, by decide +kernel⟩, by decide +kernel⟩
theorem Z_X5_set : YV yX5_set := ⟨u_377, u_378⟩
theorem Y_X5_isZero : YM yX5_isZero cX5_isZero 1 (some .boolean) 0 := ⟨u_379, u_370, by decide, ⟨by decide +kernel, by decide +kernel⟩, by decide +kernel⟩
theorem Z_X5_isZero : YV yX5_isZero := ⟨u_380, u_381⟩
theorem Y_J6_bitCount_0f7a4 : YM yJ6_bitCount_0f7a4 cJ6_bitCount_0f7a4 1 (some .int) 1 := ⟨u_382, u_383, by decide, ⟨by decide +kernel, by decide +kernel⟩, by decide +kernel⟩
theorem Z_J6_bitCount_0f7a4 : Cond.static yJ6_bitCount_0f7a4 ∈ wsL_law := u_384
theorem Y_X5_twos : YM yX5_twos cX5_twos 2 (some .int) 0 := ⟨u_385, u_370, by decide, ⟨by decide +kernel, by decide +kernel⟩, by decide +kernel⟩
theorem Z_X5_twos : YV yX5_twos := ⟨u_386, u_387⟩
theorem Y_X5_shiftDown : YM yX5_shiftDown cX5_shiftDown 9 (none) 1 := ⟨u_388, u_370, by decide, ⟨by decide +kernel, by decide +kernel⟩, by decide +kernel⟩
theorem Z_X5_shiftDown : YV yX5_shiftDown := ⟨u_389, u_390⟩
theorem Y_X5_become : YM yX5_become cX5_become 2 (none) 1 := ⟨u_391, u_370, by decide, ⟨by decide +kernel, by decide +kernel⟩, by decide +kernel⟩
theorem Z_X5_become : YV yX5_become := ⟨u_392, u_393⟩
theorem Y_X5_compareWith : YM yX5_compareWith cX5_compareWith 3 (some .int) 1 := ⟨u_394, u_370, by decide, ⟨by decide +kernel, by decide +kernel⟩, by decide +kernel⟩
theorem Z_X5_compareWith : YV yX5_compareWith := ⟨u_395, u_396⟩
theorem Y_X5_subtract : YM yX5_subtract cX5_subtract 4 (none) 1 := ⟨u_397, u_370, by decide, ⟨by decide +kernel, by decide +kernel⟩, by decide +kernel⟩
theorem Z_X5_subtract : YV yX5_subtract := ⟨u_398, u_399⟩
theorem Y_X0_findCommon : YM yX0_findCommon cX0_findCommon 4 (none) 0 := ⟨u_400, u_401, by decide, ⟨by decide +kernel, by decide +kernel⟩, by decide +kernel⟩
theorem Z_X0_findCommon : YV yX0_findCommon := ⟨u_402, u_403⟩
theorem Y_X5_divideExactly : YM yX5_divideExactly cX5_divideExactly 9 (none) 1 := ⟨u_404, u_370, by decide, ⟨by decide +kernel, by decide +kernel⟩, by decide +kernel⟩
theorem Z_X5_divideExactly : YV yX5_divideExactly := ⟨u_405, u_406⟩
theorem Y_X0_reduce : YM yX0_reduce cX0_reduce 2 (none) 0 := ⟨u_407, u_401, by decide, ⟨by decide +kernel, by decide +kernel⟩, by decide +kernel⟩
theorem Z_X0_reduce : YV yX0_reduce := ⟨u_408, u_409⟩
theorem Y_X0_setTo : YM yX0_setTo cX0_setTo 5 (none) 2 := ⟨u_410, u_401, by decide, ⟨by decide +kernel, by decide +kernel⟩, by decide +kernel⟩
theorem Z_X0_setTo : YV yX0_setTo := ⟨u_411, u_412⟩
theorem Y_X0_setTo_ : YM yX0_setTo_ cX0_setTo_ 3 (none) 2 := ⟨u_413, u_401, by decide, ⟨by decide +kernel, by decide +kernel⟩, by decide +kernel⟩
theorem Z_X0_setTo_ : YV yX0_setTo_ := ⟨u_414, u_415⟩
theorem Y_X6_within : YM yX6_within cX6_within 3 (some .boolean) 3 := ⟨u_416, u_417, by decide, ⟨by decide +kernel, by decide +kernel⟩, by decide +kernel⟩
theorem Z_X6_within : Cond.static yX6_within ∈ wsL_law := u_418
theorem Y_X6_groundOf : YM yX6_groundOf cX6_groundOf 1 (some .int) 1 := ⟨u_419, u_417, by decide, ⟨by decide +kernel, by decide +kernel⟩, by decide +kernel⟩
theorem Z_X6_groundOf : Cond.static yX6_groundOf ∈ wsL_law := u_420
theorem Y_X6_upperOf : YM yX6_upperOf cX6_upperOf 1 (some .int) 1 := ⟨u_421, u_417, by decide, ⟨by decide +kernel, by decide +kernel⟩, by decide +kernel⟩
theorem Z_X6_upperOf : Cond.static yX6_upperOf ∈ wsL_law := u_422
theorem Y_X2_isStack : YM yX2_isStack cX2_isStack 2 (some .boolean) 1 := ⟨u_423, u_424, by decide, ⟨by decide +kernel, by decide +kernel⟩, by decide +kernel⟩
theorem Z_X2_isStack : YV yX2_isStack := ⟨u_425, u_426⟩
theorem Y_X6_sideOf : YM yX6_sideOf cX6_sideOf 1 (some .int) 1 := ⟨u_427, u_417, by decide, ⟨by decide +kernel, by decide +kernel⟩, by decide +kernel⟩
theorem Z_X6_sideOf : Cond.static yX6_sideOf ∈ wsL_law := u_428
theorem Y_X4_isSo : YM yX4_isSo cX4_isSo 5 (some .boolean) 4 := ⟨u_429, u_430, by decide, ⟨by decide +kernel, by decide +kernel⟩, by decide +kernel⟩
theorem Z_X4_isSo : YV yX4_isSo := ⟨u_431, u_432⟩
theorem Y_X1_lookAtTrace : YM yX1_lookAtTrace cX1_lookAtTrace 7 (none) 3 := ⟨u_433, u_434, by decide, ⟨by decide +kernel, by decide +kernel⟩, by decide +kernel⟩
theorem Z_X1_lookAtTrace : YV yX1_lookAtTrace := ⟨u_435, u_436⟩
theorem Y_X1_findSteps : YM yX1_findSteps cX1_findSteps 4 (none) 1 := ⟨u_437, u_434, by decide, ⟨by decide +kernel, by decide +kernel⟩, by decide +kernel⟩
theorem Z_X1_findSteps : YV yX1_findSteps := ⟨u_438, u_439⟩
theorem Y_X1_look : YM yX1_look cX1_look 6 (none) 3 := ⟨u_440, u_434, by decide, ⟨by decide +kernel, by decide +kernel⟩, by decide +kernel⟩
theorem Z_X1_look : YV yX1_look := ⟨u_441, u_442⟩
theorem Y_X1_isFree : YM yX1_isFree cX1_isFree 3 (some .boolean) 2 := ⟨u_443, u_434, by decide, ⟨by decide +kernel, by decide +kernel⟩, by decide +kernel⟩
theorem Z_X1_isFree : YV yX1_isFree := ⟨u_444, u_445⟩
theorem Y_X1_canBe : YM yX1_canBe cX1_canBe 7 (some .boolean) 1 := ⟨u_446, u_434, by decide, ⟨by decide +kernel, by decide +kernel⟩, by decide +kernel⟩
theorem Z_X1_canBe : YV yX1_canBe := ⟨u_447, u_448⟩
theorem Y_X1_laterOf : YM yX1_laterOf cX1_laterOf 8 (some .int) 1 := ⟨u_449, u_434, by decide, ⟨by decide +kernel, by decide +kernel⟩, by decide +kernel⟩
theorem Z_X1_laterOf : YV yX1_laterOf := ⟨u_450, u_451⟩
theorem Y_X1_fewestLater : YM yX1_fewestLater cX1_fewestLater 3 (some .int) 0 := ⟨u_452, u_434, by decide, ⟨by decide +kernel, by decide +kernel⟩, by decide +kernel⟩
theorem Z_X1_fewestLater : YV yX1_fewestLater := ⟨u_453, u_454⟩
theorem Y_X1_weighParts : YM yX1_weighParts cX1_weighParts 4 (none) 2 := ⟨u_455, u_434, by decide, ⟨by decide +kernel, by decide +kernel⟩, by decide +kernel⟩
theorem Z_X1_weighParts : YV yX1_weighParts := ⟨u_456, u_457⟩
theorem Y_X1_joint : YM yX1_joint cX1_joint 4 (some .int) 3 := ⟨u_458, u_434, by decide, ⟨by decide +kernel, by decide +kernel⟩, by decide +kernel⟩
theorem Z_X1_joint : YV yX1_joint := ⟨u_459, u_460⟩
theorem Y_X1_partsBeside : YM yX1_partsBeside cX1_partsBeside 7 (some .long) 3 := ⟨u_461, u_434, by decide, ⟨by decide +kernel, by decide +kernel⟩, by decide +kernel⟩
theorem Z_X1_partsBeside : YV yX1_partsBeside := ⟨u_462, u_463⟩
theorem Y_X1_reckonAhead : YM yX1_reckonAhead cX1_reckonAhead 3 (none) 0 := ⟨u_464, u_434, by decide, ⟨by decide +kernel, by decide +kernel⟩, by decide +kernel⟩
theorem Z_X1_reckonAhead : YV yX1_reckonAhead := ⟨u_465, u_466⟩
theorem Y_X1_reckonBehind : YM yX1_reckonBehind cX1_reckonBehind 3 (none) 0 := ⟨u_467, u_434, by decide, ⟨by decide +kernel, by decide +kernel⟩, by decide +kernel⟩
theorem Z_X1_reckonBehind : YV yX1_reckonBehind := ⟨u_468, u_469⟩
theorem Y_X1_reckon : YM yX1_reckon cX1_reckon 1 (none) 0 := ⟨u_470, u_434, by decide, ⟨by decide +kernel, by decide +kernel⟩, by decide +kernel⟩
theorem Z_X1_reckon : YV yX1_reckon := ⟨u_471, u_472⟩
theorem Y_X1_weightOf : YM yX1_weightOf cX1_weightOf 3 (some .long) 2 := ⟨u_473, u_434, by decide, ⟨by decide +kernel, by decide +kernel⟩, by decide +kernel⟩
theorem Z_X1_weightOf : YV yX1_weightOf := ⟨u_474, u_475⟩
theorem Y_X1_mostNext : YM yX1_mostNext cX1_mostNext 4 (some .long) 3 := ⟨u_476, u_434, by decide, ⟨by decide +kernel, by decide +kernel⟩, by decide +kernel⟩
theorem Z_X1_mostNext : YV yX1_mostNext := ⟨u_477, u_478⟩
theorem Y_X1_bestNext : YM yX1_bestNext cX1_bestNext 5 (some .int) 2 := ⟨u_479, u_434, by decide, ⟨by decide +kernel, by decide +kernel⟩, by decide +kernel⟩
theorem Z_X1_bestNext : YV yX1_bestNext := ⟨u_480, u_481⟩
theorem Y_X1_reckonMost : YM yX1_reckonMost cX1_reckonMost 5 (none) 0 := ⟨u_482, u_434, by decide, ⟨by decide +kernel, by decide +kernel⟩, by decide +kernel⟩
theorem Z_X1_reckonMost : YV yX1_reckonMost := ⟨u_483, u_484⟩
theorem Y_X1_likeliestAt : YM yX1_likeliestAt cX1_likeliestAt 4 (some .int) 1 := ⟨u_485, u_434, by decide, ⟨by decide +kernel, by decide +kernel⟩, by decide +kernel⟩
theorem Z_X1_likeliestAt : YV yX1_likeliestAt := ⟨u_486, u_487⟩
theorem Y_X1_weighLamps : YM yX1_weighLamps cX1_weighLamps 8 (none) 2 := ⟨u_488, u_434, by decide, ⟨by decide +kernel, by decide +kernel⟩, by decide +kernel⟩
theorem Z_X1_weighLamps : YV yX1_weighLamps := ⟨u_489, u_490⟩
theorem Y_X6_isLess : YM yX6_isLess cX6_isLess 4 (some .boolean) 2 := ⟨u_491, u_417, by decide, ⟨by decide +kernel, by decide +kernel⟩, by decide +kernel⟩
theorem Z_X6_isLess : Cond.static yX6_isLess ∈ wsL_law := u_492
theorem Y_X1_seekHalf : YM yX1_seekHalf cX1_seekHalf 10 (none) 1 := ⟨u_493, u_434, by decide, ⟨by decide +kernel, by decide +kernel⟩, by decide +kernel⟩
theorem Z_X1_seekHalf : YV yX1_seekHalf := ⟨u_494, u_495⟩
theorem Y_X2_beAtFirst : YM yX2_beAtFirst cX2_beAtFirst 2 (none) 0 := ⟨u_496, u_424, by decide, ⟨by decide +kernel, by decide +kernel⟩, by decide +kernel⟩
theorem Z_X2_beAtFirst : YV yX2_beAtFirst := ⟨u_497, u_498⟩
theorem Y_X2_become : YM yX2_become cX2_become 2 (none) 1 := ⟨u_499, u_424, by decide, ⟨by decide +kernel, by decide +kernel⟩, by decide +kernel⟩
theorem Z_X2_become : YV yX2_become := ⟨u_500, u_501⟩
theorem Y_X2_addStuff : YM yX2_addStuff cX2_addStuff 5 (some .int) 4 := ⟨u_502, u_424, by decide, ⟨by decide +kernel, by decide +kernel⟩, by decide +kernel⟩
theorem Z_X2_addStuff : YV yX2_addStuff := ⟨u_503, u_504⟩
theorem Y_X2_set : YM yX2_set cX2_set 4 (some .int) 2 := ⟨u_505, u_424, by decide, ⟨by decide +kernel, by decide +kernel⟩, by decide +kernel⟩
theorem Z_X2_set : YV yX2_set := ⟨u_506, u_507⟩
theorem Y_X2_setHabit : YM yX2_setHabit cX2_setHabit 4 (some .int) 2 := ⟨u_508, u_424, by decide, ⟨by decide +kernel, by decide +kernel⟩, by decide +kernel⟩
theorem Z_X2_setHabit : YV yX2_setHabit := ⟨u_509, u_510⟩
theorem Y_X6_isCell : YM yX6_isCell cX6_isCell 1 (some .boolean) 1 := ⟨u_511, u_417, by decide, ⟨by decide +kernel, by decide +kernel⟩, by decide +kernel⟩
theorem Z_X6_isCell : Cond.static yX6_isCell ∈ wsL_law := u_512
theorem Y_X2_isStuff : YM yX2_isStuff cX2_isStuff 2 (some .boolean) 1 := ⟨u_513, u_424, by decide, ⟨by decide +kernel, by decide +kernel⟩, by decide +kernel⟩
theorem Z_X2_isStuff : YV yX2_isStuff := ⟨u_514, u_515⟩
theorem Y_X2_canTell : YM yX2_canTell cX2_canTell 4 (some .boolean) 3 := ⟨u_516, u_424, by decide, ⟨by decide +kernel, by decide +kernel⟩, by decide +kernel⟩
theorem Z_X2_canTell : YV yX2_canTell := ⟨u_517, u_518⟩
theorem Y_X2_addTrace : YM yX2_addTrace cX2_addTrace 4 (some .int) 3 := ⟨u_519, u_424, by decide, ⟨by decide +kernel, by decide +kernel⟩, by decide +kernel⟩
theorem Z_X2_addTrace : YV yX2_addTrace := ⟨u_520, u_521⟩
theorem Y_X2_setAside : YM yX2_setAside cX2_setAside 4 (some .int) 2 := ⟨u_522, u_424, by decide, ⟨by decide +kernel, by decide +kernel⟩, by decide +kernel⟩
theorem Z_X2_setAside : YV yX2_setAside := ⟨u_523, u_524⟩
theorem Y_X2_paint : YM yX2_paint cX2_paint 4 (some .int) 2 := ⟨u_525, u_424, by decide, ⟨by decide +kernel, by decide +kernel⟩, by decide +kernel⟩
theorem Z_X2_paint : YV yX2_paint := ⟨u_526, u_527⟩
theorem Y_X2_countAside : YM yX2_countAside cX2_countAside 3 (some .int) 0 := ⟨u_528, u_424, by decide, ⟨by decide +kernel, by decide +kernel⟩, by decide +kernel⟩
theorem Z_X2_countAside : YV yX2_countAside := ⟨u_529, u_530⟩
theorem Y_X2_wearOf : YM yX2_wearOf cX2_wearOf 2 (some .int) 1 := ⟨u_531, u_424, by decide, ⟨by decide +kernel, by decide +kernel⟩, by decide +kernel⟩
theorem Z_X2_wearOf : YV yX2_wearOf := ⟨u_532, u_533⟩
theorem Y_X2_thickOf : YM yX2_thickOf cX2_thickOf 2 (some .int) 1 := ⟨u_534, u_424, by decide, ⟨by decide +kernel, by decide +kernel⟩, by decide +kernel⟩
theorem Z_X2_thickOf : YV yX2_thickOf := ⟨u_535, u_536⟩
theorem Y_X2_upperLeft : YM yX2_upperLeft cX2_upperLeft 3 (some .int) 2 := ⟨u_537, u_424, by decide, ⟨by decide +kernel, by decide +kernel⟩, by decide +kernel⟩
theorem Z_X2_upperLeft : YV yX2_upperLeft := ⟨u_538, u_539⟩
theorem Y_X2_groundLeft : YM yX2_groundLeft cX2_groundLeft 4 (some .int) 2 := ⟨u_540, u_424, by decide, ⟨by decide +kernel, by decide +kernel⟩, by decide +kernel⟩
theorem Z_X2_groundLeft : YV yX2_groundLeft := ⟨u_541, u_542⟩
theorem Y_X2_stoneLost : YM yX2_stoneLost cX2_stoneLost 3 (some .int) 2 := ⟨u_543, u_424, by decide, ⟨by decide +kernel, by decide +kernel⟩, by decide +kernel⟩
theorem Z_X2_stoneLost : YV yX2_stoneLost := ⟨u_544, u_545⟩
theorem Y_X2_lampsOfCoat : YM yX2_lampsOfCoat cX2_lampsOfCoat 3 (some .int) 2 := ⟨u_546, u_424, by decide, ⟨by decide +kernel, by decide +kernel⟩, by decide +kernel⟩
theorem Z_X2_lampsOfCoat : YV yX2_lampsOfCoat := ⟨u_547, u_548⟩
theorem Y_X2_lampsOf : YM yX2_lampsOf cX2_lampsOf 3 (some .int) 2 := ⟨u_549, u_424, by decide, ⟨by decide +kernel, by decide +kernel⟩, by decide +kernel⟩
theorem Z_X2_lampsOf : YV yX2_lampsOf := ⟨u_550, u_551⟩
theorem Y_X2_grainsOf : YM yX2_grainsOf cX2_grainsOf 5 (some .int) 2 := ⟨u_552, u_424, by decide, ⟨by decide +kernel, by decide +kernel⟩, by decide +kernel⟩
theorem Z_X2_grainsOf : YV yX2_grainsOf := ⟨u_553, u_554⟩
theorem Y_X6_topOf : YM yX6_topOf cX6_topOf 2 (some .int) 1 := ⟨u_555, u_417, by decide, ⟨by decide +kernel, by decide +kernel⟩, by decide +kernel⟩
theorem Z_X6_topOf : Cond.static yX6_topOf ∈ wsL_law := u_556
theorem Y_X2_brightOf : YM yX2_brightOf cX2_brightOf 3 (some .int) 1 := ⟨u_557, u_424, by decide, ⟨by decide +kernel, by decide +kernel⟩, by decide +kernel⟩
theorem Z_X2_brightOf : YV yX2_brightOf := ⟨u_558, u_559⟩
theorem Y_X2_mix : YM yX2_mix cX2_mix 6 (some .long) 1 := ⟨u_560, u_424, by decide, ⟨by decide +kernel, by decide +kernel⟩, by decide +kernel⟩
theorem Z_X2_mix : YV yX2_mix := ⟨u_561, u_562⟩
theorem Y_X3_write : YM yX3_write cX3_write 5 (some .int) 2 := ⟨u_563, u_564, by decide, ⟨by decide +kernel, by decide +kernel⟩, by decide +kernel⟩
theorem Z_X3_write : YV yX3_write := ⟨u_565, u_566⟩
theorem Y_X3_wipe : YM yX3_wipe cX3_wipe 2 (some .int) 0 := ⟨u_567, u_564, by decide, ⟨by decide +kernel, by decide +kernel⟩, by decide +kernel⟩
theorem Z_X3_wipe : YV yX3_wipe := ⟨u_568, u_569⟩
theorem Y_X3_byteAt : YM yX3_byteAt cX3_byteAt 2 (some .int) 1 := ⟨u_570, u_564, by decide, ⟨by decide +kernel, by decide +kernel⟩, by decide +kernel⟩
theorem Z_X3_byteAt : YV yX3_byteAt := ⟨u_571, u_572⟩
theorem Y_X3_isLetter : YM yX3_isLetter cX3_isLetter 1 (some .boolean) 1 := ⟨u_573, u_564, by decide, ⟨by decide +kernel, by decide +kernel⟩, by decide +kernel⟩
theorem Z_X3_isLetter : Cond.static yX3_isLetter ∈ wsL_law := u_574
theorem Y_X3_wordFrom : YM yX3_wordFrom cX3_wordFrom 7 (some .int) 1 := ⟨u_575, u_564, by decide, ⟨by decide +kernel, by decide +kernel⟩, by decide +kernel⟩
theorem Z_X3_wordFrom : YV yX3_wordFrom := ⟨u_576, u_577⟩
theorem Y_X3_readWord : YM yX3_readWord cX3_readWord 1 (none) 0 := ⟨u_578, u_564, by decide, ⟨by decide +kernel, by decide +kernel⟩, by decide +kernel⟩
theorem Z_X3_readWord : YV yX3_readWord := ⟨u_579, u_580⟩
theorem Y_X3_isFigure : YM yX3_isFigure cX3_isFigure 1 (some .boolean) 1 := ⟨u_581, u_564, by decide, ⟨by decide +kernel, by decide +kernel⟩, by decide +kernel⟩
theorem Z_X3_isFigure : Cond.static yX3_isFigure ∈ wsL_law := u_582
theorem Y_X3_readNumber : YM yX3_readNumber cX3_readNumber 1 (none) 0 := ⟨u_583, u_564, by decide, ⟨by decide +kernel, by decide +kernel⟩, by decide +kernel⟩
theorem Z_X3_readNumber : YV yX3_readNumber := ⟨u_584, u_585⟩
theorem Y_X3_readToken : YM yX3_readToken cX3_readToken 2 (none) 0 := ⟨u_586, u_564, by decide, ⟨by decide +kernel, by decide +kernel⟩, by decide +kernel⟩
theorem Z_X3_readToken : YV yX3_readToken := ⟨u_587, u_588⟩
theorem Y_X3_readItem : YM yX3_readItem cX3_readItem 3 (some .boolean) 0 := ⟨u_589, u_564, by decide, ⟨by decide +kernel, by decide +kernel⟩, by decide +kernel⟩
theorem Z_X3_readItem : YV yX3_readItem := ⟨u_590, u_591⟩
theorem Y_X3_answerTo : YM yX3_answerTo cX3_answerTo 3 (some .int) 2 := ⟨u_592, u_564, by decide, ⟨by decide +kernel, by decide +kernel⟩, by decide +kernel⟩
theorem Z_X3_answerTo : YV yX3_answerTo := ⟨u_593, u_594⟩
theorem Y_X3_tellItem : YM yX3_tellItem cX3_tellItem 3 (some .boolean) 2 := ⟨u_595, u_564, by decide, ⟨by decide +kernel, by decide +kernel⟩, by decide +kernel⟩
theorem Z_X3_tellItem : YV yX3_tellItem := ⟨u_596, u_597⟩
theorem Y_X3_tell : YM yX3_tell cX3_tell 6 (some .int) 1 := ⟨u_598, u_564, by decide, ⟨by decide +kernel, by decide +kernel⟩, by decide +kernel⟩
theorem Z_X3_tell : YV yX3_tell := ⟨u_599, u_600⟩
theorem Y_X4_take : YM yX4_take cX4_take 5 (none) 1 := ⟨u_601, u_430, by decide, ⟨by decide +kernel, by decide +kernel⟩, by decide +kernel⟩
theorem Z_X4_take : YV yX4_take := ⟨u_602, u_603⟩
theorem Y_X5_digit : YM yX5_digit cX5_digit 2 (some .int) 1 := ⟨u_604, u_370, by decide, ⟨by decide +kernel, by decide +kernel⟩, by decide +kernel⟩
theorem Z_X5_digit : YV yX5_digit := ⟨u_605, u_606⟩
theorem Y_X5_add : YM yX5_add cX5_add 4 (none) 1 := ⟨u_607, u_370, by decide, ⟨by decide +kernel, by decide +kernel⟩, by decide +kernel⟩
theorem Z_X5_add : YV yX5_add := ⟨u_608, u_609⟩
theorem Y_X5_multiply : YM yX5_multiply cX5_multiply 9 (none) 1 := ⟨u_610, u_370, by decide, ⟨by decide +kernel, by decide +kernel⟩, by decide +kernel⟩
theorem Z_X5_multiply : YV yX5_multiply := ⟨u_611, u_612⟩
theorem Y_X5_mix : YM yX5_mix cX5_mix 6 (some .long) 1 := ⟨u_613, u_370, by decide, ⟨by decide +kernel, by decide +kernel⟩, by decide +kernel⟩
theorem Z_X5_mix : YV yX5_mix := ⟨u_614, u_615⟩
theorem Y_X6_told : YM yX6_told cX6_told 2 (some .int) 1 := ⟨u_616, u_417, by decide, ⟨by decide +kernel, by decide +kernel⟩, by decide +kernel⟩
theorem Z_X6_told : YV yX6_told := ⟨u_617, u_618⟩
theorem Y_X6_stuff : YM yX6_stuff cX6_stuff 5 (some .int) 4 := ⟨u_619, u_417, by decide, ⟨by decide +kernel, by decide +kernel⟩, by decide +kernel⟩
theorem Z_X6_stuff : YV yX6_stuff := ⟨u_620, u_621⟩
theorem Y_X6_put : YM yX6_put cX6_put 3 (some .int) 2 := ⟨u_622, u_417, by decide, ⟨by decide +kernel, by decide +kernel⟩, by decide +kernel⟩
theorem Z_X6_put : YV yX6_put := ⟨u_623, u_624⟩
theorem Y_X6_habit : YM yX6_habit cX6_habit 3 (some .int) 2 := ⟨u_625, u_417, by decide, ⟨by decide +kernel, by decide +kernel⟩, by decide +kernel⟩
theorem Z_X6_habit : YV yX6_habit := ⟨u_626, u_627⟩
theorem Y_X6_trace : YM yX6_trace cX6_trace 4 (some .int) 3 := ⟨u_628, u_417, by decide, ⟨by decide +kernel, by decide +kernel⟩, by decide +kernel⟩
theorem Z_X6_trace : YV yX6_trace := ⟨u_629, u_630⟩
theorem Y_X6_aside : YM yX6_aside cX6_aside 3 (some .int) 2 := ⟨u_631, u_417, by decide, ⟨by decide +kernel, by decide +kernel⟩, by decide +kernel⟩
theorem Z_X6_aside : YV yX6_aside := ⟨u_632, u_633⟩
theorem Y_X6_copy : YM yX6_copy cX6_copy 4 (some .int) 2 := ⟨u_634, u_417, by decide, ⟨by decide +kernel, by decide +kernel⟩, by decide +kernel⟩
theorem Z_X6_copy : YV yX6_copy := ⟨u_635, u_636⟩
theorem Y_X6_type : YM yX6_type cX6_type 4 (some .int) 2 := ⟨u_637, u_417, by decide, ⟨by decide +kernel, by decide +kernel⟩, by decide +kernel⟩
theorem Z_X6_type : YV yX6_type := ⟨u_638, u_639⟩
theorem Y_X6_clear : YM yX6_clear cX6_clear 1 (some .int) 0 := ⟨u_640, u_417, by decide, ⟨by decide +kernel, by decide +kernel⟩, by decide +kernel⟩
theorem Z_X6_clear : YV yX6_clear := ⟨u_641, u_642⟩
theorem Y_X6_statue : YM yX6_statue cX6_statue 2 (some .int) 0 := ⟨u_643, u_417, by decide, ⟨by decide +kernel, by decide +kernel⟩, by decide +kernel⟩
theorem Z_X6_statue : YV yX6_statue := ⟨u_644, u_645⟩
theorem Y_X6_left : YM yX6_left cX6_left 5 (some .int) 3 := ⟨u_646, u_417, by decide, ⟨by decide +kernel, by decide +kernel⟩, by decide +kernel⟩
theorem Z_X6_left : YV yX6_left := ⟨u_647, u_648⟩
theorem Y_X6_shines : YM yX6_shines cX6_shines 4 (some .int) 3 := ⟨u_649, u_417, by decide, ⟨by decide +kernel, by decide +kernel⟩, by decide +kernel⟩
theorem Z_X6_shines : YV yX6_shines := ⟨u_650, u_651⟩
theorem Y_X6_lookAt : YM yX6_lookAt cX6_lookAt 3 (none) 2 := ⟨u_652, u_417, by decide, ⟨by decide +kernel, by decide +kernel⟩, by decide +kernel⟩
theorem Z_X6_lookAt : YV yX6_lookAt := ⟨u_653, u_654⟩
theorem Y_X6_fits : YM yX6_fits cX6_fits 3 (some .int) 2 := ⟨u_655, u_417, by decide, ⟨by decide +kernel, by decide +kernel⟩, by decide +kernel⟩
theorem Z_X6_fits : YV yX6_fits := ⟨u_656, u_657⟩
theorem Y_X6_reckonAround : YM yX6_reckonAround cX6_reckonAround 2 (some .boolean) 1 := ⟨u_658, u_417, by decide, ⟨by decide +kernel, by decide +kernel⟩, by decide +kernel⟩
theorem Z_X6_reckonAround : YV yX6_reckonAround := ⟨u_659, u_660⟩
theorem Y_X6_odds : YM yX6_odds cX6_odds 3 (some .int) 2 := ⟨u_661, u_417, by decide, ⟨by decide +kernel, by decide +kernel⟩, by decide +kernel⟩
theorem Z_X6_odds : YV yX6_odds := ⟨u_662, u_663⟩
theorem Y_X6_above : YM yX6_above cX6_above 5 (some .int) 1 := ⟨u_664, u_417, by decide, ⟨by decide +kernel, by decide +kernel⟩, by decide +kernel⟩
theorem Z_X6_above : YV yX6_above := ⟨u_665, u_666⟩
theorem Y_X6_isHem : YM yX6_isHem cX6_isHem 1 (some .boolean) 1 := ⟨u_667, u_417, by decide, ⟨by decide +kernel, by decide +kernel⟩, by decide +kernel⟩
theorem Z_X6_isHem : Cond.static yX6_isHem ∈ wsL_law := u_668
theorem Y_X6_likeliest : YM yX6_likeliest cX6_likeliest 3 (some .int) 2 := ⟨u_669, u_417, by decide, ⟨by decide +kernel, by decide +kernel⟩, by decide +kernel⟩
theorem Z_X6_likeliest : YV yX6_likeliest := ⟨u_670, u_671⟩
theorem Y_X6_multiplyHems : YM yX6_multiplyHems cX6_multiplyHems 3 (none) 1 := ⟨u_672, u_417, by decide, ⟨by decide +kernel, by decide +kernel⟩, by decide +kernel⟩
theorem Z_X6_multiplyHems : YV yX6_multiplyHems := ⟨u_673, u_674⟩
theorem Y_X6_stood : YM yX6_stood cX6_stood 3 (some .int) 1 := ⟨u_675, u_417, by decide, ⟨by decide +kernel, by decide +kernel⟩, by decide +kernel⟩
theorem Z_X6_stood : YV yX6_stood := ⟨u_676, u_677⟩
theorem Y_X6_allHemsCanBe : YM yX6_allHemsCanBe cX6_allHemsCanBe 3 (some .boolean) 1 := ⟨u_678, u_417, by decide, ⟨by decide +kernel, by decide +kernel⟩, by decide +kernel⟩
theorem Z_X6_allHemsCanBe : YV yX6_allHemsCanBe := ⟨u_679, u_680⟩
theorem Y_X6_span : YM yX6_span cX6_span 5 (some .int) 2 := ⟨u_681, u_417, by decide, ⟨by decide +kernel, by decide +kernel⟩, by decide +kernel⟩
theorem Z_X6_span : YV yX6_span := ⟨u_682, u_683⟩
theorem Y_X6_later : YM yX6_later cX6_later 2 (some .int) 1 := ⟨u_684, u_417, by decide, ⟨by decide +kernel, by decide +kernel⟩, by decide +kernel⟩
theorem Z_X6_later : YV yX6_later := ⟨u_685, u_686⟩
theorem Y_X6_highBits : YM yX6_highBits cX6_highBits 10 (some .long) 2 := ⟨u_687, u_417, by decide, ⟨by decide +kernel, by decide +kernel⟩, by decide +kernel⟩
theorem Z_X6_highBits : Cond.static yX6_highBits ∈ wsL_law := u_688
theorem Y_X6_isLess_ : YM yX6_isLess_ cX6_isLess_ 12 (some .boolean) 4 := ⟨u_689, u_417, by decide, ⟨by decide +kernel, by decide +kernel⟩, by decide +kernel⟩
theorem Z_X6_isLess_ : Cond.static yX6_isLess_ ∈ wsL_law := u_690
theorem Y_X6_next : YM yX6_next cX6_next 7 (some .int) 0 := ⟨u_691, u_417, by decide, ⟨by decide +kernel, by decide +kernel⟩, by decide +kernel⟩
theorem Z_X6_next : YV yX6_next := ⟨u_692, u_693⟩
theorem Y_X6_restsOn : YM yX6_restsOn cX6_restsOn 5 (some .int) 1 := ⟨u_694, u_417, by decide, ⟨by decide +kernel, by decide +kernel⟩, by decide +kernel⟩
theorem Z_X6_restsOn : YV yX6_restsOn := ⟨u_695, u_696⟩
theorem Y_X6_rests : YM yX6_rests cX6_rests 2 (some .int) 1 := ⟨u_697, u_417, by decide, ⟨by decide +kernel, by decide +kernel⟩, by decide +kernel⟩
theorem Z_X6_rests : YV yX6_rests := ⟨u_698, u_699⟩
theorem Y_X6_resting : YM yX6_resting cX6_resting 5 (some .int) 2 := ⟨u_700, u_417, by decide, ⟨by decide +kernel, by decide +kernel⟩, by decide +kernel⟩
theorem Z_X6_resting : YV yX6_resting := ⟨u_701, u_702⟩
theorem Y_X6_meanBright : YM yX6_meanBright cX6_meanBright 3 (some .int) 1 := ⟨u_703, u_417, by decide, ⟨by decide +kernel, by decide +kernel⟩, by decide +kernel⟩
theorem Z_X6_meanBright : YV yX6_meanBright := ⟨u_704, u_705⟩
theorem Y_X6_farthestBright : YM yX6_farthestBright cX6_farthestBright 6 (some .int) 2 := ⟨u_706, u_417, by decide, ⟨by decide +kernel, by decide +kernel⟩, by decide +kernel⟩
theorem Z_X6_farthestBright : YV yX6_farthestBright := ⟨u_707, u_708⟩
theorem Y_X6_bright : YM yX6_bright cX6_bright 3 (some .int) 2 := ⟨u_709, u_417, by decide, ⟨by decide +kernel, by decide +kernel⟩, by decide +kernel⟩
theorem Z_X6_bright : YV yX6_bright := ⟨u_710, u_711⟩
theorem Y_X6_sign : YM yX6_sign cX6_sign 2 (some .int) 1 := ⟨u_712, u_417, by decide, ⟨by decide +kernel, by decide +kernel⟩, by decide +kernel⟩
theorem Z_X6_sign : YV yX6_sign := ⟨u_713, u_714⟩
theorem Y_X6_limb : YM yX6_limb cX6_limb 3 (some .int) 2 := ⟨u_715, u_417, by decide, ⟨by decide +kernel, by decide +kernel⟩, by decide +kernel⟩
theorem Z_X6_limb : YV yX6_limb := ⟨u_716, u_717⟩
theorem Y_X6_image : YM yX6_image cX6_image 2 (some .int) 1 := ⟨u_718, u_417, by decide, ⟨by decide +kernel, by decide +kernel⟩, by decide +kernel⟩
theorem Z_X6_image : YV yX6_image := ⟨u_719, u_720⟩
theorem Y_X6_from : YM yX6_from cX6_from 2 (some .int) 1 := ⟨u_721, u_417, by decide, ⟨by decide +kernel, by decide +kernel⟩, by decide +kernel⟩
theorem Z_X6_from : YV yX6_from := ⟨u_722, u_723⟩
theorem Y_X6_status : YM yX6_status cX6_status 2 (some .int) 1 := ⟨u_724, u_417, by decide, ⟨by decide +kernel, by decide +kernel⟩, by decide +kernel⟩
theorem Z_X6_status : YV yX6_status := ⟨u_725, u_726⟩
theorem Y_X6_count : YM yX6_count cX6_count 2 (some .int) 1 := ⟨u_727, u_417, by decide, ⟨by decide +kernel, by decide +kernel⟩, by decide +kernel⟩
theorem Z_X6_count : YV yX6_count := ⟨u_728, u_729⟩
theorem Y_X6_digest : YM yX6_digest cX6_digest 3 (some .long) 0 := ⟨u_730, u_417, by decide, ⟨by decide +kernel, by decide +kernel⟩, by decide +kernel⟩
theorem Z_X6_digest : YV yX6_digest := ⟨u_731, u_732⟩
theorem Y_X7_in : YM yX7_in cX7_in 6 (some .boolean) 3 := ⟨u_733, u_734, by decide, ⟨by decide +kernel, by decide +kernel⟩, by decide +kernel⟩
theorem Z_X7_in : Cond.static yX7_in ∈ wsL_law := u_735
theorem Y_X7_begins : YM yX7_begins cX7_begins 2 (none) 0 := ⟨u_736, u_734, by decide, ⟨by decide +kernel, by decide +kernel⟩, by decide +kernel⟩
theorem Z_X7_begins : YV yX7_begins := ⟨u_737, u_738⟩
theorem Y_X7_refuses : YM yX7_refuses cX7_refuses 3 (some .int) 2 := ⟨u_739, u_734, by decide, ⟨by decide +kernel, by decide +kernel⟩, by decide +kernel⟩
theorem Z_X7_refuses : YV yX7_refuses := ⟨u_740, u_741⟩
theorem Y_X7_bad : YM yX7_bad cX7_bad 1 (some .int) 0 := ⟨u_742, u_734, by decide, ⟨by decide +kernel, by decide +kernel⟩, by decide +kernel⟩
theorem Z_X7_bad : YV yX7_bad := ⟨u_743, u_744⟩
theorem Y_X7_no : YM yX7_no cX7_no 1 (some .int) 0 := ⟨u_745, u_734, by decide, ⟨by decide +kernel, by decide +kernel⟩, by decide +kernel⟩
theorem Z_X7_no : YV yX7_no := ⟨u_746, u_747⟩
theorem Y_X7_full : YM yX7_full cX7_full 1 (some .int) 0 := ⟨u_748, u_734, by decide, ⟨by decide +kernel, by decide +kernel⟩, by decide +kernel⟩
theorem Z_X7_full : YV yX7_full := ⟨u_749, u_750⟩
theorem Y_X7_trims : YM yX7_trims cX7_trims 2 (none) 1 := ⟨u_751, u_734, by decide, ⟨by decide +kernel, by decide +kernel⟩, by decide +kernel⟩
theorem Z_X7_trims : YV yX7_trims := ⟨u_752, u_753⟩
theorem Y_X7_sets : YM yX7_sets cX7_sets 5 (none) 2 := ⟨u_754, u_734, by decide, ⟨by decide +kernel, by decide +kernel⟩, by decide +kernel⟩
theorem Z_X7_sets : YV yX7_sets := ⟨u_755, u_756⟩
theorem Y_X7_copies : YM yX7_copies cX7_copies 4 (none) 2 := ⟨u_757, u_734, by decide, ⟨by decide +kernel, by decide +kernel⟩, by decide +kernel⟩
theorem Z_X7_copies : YV yX7_copies := ⟨u_758, u_759⟩
theorem Y_X7_times : YM yX7_times cX7_times 8 (none) 2 := ⟨u_760, u_734, by decide, ⟨by decide +kernel, by decide +kernel⟩, by decide +kernel⟩
theorem Z_X7_times : YV yX7_times := ⟨u_761, u_762⟩
theorem Y_X7_multiplies : YM yX7_multiplies cX7_multiplies 11 (none) 2 := ⟨u_763, u_734, by decide, ⟨by decide +kernel, by decide +kernel⟩, by decide +kernel⟩
theorem Z_X7_multiplies : YV yX7_multiplies := ⟨u_764, u_765⟩
theorem Y_X7_adds : YM yX7_adds cX7_adds 7 (none) 2 := ⟨u_766, u_734, by decide, ⟨by decide +kernel, by decide +kernel⟩, by decide +kernel⟩
theorem Z_X7_adds : YV yX7_adds := ⟨u_767, u_768⟩
theorem Y_X7_lessens : YM yX7_lessens cX7_lessens 6 (none) 2 := ⟨u_769, u_734, by decide, ⟨by decide +kernel, by decide +kernel⟩, by decide +kernel⟩
theorem Z_X7_lessens : YV yX7_lessens := ⟨u_770, u_771⟩
theorem Y_X7_against : YM yX7_against cX7_against 4 (some .int) 2 := ⟨u_772, u_734, by decide, ⟨by decide +kernel, by decide +kernel⟩, by decide +kernel⟩
theorem Z_X7_against : YV yX7_against := ⟨u_773, u_774⟩
theorem Y_X7_isEven : YM yX7_isEven cX7_isEven 2 (some .boolean) 1 := ⟨u_775, u_734, by decide, ⟨by decide +kernel, by decide +kernel⟩, by decide +kernel⟩
theorem Z_X7_isEven : YV yX7_isEven := ⟨u_776, u_777⟩
theorem Y_X7_halves : YM yX7_halves cX7_halves 4 (none) 1 := ⟨u_778, u_734, by decide, ⟨by decide +kernel, by decide +kernel⟩, by decide +kernel⟩
theorem Z_X7_halves : YV yX7_halves := ⟨u_779, u_780⟩
theorem Y_X7_parts : YM yX7_parts cX7_parts 13 (none) 1 := ⟨u_781, u_734, by decide, ⟨by decide +kernel, by decide +kernel⟩, by decide +kernel⟩
theorem Z_X7_parts : YV yX7_parts := ⟨u_782, u_783⟩
theorem Y_X7_lowers : YM yX7_lowers cX7_lowers 2 (none) 0 := ⟨u_784, u_734, by decide, ⟨by decide +kernel, by decide +kernel⟩, by decide +kernel⟩
theorem Z_X7_lowers : YV yX7_lowers := ⟨u_785, u_786⟩
theorem Y_X7_sign : YM yX7_sign cX7_sign 2 (some .int) 1 := ⟨u_787, u_734, by decide, ⟨by decide +kernel, by decide +kernel⟩, by decide +kernel⟩
theorem Z_X7_sign : YV yX7_sign := ⟨u_788, u_789⟩
theorem Y_X7_limb : YM yX7_limb cX7_limb 3 (some .int) 2 := ⟨u_790, u_734, by decide, ⟨by decide +kernel, by decide +kernel⟩, by decide +kernel⟩
theorem Z_X7_limb : YV yX7_limb := ⟨u_791, u_792⟩
theorem Y_X7_puts : YM yX7_puts cX7_puts 4 (some .int) 2 := ⟨u_793, u_734, by decide, ⟨by decide +kernel, by decide +kernel⟩, by decide +kernel⟩
theorem Z_X7_puts : YV yX7_puts := ⟨u_794, u_795⟩
theorem Y_X7_isCell : YM yX7_isCell cX7_isCell 1 (some .boolean) 1 := ⟨u_796, u_734, by decide, ⟨by decide +kernel, by decide +kernel⟩, by decide +kernel⟩
theorem Z_X7_isCell : Cond.static yX7_isCell ∈ wsL_law := u_797
theorem Y_X7_isStuff : YM yX7_isStuff cX7_isStuff 2 (some .boolean) 1 := ⟨u_798, u_734, by decide, ⟨by decide +kernel, by decide +kernel⟩, by decide +kernel⟩
theorem Z_X7_isStuff : YV yX7_isStuff := ⟨u_799, u_800⟩
theorem Y_X7_ofStuff : YM yX7_ofStuff cX7_ofStuff 3 (some .int) 2 := ⟨u_801, u_734, by decide, ⟨by decide +kernel, by decide +kernel⟩, by decide +kernel⟩
theorem Z_X7_ofStuff : YV yX7_ofStuff := ⟨u_802, u_803⟩
theorem Y_X7_stuff : YM yX7_stuff cX7_stuff 6 (some .int) 4 := ⟨u_804, u_734, by decide, ⟨by decide +kernel, by decide +kernel⟩, by decide +kernel⟩
theorem Z_X7_stuff : YV yX7_stuff := ⟨u_805, u_806⟩
theorem Y_X7_put : YM yX7_put cX7_put 4 (some .int) 2 := ⟨u_807, u_734, by decide, ⟨by decide +kernel, by decide +kernel⟩, by decide +kernel⟩
theorem Z_X7_put : YV yX7_put := ⟨u_808, u_809⟩
theorem Y_X7_habit : YM yX7_habit cX7_habit 3 (some .int) 2 := ⟨u_810, u_734, by decide, ⟨by decide +kernel, by decide +kernel⟩, by decide +kernel⟩
theorem Z_X7_habit : YV yX7_habit := ⟨u_811, u_812⟩
theorem Y_X7_isTrace : YM yX7_isTrace cX7_isTrace 4 (some .boolean) 3 := ⟨u_813, u_734, by decide, ⟨by decide +kernel, by decide +kernel⟩, by decide +kernel⟩
theorem Z_X7_isTrace : YV yX7_isTrace := ⟨u_814, u_815⟩
theorem Y_X7_trace : YM yX7_trace cX7_trace 5 (some .int) 3 := ⟨u_816, u_734, by decide, ⟨by decide +kernel, by decide +kernel⟩, by decide +kernel⟩
theorem Z_X7_trace : YV yX7_trace := ⟨u_817, u_818⟩
theorem Y_X7_ofTrace : YM yX7_ofTrace cX7_ofTrace 3 (some .int) 2 := ⟨u_819, u_734, by decide, ⟨by decide +kernel, by decide +kernel⟩, by decide +kernel⟩
theorem Z_X7_ofTrace : YV yX7_ofTrace := ⟨u_820, u_821⟩
theorem Y_X7_aside : YM yX7_aside cX7_aside 3 (some .int) 2 := ⟨u_822, u_734, by decide, ⟨by decide +kernel, by decide +kernel⟩, by decide +kernel⟩
theorem Z_X7_aside : YV yX7_aside := ⟨u_823, u_824⟩
theorem Y_X7_copy : YM yX7_copy cX7_copy 3 (some .int) 2 := ⟨u_825, u_734, by decide, ⟨by decide +kernel, by decide +kernel⟩, by decide +kernel⟩
theorem Z_X7_copy : YV yX7_copy := ⟨u_826, u_827⟩
theorem Y_X7_type : YM yX7_type cX7_type 5 (some .int) 2 := ⟨u_828, u_734, by decide, ⟨by decide +kernel, by decide +kernel⟩, by decide +kernel⟩
theorem Z_X7_type : YV yX7_type := ⟨u_829, u_830⟩
theorem Y_X7_clear : YM yX7_clear cX7_clear 2 (some .int) 0 := ⟨u_831, u_734, by decide, ⟨by decide +kernel, by decide +kernel⟩, by decide +kernel⟩
theorem Z_X7_clear : YV yX7_clear := ⟨u_832, u_833⟩
theorem Y_X7_isAt : YM yX7_isAt cX7_isAt 3 (some .boolean) 2 := ⟨u_834, u_734, by decide, ⟨by decide +kernel, by decide +kernel⟩, by decide +kernel⟩
theorem Z_X7_isAt : YV yX7_isAt := ⟨u_835, u_836⟩
theorem Y_X7_wordOf : YM yX7_wordOf cX7_wordOf 4 (some .int) 1 := ⟨u_837, u_734, by decide, ⟨by decide +kernel, by decide +kernel⟩, by decide +kernel⟩
theorem Z_X7_wordOf : Cond.static yX7_wordOf ∈ wsL_law := u_838
theorem Y_X7_scans : YM yX7_scans cX7_scans 3 (none) 0 := ⟨u_839, u_734, by decide, ⟨by decide +kernel, by decide +kernel⟩, by decide +kernel⟩
theorem Z_X7_scans : YV yX7_scans := ⟨u_840, u_841⟩
theorem Y_X7_numbers : YM yX7_numbers cX7_numbers 1 (some .int) 1 := ⟨u_842, u_734, by decide, ⟨by decide +kernel, by decide +kernel⟩, by decide +kernel⟩
theorem Z_X7_numbers : Cond.static yX7_numbers ∈ wsL_law := u_843
theorem Y_X7_reads : YM yX7_reads cX7_reads 3 (some .boolean) 0 := ⟨u_844, u_734, by decide, ⟨by decide +kernel, by decide +kernel⟩, by decide +kernel⟩
theorem Z_X7_reads : YV yX7_reads := ⟨u_845, u_846⟩
theorem Y_X7_tellsItem : YM yX7_tellsItem cX7_tellsItem 4 (some .boolean) 1 := ⟨u_847, u_734, by decide, ⟨by decide +kernel, by decide +kernel⟩, by decide +kernel⟩
theorem Z_X7_tellsItem : YV yX7_tellsItem := ⟨u_848, u_849⟩
theorem Y_X7_statue : YM yX7_statue cX7_statue 3 (some .int) 0 := ⟨u_850, u_734, by decide, ⟨by decide +kernel, by decide +kernel⟩, by decide +kernel⟩
theorem Z_X7_statue : YV yX7_statue := ⟨u_851, u_852⟩
theorem Y_X7_groundOf : YM yX7_groundOf cX7_groundOf 1 (some .int) 1 := ⟨u_853, u_734, by decide, ⟨by decide +kernel, by decide +kernel⟩, by decide +kernel⟩
theorem Z_X7_groundOf : Cond.static yX7_groundOf ∈ wsL_law := u_854
theorem Y_X7_overOf : YM yX7_overOf cX7_overOf 1 (some .int) 1 := ⟨u_855, u_734, by decide, ⟨by decide +kernel, by decide +kernel⟩, by decide +kernel⟩
theorem Z_X7_overOf : Cond.static yX7_overOf ∈ wsL_law := u_856
theorem Y_X7_isStack : YM yX7_isStack cX7_isStack 2 (some .boolean) 1 := ⟨u_857, u_734, by decide, ⟨by decide +kernel, by decide +kernel⟩, by decide +kernel⟩
theorem Z_X7_isStack : YV yX7_isStack := ⟨u_858, u_859⟩
theorem Y_X7_wearOf : YM yX7_wearOf cX7_wearOf 2 (some .int) 1 := ⟨u_860, u_734, by decide, ⟨by decide +kernel, by decide +kernel⟩, by decide +kernel⟩
theorem Z_X7_wearOf : YV yX7_wearOf := ⟨u_861, u_862⟩
theorem Y_X7_thick : YM yX7_thick cX7_thick 2 (some .int) 1 := ⟨u_863, u_734, by decide, ⟨by decide +kernel, by decide +kernel⟩, by decide +kernel⟩
theorem Z_X7_thick : YV yX7_thick := ⟨u_864, u_865⟩
theorem Y_X7_leftOf : YM yX7_leftOf cX7_leftOf 8 (some .int) 3 := ⟨u_866, u_734, by decide, ⟨by decide +kernel, by decide +kernel⟩, by decide +kernel⟩
theorem Z_X7_leftOf : YV yX7_leftOf := ⟨u_867, u_868⟩
theorem Y_X7_isBright : YM yX7_isBright cX7_isBright 7 (some .boolean) 3 := ⟨u_869, u_734, by decide, ⟨by decide +kernel, by decide +kernel⟩, by decide +kernel⟩
theorem Z_X7_isBright : YV yX7_isBright := ⟨u_870, u_871⟩
theorem Y_X7_isSo : YM yX7_isSo cX7_isSo 5 (some .boolean) 3 := ⟨u_872, u_734, by decide, ⟨by decide +kernel, by decide +kernel⟩, by decide +kernel⟩
theorem Z_X7_isSo : YV yX7_isSo := ⟨u_873, u_874⟩
theorem Y_X7_isLooked : YM yX7_isLooked cX7_isLooked 3 (some .boolean) 2 := ⟨u_875, u_734, by decide, ⟨by decide +kernel, by decide +kernel⟩, by decide +kernel⟩
theorem Z_X7_isLooked : YV yX7_isLooked := ⟨u_876, u_877⟩
theorem Y_X7_isFit : YM yX7_isFit cX7_isFit 6 (some .boolean) 3 := ⟨u_878, u_734, by decide, ⟨by decide +kernel, by decide +kernel⟩, by decide +kernel⟩
theorem Z_X7_isFit : YV yX7_isFit := ⟨u_879, u_880⟩
theorem Y_X7_left : YM yX7_left cX7_left 4 (some .int) 3 := ⟨u_881, u_734, by decide, ⟨by decide +kernel, by decide +kernel⟩, by decide +kernel⟩
theorem Z_X7_left : YV yX7_left := ⟨u_882, u_883⟩
theorem Y_X7_shines : YM yX7_shines cX7_shines 4 (some .int) 3 := ⟨u_884, u_734, by decide, ⟨by decide +kernel, by decide +kernel⟩, by decide +kernel⟩
theorem Z_X7_shines : YV yX7_shines := ⟨u_885, u_886⟩
theorem Y_X7_fits : YM yX7_fits cX7_fits 3 (some .int) 2 := ⟨u_887, u_734, by decide, ⟨by decide +kernel, by decide +kernel⟩, by decide +kernel⟩
theorem Z_X7_fits : YV yX7_fits := ⟨u_888, u_889⟩
theorem Y_X7_looks : YM yX7_looks cX7_looks 6 (none) 2 := ⟨u_890, u_734, by decide, ⟨by decide +kernel, by decide +kernel⟩, by decide +kernel⟩
theorem Z_X7_looks : YV yX7_looks := ⟨u_891, u_892⟩
theorem Y_X7_goes : YM yX7_goes cX7_goes 5 (some .int) 3 := ⟨u_893, u_734, by decide, ⟨by decide +kernel, by decide +kernel⟩, by decide +kernel⟩
theorem Z_X7_goes : YV yX7_goes := ⟨u_894, u_895⟩
theorem Y_X7_can : YM yX7_can cX7_can 7 (some .boolean) 2 := ⟨u_896, u_734, by decide, ⟨by decide +kernel, by decide +kernel⟩, by decide +kernel⟩
theorem Z_X7_can : YV yX7_can := ⟨u_897, u_898⟩
theorem Y_X7_forth : YM yX7_forth cX7_forth 6 (some .boolean) 1 := ⟨u_899, u_734, by decide, ⟨by decide +kernel, by decide +kernel⟩, by decide +kernel⟩
theorem Z_X7_forth : YV yX7_forth := ⟨u_900, u_901⟩
theorem Y_X7_back : YM yX7_back cX7_back 6 (none) 1 := ⟨u_902, u_734, by decide, ⟨by decide +kernel, by decide +kernel⟩, by decide +kernel⟩
theorem Z_X7_back : YV yX7_back := ⟨u_903, u_904⟩
theorem Y_X7_rows : YM yX7_rows cX7_rows 3 (some .boolean) 1 := ⟨u_905, u_734, by decide, ⟨by decide +kernel, by decide +kernel⟩, by decide +kernel⟩
theorem Z_X7_rows : YV yX7_rows := ⟨u_906, u_907⟩
theorem Y_X7_addsRows : YM yX7_addsRows cX7_addsRows 3 (none) 2 := ⟨u_908, u_734, by decide, ⟨by decide +kernel, by decide +kernel⟩, by decide +kernel⟩
theorem Z_X7_addsRows : YV yX7_addsRows := ⟨u_909, u_910⟩
theorem Y_X7_tellsSum : YM yX7_tellsSum cX7_tellsSum 1 (some .int) 0 := ⟨u_911, u_734, by decide, ⟨by decide +kernel, by decide +kernel⟩, by decide +kernel⟩
theorem Z_X7_tellsSum : YV yX7_tellsSum := ⟨u_912, u_913⟩
theorem Y_X7_odds : YM yX7_odds cX7_odds 3 (some .int) 2 := ⟨u_914, u_734, by decide, ⟨by decide +kernel, by decide +kernel⟩, by decide +kernel⟩
theorem Z_X7_odds : YV yX7_odds := ⟨u_915, u_916⟩
theorem Y_X7_above : YM yX7_above cX7_above 3 (some .int) 1 := ⟨u_917, u_734, by decide, ⟨by decide +kernel, by decide +kernel⟩, by decide +kernel⟩
theorem Z_X7_above : YV yX7_above := ⟨u_918, u_919⟩
theorem Y_X7_likeliest : YM yX7_likeliest cX7_likeliest 8 (some .int) 2 := ⟨u_920, u_734, by decide, ⟨by decide +kernel, by decide +kernel⟩, by decide +kernel⟩
theorem Z_X7_likeliest : YV yX7_likeliest := ⟨u_921, u_922⟩
theorem Y_X7_stood : YM yX7_stood cX7_stood 5 (some .int) 1 := ⟨u_923, u_734, by decide, ⟨by decide +kernel, by decide +kernel⟩, by decide +kernel⟩
theorem Z_X7_stood : YV yX7_stood := ⟨u_924, u_925⟩
theorem Y_X7_span : YM yX7_span cX7_span 8 (some .int) 2 := ⟨u_926, u_734, by decide, ⟨by decide +kernel, by decide +kernel⟩, by decide +kernel⟩
theorem Z_X7_span : YV yX7_span := ⟨u_927, u_928⟩
theorem Y_X7_sizeOf : YM yX7_sizeOf cX7_sizeOf 3 (some .int) 1 := ⟨u_929, u_734, by decide, ⟨by decide +kernel, by decide +kernel⟩, by decide +kernel⟩
theorem Z_X7_sizeOf : Cond.static yX7_sizeOf ∈ wsL_law := u_930
theorem Y_X7_tracesOf : YM yX7_tracesOf cX7_tracesOf 4 (some .int) 1 := ⟨u_931, u_734, by decide, ⟨by decide +kernel, by decide +kernel⟩, by decide +kernel⟩
theorem Z_X7_tracesOf : YV yX7_tracesOf := ⟨u_932, u_933⟩
theorem Y_X7_later : YM yX7_later cX7_later 11 (some .int) 1 := ⟨u_934, u_734, by decide, ⟨by decide +kernel, by decide +kernel⟩, by decide +kernel⟩
theorem Z_X7_later : YV yX7_later := ⟨u_935, u_936⟩
theorem Y_X7_next : YM yX7_next cX7_next 6 (some .int) 0 := ⟨u_937, u_734, by decide, ⟨by decide +kernel, by decide +kernel⟩, by decide +kernel⟩
theorem Z_X7_next : YV yX7_next := ⟨u_938, u_939⟩
theorem Y_X7_topOf : YM yX7_topOf cX7_topOf 1 (some .int) 1 := ⟨u_940, u_734, by decide, ⟨by decide +kernel, by decide +kernel⟩, by decide +kernel⟩
theorem Z_X7_topOf : Cond.static yX7_topOf ∈ wsL_law := u_941
theorem Y_X7_restsAt : YM yX7_restsAt cX7_restsAt 3 (some .int) 1 := ⟨u_942, u_734, by decide, ⟨by decide +kernel, by decide +kernel⟩, by decide +kernel⟩
theorem Z_X7_restsAt : YV yX7_restsAt := ⟨u_943, u_944⟩
theorem Y_X7_rests : YM yX7_rests cX7_rests 2 (some .int) 1 := ⟨u_945, u_734, by decide, ⟨by decide +kernel, by decide +kernel⟩, by decide +kernel⟩
theorem Z_X7_rests : YV yX7_rests := ⟨u_946, u_947⟩
theorem Y_X7_resting : YM yX7_resting cX7_resting 5 (some .int) 2 := ⟨u_948, u_734, by decide, ⟨by decide +kernel, by decide +kernel⟩, by decide +kernel⟩
theorem Z_X7_resting : YV yX7_resting := ⟨u_949, u_950⟩
theorem Y_X7_bright : YM yX7_bright cX7_bright 7 (some .int) 2 := ⟨u_951, u_734, by decide, ⟨by decide +kernel, by decide +kernel⟩, by decide +kernel⟩
theorem Z_X7_bright : YV yX7_bright := ⟨u_952, u_953⟩
theorem Y_X7_image : YM yX7_image cX7_image 3 (some .int) 1 := ⟨u_954, u_734, by decide, ⟨by decide +kernel, by decide +kernel⟩, by decide +kernel⟩
theorem Z_X7_image : YV yX7_image := ⟨u_955, u_956⟩
theorem Y_X7_from : YM yX7_from cX7_from 3 (some .int) 1 := ⟨u_957, u_734, by decide, ⟨by decide +kernel, by decide +kernel⟩, by decide +kernel⟩
theorem Z_X7_from : YV yX7_from := ⟨u_958, u_959⟩
theorem Y_X7_status : YM yX7_status cX7_status 2 (some .int) 1 := ⟨u_960, u_734, by decide, ⟨by decide +kernel, by decide +kernel⟩, by decide +kernel⟩
theorem Z_X7_status : YV yX7_status := ⟨u_961, u_962⟩
theorem Y_X7_countOf : YM yX7_countOf cX7_countOf 4 (some .int) 1 := ⟨u_963, u_734, by decide, ⟨by decide +kernel, by decide +kernel⟩, by decide +kernel⟩
theorem Z_X7_countOf : YV yX7_countOf := ⟨u_964, u_965⟩
theorem Y_X7_count : YM yX7_count cX7_count 2 (some .int) 1 := ⟨u_966, u_734, by decide, ⟨by decide +kernel, by decide +kernel⟩, by decide +kernel⟩
theorem Z_X7_count : YV yX7_count := ⟨u_967, u_968⟩
theorem Y_X7_mixed : YM yX7_mixed cX7_mixed 8 (some .long) 4 := ⟨u_969, u_734, by decide, ⟨by decide +kernel, by decide +kernel⟩, by decide +kernel⟩
theorem Z_X7_mixed : Cond.static yX7_mixed ∈ wsL_law := u_970
theorem Y_X7_digest : YM yX7_digest cX7_digest 4 (some .long) 0 := ⟨u_971, u_734, by decide, ⟨by decide +kernel, by decide +kernel⟩, by decide +kernel⟩
theorem Z_X7_digest : YV yX7_digest := ⟨u_972, u_973⟩
