/-! what stands before, at the entry -/
theorem st_of {args : Array Value} {s : State} {A : Nat → Prop} (tm : Term) (l : List Int32) (hN : l.length < 2 ^ 31) (h : ∀ c ∈ (Cond.arrayOf tm .int :: Cond.eq (.length tm) (.int (Int32.ofNat l.length)) :: (List.range l.length).map (fun j => Cond.eq (.elem tm (.int (Int32.ofNat j))) (.int (l.getD j 0)))), c.before args s = true) (hA : ∀ a : Nat, a < s.heap.size → ¬ A a) : ∃ t : Nat, tm.eval args s none [] s = some (.ref t) ∧ va_T .int t l.length (fun j => .int (l.getD j 0)) A s s.heap :=
  va_Tof hN (h _ List.mem_cons_self) (va_eqt (h _ (List.mem_cons_of_mem _ List.mem_cons_self))) (fun j hj => va_eqt (h _ (List.mem_cons_of_mem _ (List.mem_cons_of_mem _ (List.mem_map.mpr ⟨j, List.mem_range.mpr hj, rfl⟩))))) hA
def stC (tm : Term) (l : List Int32) : List Cond := Cond.arrayOf tm .int :: Cond.eq (.length tm) (.int (Int32.ofNat l.length)) :: (List.range l.length).map (fun j => Cond.eq (.elem tm (.int (Int32.ofNat j))) (.int (l.getD j 0)))
def fl1 : List Cond := flatC (Jvm.Cond.and given_1 narrow_1)
theorem st_0 : ∀ c ∈ stC (.static "PaintedGods$Statue" "LEAST_SET" "[I") (zL 0), c ∈ fl1 := by decide +kernel
theorem st_1 : ∀ c ∈ stC (.static "PaintedGods$Statue" "MOST_SET" "[I") (zL 1), c ∈ fl1 := by decide +kernel
theorem st_2 : ∀ c ∈ stC (.static "PaintedGods$Statue" "FIRST_SET" "[I") (zL 2), c ∈ fl1 := by decide +kernel
theorem st_3 : ∀ c ∈ stC (.static "PaintedGods$Text" "NUMBERS_BEHIND" "[I") (zL 3), c ∈ fl1 := by decide +kernel
def tmS : Term := .string "PaintedGods$Text" 100
def teC : List Cond := (List.range zBytes.length).map (fun j => Cond.eq (.elem (.field tmS "java/lang/String" "value" "[B") (.int (Int32.ofNat j))) (.int (zBytes.getD j 0)))
theorem te_in : ∀ c ∈ teC, c ∈ fl1 := by decide +kernel
theorem has_Y {args : Array Value} {s : State} {A : Nat → Prop} (hA : ∀ a : Nat, a < s.heap.size → ¬ A a) (hts : ∀ w ∈ lw_tbl, w.before args s = true) (hg : (Jvm.Cond.and given_1 narrow_1).before args s = true) : ∃ S : Nat → Nat, wY S A s s.heap := by
  have hs : ∀ c ∈ fl1, c.before args s = true := flat_of_before _ hg
  have hin : ∀ q ∈ wsL_law, q.before args s = true := fun q hq => hts q (wsL_law_in q hq)
  obtain ⟨t0, e0, v0⟩ := st_of (A := A) (.static "PaintedGods$Statue" "LEAST_SET" "[I") (zL 0) (by decide) (fun c hc => hs c (st_0 c hc)) hA
  obtain ⟨t1, e1, v1⟩ := st_of (A := A) (.static "PaintedGods$Statue" "MOST_SET" "[I") (zL 1) (by decide) (fun c hc => hs c (st_1 c hc)) hA
  obtain ⟨t2, e2, v2⟩ := st_of (A := A) (.static "PaintedGods$Statue" "FIRST_SET" "[I") (zL 2) (by decide) (fun c hc => hs c (st_2 c hc)) hA
  obtain ⟨t3, e3, v3⟩ := st_of (A := A) (.static "PaintedGods$Text" "NUMBERS_BEHIND" "[I") (zL 3) (by decide) (fun c hc => hs c (st_3 c hc)) hA
  have i2 : (Cond.initialized "PaintedGods$Statue").before args s = true := hin _ (inR1 (List.mem_of_getElem? (i := 15) rfl) : Cond.initialized RX2 ∈ wsL_law)
  have i3 : (Cond.initialized "PaintedGods$Text").before args s = true := hin _ (inR1 (List.mem_of_getElem? (i := 23) rfl) : Cond.initialized RX3 ∈ wsL_law)
  have n0 : ∀ i : Nat, i < 1 → ([zBytes.length] : List Nat).getD i 0 < 2 ^ 31 := fun i hi => by
    have : i = 0 := by omega
    subst this
    decide
  have n1 : ∀ i : Nat, i < 1 → (Cond.eq (.length (.field tmS "java/lang/String" "value" "[B")) (.int (Int32.ofNat (([zBytes.length] : List Nat).getD i 0)))).before args s = true := fun i hi => by
    have : i = 0 := by omega
    subst this
    exact hs _ (by decide +kernel)
  have n2 : ∀ i : Nat, i < 1 → ∀ j : Nat, j < ([zBytes.length] : List Nat).getD i 0 → (Cond.eq (.elem (.field tmS "java/lang/String" "value" "[B") (.int (Int32.ofNat j))) (.int ((([zBytes] : List (List Int32)).getD i []).getD j 0))).before args s = true := fun i hi j hj => by
    have : i = 0 := by omega
    subst this
    exact hs _ (te_in _ (List.mem_map.mpr ⟨j, List.mem_range.mpr hj, rfl⟩))
  obtain ⟨aK, aV, vS, vE⟩ := vk_Sof (args := args) (s := s) (N := 1) (tm := fun _ => tmS) (len := [zBytes.length]) (byt := [zBytes]) (A := A) n0 (fun _ _ => hs _ (by decide +kernel)) (fun _ _ => hs _ (by decide +kernel)) (fun _ _ => hs _ (by decide +kernel)) n1 n2 (fun i j hi hj ne => absurd (show i = j by omega) ne) hA
  refine ⟨fun i => match i with | 0 => t0 | 1 => t1 | 2 => t2 | 3 => t3 | 4 => aK 0 | _ => aV 0, fun i hi => ?_, fun x hx => ?_, ?_, ?_, ?_, ?_⟩
  · match i, hi with
    | 0, _ => exact ⟨va_Zof (hts _ (by decide +kernel)) i2 e0 hA, v0⟩
    | 1, _ => exact ⟨va_Zof (hts _ (by decide +kernel)) i2 e1 hA, v1⟩
    | 2, _ => exact ⟨va_Zof (hts _ (by decide +kernel)) i2 e2 hA, v2⟩
    | 3, _ => exact ⟨va_Zof (hts _ (by decide +kernel)) i3 e3 hA, v3⟩
  · have h9 := hts x ((by decide +kernel : ∀ x ∈ zNest, x ∈ lw_tbl) x hx)
    simp only [zNest, List.mem_cons, List.not_mem_nil, or_false] at hx
    rcases hx with rfl | rfl | rfl | rfl | rfl | rfl | rfl | rfl | rfl | rfl <;> exact va_Nw.of rfl h9
  · exact vk_R.of (A := args) (hts (Cond.stringRef "PaintedGods$Text" 100 zText) (by decide +kernel)) (vE 0 (by decide))
  · refine ⟨fun i hi => ?_, fun i j hi hj _ => by omega⟩
    have : i = 0 := by omega
    subst this
    exact vS.1 0 (by decide)
  · exact va_Zof (hts _ (by decide +kernel)) (hts (Cond.initialized "java/lang/String") (by decide +kernel)) (va_eqi (hs _ (by decide +kernel))) hA
  · exact va_Zqof (hts _ (by decide +kernel)) (hts (Cond.initialized "jdk/internal/util/Preconditions") (by decide +kernel)) (hs _ (by decide +kernel)) hA
theorem has_V {args : Array Value} {s : State} (hts : ∀ w ∈ lw_tbl, w.before args s = true) : wV2 s := by
  refine ⟨fun x hx => ?_, va_AO.of (hts (Cond.arrayOver (.object "PaintedGods$Statue")) (by decide +kernel)), arrayOver_alikeB (Vm.Alike.refl _) (hts (Cond.arrayOver (.array .int)) (by decide +kernel)), arrayOver_alikeB (Vm.Alike.refl _) (hts (Cond.arrayOver (.array .long)) (by decide +kernel))⟩
  have h9 := hts x ((by decide +kernel : ∀ x ∈ zNes2, x ∈ lw_tbl) x hx)
  simp only [zNes2, List.mem_cons, List.not_mem_nil, or_false] at hx
  rcases hx with rfl | rfl | rfl | rfl | rfl <;> exact va_Nw.of rfl h9
