/-! THE WORLD: a fixed set of cells, each of a kind, whose contents are one memory; every method is walked over the whole world -/
abbrev mM : Type := (Nat → Nat → Int32) × (Nat → Nat → Int64)
def mI (M : mM) (k : Nat) (f : Nat → Int32) : mM := (fun q => if q = k then f else M.1 q, M.2)
def mL (M : mM) (k : Nat) (f : Nat → Int64) : mM := (M.1, fun q => if q = k then f else M.2 q)
theorem mI_s {M : mM} {k : Nat} {f : Nat → Int32} : (mI M k f).1 k = f := if_pos rfl
theorem mI_n {M : mM} {k q : Nat} {f : Nat → Int32} (h : q ≠ k) : (mI M k f).1 q = M.1 q := if_neg h
theorem mI_l {M : mM} {k : Nat} {f : Nat → Int32} : (mI M k f).2 = M.2 := rfl
theorem mL_s {M : mM} {k : Nat} {f : Nat → Int64} : (mL M k f).2 k = f := if_pos rfl
theorem mL_n {M : mM} {k q : Nat} {f : Nat → Int64} (h : q ≠ k) : (mL M k f).2 q = M.2 q := if_neg h
theorem mL_i {M : mM} {k : Nat} {f : Nat → Int64} : (mL M k f).1 = M.1 := rfl
/-- a field: an int, a long, a cell -/
abbrev kF : Type := Option (Option Nat)
/-- a cell: ints (their array class's place, length), longs, references to cells, an object (class's place, fields) -/
abbrev kK : Type := (Nat × Nat) ⊕ (Nat × Nat) ⊕ (Nat × Nat × (Nat → Nat)) ⊕ (Nat × List kF)
abbrev kI (t n : Nat) : kK := .inl (t, n)
abbrev kL (t n : Nat) : kK := .inr (.inl (t, n))
abbrev kR (t n : Nat) (f : Nat → Nat) : kK := .inr (.inr (.inl (t, n, f)))
abbrev kO (c : Nat) (fs : List kF) : kK := .inr (.inr (.inr (c, fs)))
def wV (ad : Nat → Nat) (f : Nat → Int32) (g : Nat → Int64) (j : Nat) : kF → Value
  | none => .int (f j)
  | some none => .long (g j)
  | some (some q) => .ref (ad q)
def wF (ad : Nat → Nat) (f : Nat → Int32) (g : Nat → Int64) : Nat → List kF → List Value
  | _, [] => []
  | j, x :: r => wV ad f g j x :: wF ad f g (j + 1) r
theorem wF_get (ad : Nat → Nat) (f : Nat → Int32) (g : Nat → Int64) : ∀ (fs : List kF) (j i : Nat), (wF ad f g j fs)[i]? = (fs[i]?).map (fun x => wV ad f g (j + i) x)
  | [], j, i => by simp [wF]
  | x :: r, j, 0 => by simp [wF]
  | x :: r, j, i + 1 => by
    show (wF ad f g (j + 1) r)[i]? = _
    rw [wF_get ad f g r (j + 1) i]
    simp only [List.getElem?_cons_succ, show j + 1 + i = j + (i + 1) by omega]
theorem wF_len (ad : Nat → Nat) (f : Nat → Int32) (g : Nat → Int64) : ∀ (fs : List kF) (j : Nat), (wF ad f g j fs).length = fs.length
  | [], j => rfl
  | x :: r, j => by
    show (wF ad f g (j + 1) r).length + 1 = _
    rw [wF_len ad f g r (j + 1)]; rfl
theorem wF_at {ad : Nat → Nat} {f : Nat → Int32} {g : Nat → Int64} {fs : List kF} {i : Nat} {x : kF} (h : fs[i]? = some x) : (wF ad f g 0 fs)[i]? = some (wV ad f g i x) := by
  rw [wF_get, h, Nat.zero_add]; rfl
theorem wF_setI {ad : Nat → Nat} {f : Nat → Int32} {g : Nat → Int64} {fs : List kF} {i : Nat} (h : fs[i]? = some none) (x : Int32) : (wF ad f g 0 fs).set i (.int x) = wF ad (upd f i x) g 0 fs := by
  apply List.ext_getElem?
  intro n
  rw [List.getElem?_set, wF_get, wF_get, wF_len]
  by_cases e : i = n
  · subst e
    have hl : i < fs.length := (List.getElem?_eq_some_iff.mp h).1
    rw [if_pos rfl, if_pos hl, h]
    simp [wV, upd]
  · rw [if_neg e]
    cases hn : fs[n]? with
    | none => rfl
    | some y =>
      cases y with
      | none => simp [wV, upd, Ne.symm e]
      | some z => cases z <;> rfl
theorem wF_setL {ad : Nat → Nat} {f : Nat → Int32} {g : Nat → Int64} {fs : List kF} {i : Nat} (h : fs[i]? = some (some none)) (x : Int64) : (wF ad f g 0 fs).set i (.long x) = wF ad f (vp_updL g i x) 0 fs := by
  apply List.ext_getElem?
  intro n
  rw [List.getElem?_set, wF_get, wF_get, wF_len]
  by_cases e : i = n
  · subst e
    have hl : i < fs.length := (List.getElem?_eq_some_iff.mp h).1
    rw [if_pos rfl, if_pos hl, h]
    simp [wV, vp_updL]
  · rw [if_neg e]
    cases hn : fs[n]? with
    | none => rfl
    | some y =>
      cases y with
      | none => rfl
      | some z =>
        cases z with
        | none => simp [wV, vp_updL, Ne.symm e]
        | some w => rfl
def wE (ad : Nat → Nat) (cA : Nat → ClassId) (f : Nat → Int32) (g : Nat → Int64) : kK → va_E
  | .inl (t, n) => .inl (cA t, n, .inl f)
  | .inr (.inl (t, n)) => .inl (cA t, n, .inr (.inl g))
  | .inr (.inr (.inl (t, n, r))) => .inl (cA t, n, .inr (.inr (.inr (.inr (fun j => some (ad (r j)))))))
  | .inr (.inr (.inr (c, fs))) => .inr (c, wF ad f g 0 fs)
/-- kinds, how many cells, their addresses, the classes, the array classes, addresses of what stands before -/
abbrev wU : Type := (Nat → kK) × Nat × (Nat → Nat) × va_G × (Nat → ClassId) × (Nat → Nat)
abbrev uK (w : wU) : Nat → kK := w.1
abbrev uN (w : wU) : Nat := w.2.1
abbrev uA (w : wU) : Nat → Nat := w.2.2.1
abbrev uD (w : wU) : va_G := w.2.2.2.1
abbrev uC (w : wU) : Nat → ClassId := w.2.2.2.2.1
abbrev uS (w : wU) : Nat → Nat := w.2.2.2.2.2
def wL (w : wU) (M : mM) : va_W := (List.range (uN w)).map (fun k => (uA w k, wE (uA w) (uC w) (M.1 k) (M.2 k) (uK w k)))
def wW (w : wU) (M : mM) (H : Heap) : Prop := va_P (uD w) vwCl (wL w M) H
def wA (w : wU) : Nat → Prop := fun q => ∃ k, k < uN w ∧ q = uA w k
def wJ (w : wU) : Prop := ∀ i j, i < uN w → j < uN w → uA w i = uA w j → i = j
def wT (w : wU) : List (ClassId × FieldType) := [(uC w 0, .int), (uC w 1, .long), (uC w 2, .byte), (uC w 3, .boolean), (uC w 4, .object "PaintedGods$Statue"), (uC w 5, .array .int), (uC w 6, .array .long)]
theorem wL_get {w : wU} {M : mM} {k : Nat} (h : k < uN w) : (wL w M)[k]? = some (uA w k, wE (uA w) (uC w) (M.1 k) (M.2 k) (uK w k)) := by
  simp [wL, h]
theorem wL_at {w : wU} {M : mM} {k : Nat} {z : kK} (h : k < uN w) (hz : uK w k = z) : (wL w M)[k]? = some (uA w k, wE (uA w) (uC w) (M.1 k) (M.2 k) z) := by
  rw [wL_get h, hz]
theorem wL_len {w : wU} {M : mM} : (wL w M).length = uN w := by simp [wL]
theorem wL_D {w : wU} (hJ : wJ w) (M : mM) : va_D (wA w) (wL w M) := by
  refine ⟨fun i j p q hi hj e => ?_, fun k q hk => ?_⟩
  · have h1 : i < uN w := by rw [← wL_len (w := w) (M := M)]; exact (List.getElem?_eq_some_iff.mp hi).1
    have h2 : j < uN w := by rw [← wL_len (w := w) (M := M)]; exact (List.getElem?_eq_some_iff.mp hj).1
    rw [wL_get h1] at hi; rw [wL_get h2] at hj
    cases hi; cases hj
    exact hJ i j h1 h2 e
  · have h1 : k < uN w := by rw [← wL_len (w := w) (M := M)]; exact (List.getElem?_eq_some_iff.mp hk).1
    rw [wL_get h1] at hk
    cases hk
    exact ⟨k, h1, rfl⟩
theorem wL_set {w : wU} {M M1 : mM} {k : Nat} (h : k < uN w) (h1 : ∀ q, q ≠ k → M1.1 q = M.1 q) (h2 : ∀ q, q ≠ k → M1.2 q = M.2 q) : (wL w M).set k (uA w k, wE (uA w) (uC w) (M1.1 k) (M1.2 k) (uK w k)) = wL w M1 := by
  apply List.ext_getElem?
  intro n
  rw [List.getElem?_set, wL_len]
  by_cases e : k = n
  · subst e
    rw [if_pos rfl, if_pos h, wL_get h]
  · rw [if_neg e]
    by_cases hn : n < uN w
    · rw [wL_get hn, wL_get hn, h1 n (Ne.symm e), h2 n (Ne.symm e)]
    · rw [List.getElem?_eq_none (by rw [wL_len]; omega), List.getElem?_eq_none (by rw [wL_len]; omega)]
/-! what stands before: four static arrays, one text -/
def zC : Nat → String := fun i => if i < 3 then "PaintedGods$Statue" else "PaintedGods$Text"
def zN : Nat → String := fun i => match i with | 0 => "LEAST_SET" | 1 => "MOST_SET" | 2 => "FIRST_SET" | _ => "NUMBERS_BEHIND"
def zL : Nat → List Int32 := fun i => match i with | 0 => [0, 0, 0, 0, 0, 0, 1] | 1 => [5, 5, 5, 5, 60, 3, 9] | 2 => [1, 1, 1, 1, 10, 0, 3] | _ => [4, 2, 1, 1, 1, 2, 2, 2, 2, 2, 2, 2, 1, 2]
def zF (i j : Nat) : Int32 := (zL i).getD j 0
def zText : String := "stuff rain years turn like habit grain shines dark stands worn edge cut copy "
def zBytes : List Int32 := [115, 116, 117, 102, 102, 32, 114, 97, 105, 110, 32, 121, 101, 97, 114, 115, 32, 116, 117, 114, 110, 32, 108, 105, 107, 101, 32, 104, 97, 98, 105, 116, 32, 103, 114, 97, 105, 110, 32, 115, 104, 105, 110, 101, 115, 32, 100, 97, 114, 107, 32, 115, 116, 97, 110, 100, 115, 32, 119, 111, 114, 110, 32, 101, 100, 103, 101, 32, 99, 117, 116, 32, 99, 111, 112, 121, 32]
def zNest : List Cond := [.methodLinkNest RX1 105 yX6_within "PaintedGods", .methodLinkNest RX1 163 yX6_isLess "PaintedGods", .methodLinkNest RX1 69 yX6_sideOf "PaintedGods", .methodLinkNest RX2 112 yX6_topOf "PaintedGods", .methodLinkNest RX2 64 yX6_within "PaintedGods", .methodLinkNest RX2 74 yX6_isCell "PaintedGods", .methodLinkNest RX2 84 yX6_groundOf "PaintedGods", .methodLinkNest RX2 88 yX6_upperOf "PaintedGods", .methodLinkNest RX3 19 yX6_within "PaintedGods", .methodLinkNest RX5 22 yX6_within "PaintedGods"]
def wZ (w : wU) (U : State) (H : Heap) : Prop :=
  wJ w ∧ (∀ i, i < 4 → va_Z (zC i) (zN i) "[I" (.ref (uS w i)) (wA w) U H ∧ va_T .int (uS w i) (zL i).length (fun j => .int (zF i j)) (wA w) U H) ∧
  (∀ x ∈ zNest, va_Nw x U) ∧
  (vk_R RX3 100 zText (uS w 4) U ∧ vk_S 1 [zBytes.length] [zBytes] (fun _ => uS w 4) (fun _ => uS w 5) (wA w) U H ∧ va_Z RJ0 "COMPACT_STRINGS" "Z" (.int 1) (wA w) U H ∧ va_Zq RJ3 "SIOOBE_FORMATTER" "Ljava/util/function/BiFunction;" (wA w) U H)
theorem zNest_warm {s U : State} (hW : s.WarmedH U.vm) (h : ∀ x ∈ zNest, va_Nw x s) : ∀ x ∈ zNest, va_Nw x U := by
  intro x hx
  have h1 := h x hx
  simp only [zNest, List.mem_cons, List.not_mem_nil, or_false] at hx
  rcases hx with rfl | rfl | rfl | rfl | rfl | rfl | rfl | rfl | rfl | rfl <;> exact va_Nw.warmM hW h1
theorem wZ.warm {w : wU} {s U : State} {locs : List Loc} (hW : s.WarmedH U.vm) (hS : va_S (wA w) s.heap U.heap locs) (h : wZ w s s.heap) : wZ w U U.heap := by
  obtain ⟨h0, h1, h2, h3, h4, h5, h6⟩ := h
  have ha := hW.alike
  exact ⟨h0, fun i hi => ⟨((h1 i hi).1.kept hS.2.1).moved ha, ((h1 i hi).2.kept hS.2.1).moved ha⟩, zNest_warm hW h2, h3.warm hW, (h4.kept hS.2.1).moved ha, (h5.kept hS.2.1).moved ha, (h6.kept hS.2.1).moved ha⟩
theorem wZ.blind {w : wU} {U : State} (g : JFrame) (mk : MethodId) (a : Array Value) (h : wZ w U U.heap) : wZ w (U.calling g mk a) (U.calling g mk a).heap := by
  obtain ⟨h0, h1, h2, h3, h4, h5, h6⟩ := h
  have ha : U.vm.Alike (U.calling g mk a).vm := Vm.Alike.refl U.vm
  refine ⟨h0, fun i hi => ⟨(h1 i hi).1.moved ha, (h1 i hi).2.moved ha⟩, fun x hx => ?_, h3.same rfl, h4.moved ha, h5.moved ha, h6.moved ha⟩
  have h9 := h2 x hx
  simp only [zNest, List.mem_cons, List.not_mem_nil, or_false] at hx
  rcases hx with rfl | rfl | rfl | rfl | rfl | rfl | rfl | rfl | rfl | rfl <;> exact va_tabs rfl (rfl : U.vm = (U.calling g mk a).vm) h9
/-- the world at a state -/
def wB (w : wU) (M : mM) (U : State) : Prop := wW w M U.heap ∧ va_K (uD w) vwCl (wT w) U ∧ wZ w U U.heap
def wQ (w : wU) (Post : Option Value → mM → Prop) : Array Value → State → Outcome → State → Prop := fun _ st o t => (∃ (v : Option Value) (M : mM), o = .returned v ∧ Post v M ∧ wB w M t) ∧ va_F (wA w) st t
def rmH (h : Nat) : Room := { frames := h, cells := 0, slots := 0, locals := 37 * h }
/-- a contract: from the world M the method returns, and the answer and the world behind it are so -/
def CT (w : wU) (l : Launch) (h : Nat) (y : MethodName) (cc : ByteArray) (maxL : Nat) (ret : Option FieldType) (av : List Value) (M : mM) (Post : Option Value → mM → Prop) : Prop :=
  Met l y (.code y cc maxL ret :: wsL_law) (rmH h) (va_Pc av (wB w M)) (wQ w Post) 0 0 (wA w)
abbrev wX : Type := Program × Launch × Env × Nat × State × MethodId × Array Value × List Frame × Method × Code × Nat × (Option Value → mM → Prop) × wU
abbrev xW (X : wX) : wU := X.2.2.2.2.2.2.2.2.2.2.2.2
abbrev xPo (X : wX) : Option Value → mM → Prop := X.2.2.2.2.2.2.2.2.2.2.2.1
abbrev xN (X : wX) : Nat := X.2.2.2.2.2.2.2.2.2.2.1
abbrev xC (X : wX) : Code := X.2.2.2.2.2.2.2.2.2.1
abbrev xMe (X : wX) : Method := X.2.2.2.2.2.2.2.2.1
abbrev xBe (X : wX) : List Frame := X.2.2.2.2.2.2.2.1
abbrev xA (X : wX) : Array Value := X.2.2.2.2.2.2.1
abbrev xM (X : wX) : MethodId := X.2.2.2.2.2.1
abbrev xS (X : wX) : State := X.2.2.2.2.1
abbrev xH (X : wX) : Nat := X.2.2.2.1
abbrev xE (X : wX) : Env := X.2.2.1
abbrev xL (X : wX) : Launch := X.2.1
abbrev xP (X : wX) : Program := X.1
/-- the walk of a method's body stands at pc, with these locals, this stack, this memory, and comes to its end -/
def V (X : wX) (pc : Nat) (lv : List (Nat × Value)) (st : List Value) (M : mM) : Prop :=
  ∀ (H : Heap) (locs : List Loc) (ls : Array Slot), wW (xW X) M H → va_S (wA (xW X)) (xS X).heap H locs → lv_has ls (xN X) lv →
    W (xP X) (xL X) (xE X) (rmH (xH X)) (xS X) (xM X) (xA X) (xBe X) (xMe X) (xC X) H locs 0 0 (MQ (xBe X) (wQ (xW X) (xPo X)) (xA X) (xS X) 0 0 (wA (xW X))) (F0 (xM X) pc ls st)
/-- what holds all through a method's body -/
def CX (X : wX) (cc : ByteArray) (own : String) (ret : Option FieldType) : Prop :=
  (xP X).tables.exec = Jvm.exec ∧ (xC X).code = cc ∧ (xC X).maxLocals = xN X ∧ (xMe X).sig.returnType = ret ∧ (xS X).vm.findClass own = some (xM X).cls ∧
  (∀ q ∈ wsL_law, q.before (xA X) (xS X) = true) ∧ (xMe X).locks = false ∧ va_K (uD (xW X)) vwCl (wT (xW X)) (xS X) ∧ wZ (xW X) (xS X) (xS X).heap
abbrev vR (X : wX) (k : Nat) : Value := .ref (uA (xW X) k)
/-- the result of a call, by its kind -/
def piI (Q : Int32 → mM → Prop) : Option Value → mM → Prop := fun v M => ∃ r : Int32, v = some (.int r) ∧ Q r M
def piL (Q : Int64 → mM → Prop) : Option Value → mM → Prop := fun v M => ∃ r : Int64, v = some (.long r) ∧ Q r M
def piV (Q : mM → Prop) : Option Value → mM → Prop := fun v M => v = none ∧ Q M
theorem wL_good : wsL_law.all goodWord = true := by decide +kernel
theorem wL_goodIn {y y' : MethodName} {cc cc' : ByteArray} {n n' : Nat} {r r' : Option FieldType} (h : Cond.code y' cc' n' r' ∈ wsL_law) : GoodIn (.code y cc n r :: wsL_law) (.code y' cc' n' r' :: wsL_law) := by
  intro q hq
  have hm : q ∈ wsL_law := by
    rcases List.mem_cons.mp hq with e | e
    · rw [e]; exact h
    · exact e
  exact ⟨List.mem_cons_of_mem _ hm, good_of_word (List.all_eq_true.mp wL_good q hm)⟩
theorem wL_goodIn0 {y' : MethodName} {cc' : ByteArray} {n' : Nat} {r' : Option FieldType} (h : Cond.code y' cc' n' r' ∈ wsL_law) : GoodIn wsL_law (.code y' cc' n' r' :: wsL_law) := by
  intro q hq
  have hm : q ∈ wsL_law := by
    rcases List.mem_cons.mp hq with e | e
    · rw [e]; exact h
    · exact e
  exact ⟨hm, good_of_word (List.all_eq_true.mp wL_good q hm)⟩
set_option maxHeartbeats 1000000 in
theorem CT.of {w : wU} {l : Launch} {h : Nat} {y : MethodName} {cc : ByteArray} {maxL : Nat} {ret : Option FieldType} {av : List Value} {M : mM} {Post : Option Value → mM → Prop} (hy : plainName y.cls = true) (hav : (lg_sl av).length ≤ maxL)
    (body : ∀ X : wX, xW X = w → xH X = h → xL X = l → xPo X = Post → xN X = maxL → CX X cc y.cls ret → V X 0 (lv_args 0 av) [] M) : CT w l h y cc maxL ret av M Post := by
  refine Met.ofW (cc := cc) (maxL := maxL) (ret := ret) hy rfl ?_
  intro p e s m args below meth c s₁ B hml hv
  obtain ⟨rfl, hW, hK, hZ⟩ := hv
  have hts := atoms_spec (ws := .code y cc maxL ret :: wsL_law) B.pre
  have hown : s.vm.findClass y.cls = some m.cls := findClass_of_methodNamed B.named
  have hl := lv_entry av (n := maxL) hav
  rw [lg_entry_eq]
  generalize (lg_sl av ++ List.replicate (maxL - (lg_sl av).length) Slot.unset).toArray = ls at hl ⊢
  exact body (p, l, e, h, s, m, av.toArray, below, meth, c, maxL, Post, w) rfl rfl rfl rfl rfl ⟨B.exec, B.bytes, hml, B.returns, hown, fun q hq => hts q (List.mem_cons_of_mem _ hq), B.notSynchronized, hK, hZ⟩ s.heap [] ls hW va_S.rf hl
