/-! the law's body, once both are made -/
abbrev lX : Type := Program × Launch × Env × State × MethodId × List Frame × Method × Code × Nat × Nat × (Nat → Int32) × gU × (State → Prop)
abbrev l_P (X : lX) : Program := X.1
abbrev l_L (X : lX) : Launch := X.2.1
abbrev l_E (X : lX) : Env := X.2.2.1
abbrev l_S (X : lX) : State := X.2.2.2.1
abbrev l_M (X : lX) : MethodId := X.2.2.2.2.1
abbrev l_B (X : lX) : List Frame := X.2.2.2.2.2.1
abbrev l_me (X : lX) : Method := X.2.2.2.2.2.2.1
abbrev l_c (X : lX) : Code := X.2.2.2.2.2.2.2.1
abbrev l_b (X : lX) : Nat := X.2.2.2.2.2.2.2.2.1
abbrev l_n (X : lX) : Nat := X.2.2.2.2.2.2.2.2.2.1
abbrev l_x (X : lX) : Nat → Int32 := X.2.2.2.2.2.2.2.2.2.2.1
abbrev l_G (X : lX) : gU := X.2.2.2.2.2.2.2.2.2.2.2.1
abbrev l_Q (X : lX) : State → Prop := X.2.2.2.2.2.2.2.2.2.2.2.2
abbrev l_a (X : lX) : Nat := (l_S X).heap.size
/-- the whole world: the class at 0, the model at 145 -/
def lw_w (X : lX) : wU := wN (lyC 6 0 ++ lyC 7 145) (l_a X) (l_G X)
def VL (X : lX) (pc : Nat) (lv : List (Nat × Value)) (st : List Value) (M : mM) : Prop :=
  ∀ (H : Heap) (locs : List Loc) (ls : Array Slot), wW (lw_w X) M H → va_S (fun q => l_a X ≤ q) (l_S X).heap H locs → lv_has ls 4 lv →
    W (l_P X) (l_L X) (l_E X) room_1 (l_S X) (l_M X) #[Value.ref (l_b X)] (l_B X) (l_me X) (l_c X) H locs 160 20515 (l_Q X) (F0 (l_M X) pc ls st)
def CL (X : lX) : Prop := (l_P X).tables.exec = Jvm.exec ∧ (l_c X).code = code ∧ (l_c X).maxLocals = 4 ∧ (l_S X).vm.findClass RL = some (l_M X).cls ∧ (∀ q ∈ wsL_law, q.before #[Value.ref (l_b X)] (l_S X) = true) ∧ va_K (l_G X).1 vwCl (tyG (l_G X).2.1) (l_S X) ∧ wY (l_G X).2.2 (fun q => l_a X ≤ q) (l_S X) (l_S X).heap ∧ va_X (l_b X) (l_n X) (l_x X) (l_S X) (l_S X).heap ∧ l_b X < l_a X
theorem lw_is6 (X : lX) : isC (lw_w X) 6 0 := fun o z h => by
  rw [Nat.zero_add]
  exact wN_K (by rw [List.getElem?_append_left (List.getElem?_eq_some_iff.mp h).1]; exact h)
theorem lw_is7 (X : lX) : isC (lw_w X) 7 145 := fun o z h => wN_K (by
  rw [List.getElem?_append_right (show (lyC 6 0).length ≤ 145 + o from Nat.le_add_right 145 o), show 145 + o - (lyC 6 0).length = o from Nat.add_sub_cancel_left 145 o]
  exact h)
section LROWS
variable {X : lX} {pc : Nat} {lv : List (Nat × Value)} {st : List Value} {M : mM}
theorem VL_iadd (C : CL X) {x y : Int32} (hd : decode code pc = .ok (.iadd, 1)) (k : VL X (pc + 1) lv (.int (x + y) :: st) M) : VL X pc lv (.int y :: .int x :: st) M := fun H L ls a b c => lv_iadd C.1 C.2.1 hd (k H L ls a b c)
theorem VL_isub (C : CL X) {x y : Int32} (hd : decode code pc = .ok (.isub, 1)) (k : VL X (pc + 1) lv (.int (x - y) :: st) M) : VL X pc lv (.int y :: .int x :: st) M := fun H L ls a b c => lv_isub C.1 C.2.1 hd (k H L ls a b c)
theorem VL_iand (C : CL X) {x y : Int32} (hd : decode code pc = .ok (.iand, 1)) (k : VL X (pc + 1) lv (.int (x &&& y) :: st) M) : VL X pc lv (.int y :: .int x :: st) M := fun H L ls a b c => lv_iand C.1 C.2.1 hd (k H L ls a b c)
theorem VL_land (C : CL X) {x y : Int64} (hd : decode code pc = .ok (.land, 1)) (k : VL X (pc + 1) lv (.long (x &&& y) :: st) M) : VL X pc lv (.long y :: .long x :: st) M := fun H L ls a b c => lv_land C.1 C.2.1 hd (k H L ls a b c)
theorem VL_lor (C : CL X) {x y : Int64} (hd : decode code pc = .ok (.lor, 1)) (k : VL X (pc + 1) lv (.long (x ||| y) :: st) M) : VL X pc lv (.long y :: .long x :: st) M := fun H L ls a b c => lv_lor C.1 C.2.1 hd (k H L ls a b c)
theorem VL_lshl (C : CL X) {x : Int64} {y : Int32} (hd : decode code pc = .ok (.lshl, 1)) (k : VL X (pc + 1) lv (.long (x <<< (y.toInt64 &&& 63)) :: st) M) : VL X pc lv (.int y :: .long x :: st) M := fun H L ls a b c => lv_lshl C.1 C.2.1 hd rfl (k H L ls a b c)
theorem VL_lcmp (C : CL X) {x y : Int64} (hd : decode code pc = .ok (.lcmp, 1)) (k : VL X (pc + 1) lv (.int (lg_cmp x y) :: st) M) : VL X pc lv (.long y :: .long x :: st) M := fun H L ls a b c => W.lcmp C.1 C.2.1 hd (k H L ls a b c)
theorem VL_i2l (C : CL X) {x : Int32} (hd : decode code pc = .ok (.i2l, 1)) (k : VL X (pc + 1) lv (.long x.toInt64 :: st) M) : VL X pc lv (.int x :: st) M := fun H L ls a b c => lv_i2l C.1 C.2.1 hd rfl (k H L ls a b c)
theorem VL_iconst (C : CL X) {n : Int} (v : Int32) (hd : decode code pc = .ok (.iconst n, 1)) (hv : Int32.ofInt n = v) (k : VL X (pc + 1) lv (.int v :: st) M) : VL X pc lv st M := fun H L ls a b c => lv_iconst C.1 C.2.1 hd hv (k H L ls a b c)
theorem VL_bipush (C : CL X) {n : Int} (v : Int32) (hd : decode code pc = .ok (.bipush n, 2)) (hv : (Int8.ofInt n).toInt32 = v) (k : VL X (pc + 2) lv (.int v :: st) M) : VL X pc lv st M := fun H L ls a b c => lv_bipush C.1 C.2.1 hd hv (k H L ls a b c)
theorem VL_ldc2 (C : CL X) {i : Nat} {v : Int64} (hc : Cond.constantLong RL i v ∈ wsL_law) (hd : decode code pc = .ok (.ldc2_w i, 3)) (k : VL X (pc + 3) lv (.long v :: st) M) : VL X pc lv st M := fun H L ls a b c => lv_ldc2 C.1 C.2.1 C.2.2.2.1 (C.2.2.2.2.1 _ hc) hd (k H L ls a b c)
theorem VL_iload (C : CL X) {i : Fin 4} {x : Int32} (j : Nat) (hd : decode code pc = .ok (.iload_n i, 1)) (hk : lv[j]? = some ((i : Nat), .int x)) (k : VL X (pc + 1) lv (.int x :: st) M) : VL X pc lv st M := fun H L ls a b c => lv_iload_n C.1 C.2.1 hd rfl (lv_at c j hk) (k H L ls a b c)
theorem VL_aload (C : CL X) {i : Fin 4} {x : Nat} (j : Nat) (hd : decode code pc = .ok (.aload_n i, 1)) (hk : lv[j]? = some ((i : Nat), .ref x)) (k : VL X (pc + 1) lv (.ref x :: st) M) : VL X pc lv st M := fun H L ls a b c => lv_aload_n C.1 C.2.1 hd rfl (lv_at c j hk) (k H L ls a b c)
theorem VL_iinc (C : CL X) {i : Nat} {n : Int} {x v : Int32} {lv' : List (Nat × Value)} (j : Nat) (hn : i < 4) (hd : decode code pc = .ok (.iinc i n, 3)) (hk : lv[j]? = some (i, .int x)) (hv : x + Int32.ofInt n = v) (hl : (i, Value.int v) :: lv.filter (fun q => !(q.1 == i) && !(q.1 + 1 == i && q.2.category == 2)) = lv') (k : VL X (pc + 3) lv' st M) : VL X pc lv st M := fun H L ls a b c => lv_iinc C.1 C.2.1 hd c hk hv hn hl (fun ls2 c2 => k H L ls2 a b c2)
theorem VL_sub {lv' : List (Nat × Value)} (ks : List Nat) (hl : lv_pick lv ks = lv') (k : VL X pc lv' st M) : VL X pc lv st M := fun H L ls a b c => k H L ls a b (lv_sub c ks hl)
theorem VL_goto (C : CL X) {off : Int} {tgt : Nat} (hd : decode code pc = .ok (.goto off, 3)) (ht : (pc : Int) + off = (tgt : Int)) (k : VL X tgt lv st M) : VL X pc lv st M := fun H L ls a b c => lv_goto C.1 C.2.1 hd ht (k H L ls a b c)
theorem VL_tsw (C : CL X) {dflt lo hi : Int} {offs : Array Int} {len : Nat} {x : Int32} (hd : decode code pc = .ok (.tableswitch dflt lo hi offs, len)) {tgt : Nat} (off : Int) (h1 : ¬ x.toInt < lo) (h2 : ¬ hi < x.toInt) (ho : offs[(x.toInt - lo).toNat]? = some off) (ht : (pc : Int) + off = (tgt : Int)) (k : VL X tgt lv st M) : VL X pc lv (.int x :: st) M := fun H L ls a b c => lv_tableIn C.1 C.2.1 hd h1 h2 ho ht (k H L ls a b c)
theorem VL_tswOut (C : CL X) {dflt lo hi : Int} {offs : Array Int} {len : Nat} {x : Int32} {tgt : Nat} (hd : decode code pc = .ok (.tableswitch dflt lo hi offs, len)) (h : x.toInt < lo ∨ hi < x.toInt) (ht : (pc : Int) + dflt = (tgt : Int)) (k : VL X tgt lv st M) : VL X pc lv (.int x :: st) M := fun H L ls a b c => lv_tableOut C.1 C.2.1 hd h ht (k H L ls a b c)
theorem VL_if_eq (C : CL X) {x : Int32} {off : Int} {tgt : Nat} (hd : decode code pc = .ok (.ifCond .eq off, 3)) (ht : (pc : Int) + off = (tgt : Int)) (kt : x = 0 → VL X tgt lv st M) (kf : ¬ x = 0 → VL X (pc + 3) lv st M) : VL X pc lv (.int x :: st) M := fun H L ls a b c => lv_if_eq C.1 C.2.1 hd ht (fun h => kt h H L ls a b c) (fun h => kf h H L ls a b c)
theorem VL_icmp_eq (C : CL X) {x y : Int32} {off : Int} {tgt : Nat} (hd : decode code pc = .ok (.if_icmp .eq off, 3)) (ht : (pc : Int) + off = (tgt : Int)) (kt : x = y → VL X tgt lv st M) (kf : ¬ x = y → VL X (pc + 3) lv st M) : VL X pc lv (.int y :: .int x :: st) M := fun H L ls a b c => lv_icmp_eq C.1 C.2.1 hd ht (fun h => kt h H L ls a b c) (fun h => kf h H L ls a b c)
theorem VL_icmp_gt (C : CL X) {x y : Int32} {off : Int} {tgt : Nat} (hd : decode code pc = .ok (.if_icmp .gt off, 3)) (ht : (pc : Int) + off = (tgt : Int)) (kt : y < x → VL X tgt lv st M) (kf : ¬ y < x → VL X (pc + 3) lv st M) : VL X pc lv (.int y :: .int x :: st) M := fun H L ls a b c => lv_icmp_gt C.1 C.2.1 hd ht (fun h => kt h H L ls a b c) (fun h => kf h H L ls a b c)
theorem VL_sld (C : CL X) {i : Int32} (hin : vp_in i (l_n X)) (hd : decode code pc = .ok (.iaload, 1)) (kk : VL X (pc + 1) lv (.int (l_x X i.toNatClampNeg) :: st) M) : VL X pc lv (.int i :: .ref (l_b X) :: st) M := fun H L ls a b c => va_sld C.1 C.2.1 C.2.2.2.2.2.2.2.1 C.2.2.2.2.2.2.2.2 (Nat.not_le.mpr C.2.2.2.2.2.2.2.2) b hin hd (kk H L ls a b c)
theorem VL_slen (C : CL X) (hd : decode code pc = .ok (.arraylength, 1)) (kk : VL X (pc + 1) lv (.int (nI (l_n X)) :: st) M) : VL X pc lv (.ref (l_b X) :: st) M := fun H L ls a b c => va_slen C.1 C.2.1 C.2.2.2.2.2.2.2.1 C.2.2.2.2.2.2.2.2 (Nat.not_le.mpr C.2.2.2.2.2.2.2.2) b hd (kk H L ls a b c)
/-- the script's number i + j -/
theorem VL_arg (C : CL X) {i j : Nat} {lv0 : Nat} (hj : i + j < l_n X) (hb : l_n X ≤ 320) (h0 : lv[0]? = some (0, .ref (l_b X))) (h3 : lv[lv0]? = some (3, .int (nI i))) {jj : Int} (hjj : Int32.ofInt jj = nI j) (hd0 : decode code pc = .ok (.aload_n 0, 1)) (hd1 : decode code (pc + 1) = .ok (.iload_n 3, 1)) (hd2 : decode code (pc + 1 + 1) = .ok (.iconst jj, 1)) (hd3 : decode code (pc + 1 + 1 + 1) = .ok (.iadd, 1)) (hd4 : decode code (pc + 1 + 1 + 1 + 1) = .ok (.iaload, 1)) (kk : VL X (pc + 1 + 1 + 1 + 1 + 1) lv (.int (l_x X (i + j)) :: st) M) : VL X pc lv st M := by
  refine VL_aload C 0 hd0 h0 (VL_iload C lv0 hd1 h3 (VL_iconst C _ hd2 hjj (VL_iadd C hd3 ?_)))
  rw [nI_add]
  refine VL_sld C (vin hj (by omega)) hd4 ?_
  rw [clp (by omega)]
  exact kk
theorem VL_call (C : CL X) {y : MethodName} {bytes : ByteArray} {maxL na ci k idx h' : Nat} {rt : Option FieldType} {As stack : List Value} {T : u_T} {N : Nat} {fs : List kF} {Q : Option Value → mM → Prop} (hct : CT (lw_w X) (l_L X) h' y bytes maxL rt (.ref (uA (lw_w X) k) :: As) M Q) (ym : YM y bytes maxL rt na) (yv : YV y) (hc : vwCl[ci]? = some (y.cls, T, N)) (o : AK (lw_w X) k (kO ci fs)) (hh : h' ≤ 12) (hl : Cond.methodLink RL idx y ∈ wsL_law) (hn : As.length = na) (hstk : stack = As.reverse ++ .ref (uA (lw_w X) k) :: st) (hs : (st.map fun v => v.category).sum ≤ 8) (hd : decode code pc = .ok (.invokevirtual idx, 3))
    (kk : ∀ (v : Option Value) (M1 : mM), Q v M1 → VL X (pc + 3) lv (v.toList ++ st) M1) : VL X pc lv stack M := by
  intro H L ls a b c
  obtain ⟨hexec, hb, hml, hown, hts, hK, hZ, -⟩ := C
  obtain ⟨y1, y2, y3, y4, y5⟩ := ym
  have hAw : ∀ q, wA (lw_w X) q → l_a X ≤ q := fun q h => (wN_A h).1
  have cb : CallB room_1 (l_S X) #[Value.ref (l_b X)] RL idx y bytes maxL rt (.code y bytes maxL rt :: wsL_law) (rmH h') 0 0 na := callB_of na hts (wL_goodIn0 y1) rfl rfl rfl (hts _ y2) (hts _ hl) ⟨y4.1, y4.2, y5⟩ ⟨(show h' + 1 ≤ 13 by omega), (show 8 + (maxL + 11) + 37 * h' ≤ 486 by omega)⟩
  have pre : ∀ U : State, U.heap = H → (l_S X).WarmedH U.vm → va_Pc (.ref (uA (lw_w X) k) :: As) (wB (lw_w X) M) (Value.ref (uA (lw_w X) k) :: As).toArray U := by
    intro U hU hWm
    subst hU
    exact ⟨rfl, a, hK.moved hWm.alike, wN_Z (hZ.warm hWm b) (fun _ h => h)⟩
  intro T1 hT1 X1
  obtain ⟨v, st₀, t, T', Lc, e0, X', hLc, e1, e2, ⟨⟨v', M1, hv, hq, hbw⟩, hz2, hk2⟩, stp⟩ := (va_runV (As := As) (rest := st) (g := F0 (l_M X) pc ls stack) ⟨hexec, hb, hml, hown, hts⟩ hct ⟨cb, hts _ yv.1, hts _ yv.2⟩ ⟨wB.blind, va_recv hK a hc (wL_at o.1 o.2), pre⟩ rfl hn c.1 hstk (lv_room hs) hd ⟨Nat.le_of_ble_eq_true rfl, Nat.le_of_ble_eq_true rfl⟩) T1 hT1 X1
  cases hv
  rw [e0] at hz2 hk2
  obtain ⟨t2, a1, b1⟩ := kk v M1 hq T'.heap (L ++ Lc) ls (by rw [e1]; exact hbw.1) ⟨Nat.le_trans b.1 (by rw [e1]; exact hz2), fun q h1 h2 => by rw [e1, hk2 q (Nat.lt_of_lt_of_le h1 b.1) (fun z => h2 (hAw q z))]; exact b.2.1 q h1 h2, fun q hq => by
    rcases List.mem_append.mp hq with h | h
    · exact b.2.2 q h
    · exact hAw _ (hLc q h)⟩ c T' rfl X'
  exact ⟨t2, stp t2 a1, b1⟩
/-- both sides called in turn: the same answer, and both hold the same behind it -/
def LK (X : lX) (i : Nat) : List (Nat × Value) := [(0, .ref (l_b X)), (1, .ref (l_a X + 0)), (2, .ref (l_a X + 145)), (3, .int (nI i))]
def LI (X : lX) (S : zS) (M : mM) : Prop := SW S ∧ CR M 0 S ∧ MR M 145 S
theorem LI_C {X : lX} {S : zS} {F : Int32 × zS} {M : mM} {pC pM : mM → (Int32 → mM → Prop) → Prop} (h : LI X S M) (B : BO 0 145 S F pC pM) : pC M (fun r M' => r = F.1 ∧ CR M' 0 F.2 ∧ MR M' 145 S) :=
  (B h.1).2.1 M _ h.2.1 (fun M' f c => ⟨rfl, c, MR_out h.2.2 f (Or.inr (by decide))⟩)
theorem LI_M {S : zS} {F : Int32 × zS} {M : mM} {pC pM : mM → (Int32 → mM → Prop) → Prop} (w : SW S) (hc : CR M 0 F.2) (hm : MR M 145 S) (B : BO 0 145 S F pC pM) : pM M (fun r M' => r = F.1 ∧ SW F.2 ∧ CR M' 0 F.2 ∧ MR M' 145 F.2) :=
  (B w).2.2 M _ hm (fun M' f c => ⟨rfl, (B w).1, CR_fr hc f (Or.inr (Or.inr (Or.inr (Or.inl (by decide))))), c⟩)
end LROWS
