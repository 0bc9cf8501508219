section VROWS2
variable {X : wX} {cc : ByteArray} {own : String} {ret : Option FieldType} {pc : Nat} {lv : List (Nat × Value)} {st : List Value} {M : mM}
theorem V_if_eq (C : CX X cc own ret) {x : Int32} {off : Int} {tgt : Nat} (hd : decode cc pc = .ok (.ifCond .eq off, 3)) (ht : (pc : Int) + off = (tgt : Int)) (kt : x = 0 → V X tgt lv st M) (kf : ¬ x = 0 → V X (pc + 3) lv st M) : V X pc lv (.int x :: st) M := fun H L ls a b c => lv_if_eq C.1 C.2.1 hd ht (fun h => kt h H L ls a b c) (fun h => kf h H L ls a b c)
theorem V_icmp_eq (C : CX X cc own ret) {x y : Int32} {off : Int} {tgt : Nat} (hd : decode cc pc = .ok (.if_icmp .eq off, 3)) (ht : (pc : Int) + off = (tgt : Int)) (kt : x = y → V X tgt lv st M) (kf : ¬ x = y → V X (pc + 3) lv st M) : V X pc lv (.int y :: .int x :: st) M := fun H L ls a b c => lv_icmp_eq C.1 C.2.1 hd ht (fun h => kt h H L ls a b c) (fun h => kf h H L ls a b c)
theorem V_if_ne (C : CX X cc own ret) {x : Int32} {off : Int} {tgt : Nat} (hd : decode cc pc = .ok (.ifCond .ne off, 3)) (ht : (pc : Int) + off = (tgt : Int)) (kt : ¬ x = 0 → V X tgt lv st M) (kf : x = 0 → V X (pc + 3) lv st M) : V X pc lv (.int x :: st) M := fun H L ls a b c => lv_if_ne C.1 C.2.1 hd ht (fun h => kt h H L ls a b c) (fun h => kf h H L ls a b c)
theorem V_icmp_ne (C : CX X cc own ret) {x y : Int32} {off : Int} {tgt : Nat} (hd : decode cc pc = .ok (.if_icmp .ne off, 3)) (ht : (pc : Int) + off = (tgt : Int)) (kt : ¬ x = y → V X tgt lv st M) (kf : x = y → V X (pc + 3) lv st M) : V X pc lv (.int y :: .int x :: st) M := fun H L ls a b c => lv_icmp_ne C.1 C.2.1 hd ht (fun h => kt h H L ls a b c) (fun h => kf h H L ls a b c)
theorem V_if_lt (C : CX X cc own ret) {x : Int32} {off : Int} {tgt : Nat} (hd : decode cc pc = .ok (.ifCond .lt off, 3)) (ht : (pc : Int) + off = (tgt : Int)) (kt : x < 0 → V X tgt lv st M) (kf : ¬ x < 0 → V X (pc + 3) lv st M) : V X pc lv (.int x :: st) M := fun H L ls a b c => lv_if_lt C.1 C.2.1 hd ht (fun h => kt h H L ls a b c) (fun h => kf h H L ls a b c)
theorem V_icmp_lt (C : CX X cc own ret) {x y : Int32} {off : Int} {tgt : Nat} (hd : decode cc pc = .ok (.if_icmp .lt off, 3)) (ht : (pc : Int) + off = (tgt : Int)) (kt : x < y → V X tgt lv st M) (kf : ¬ x < y → V X (pc + 3) lv st M) : V X pc lv (.int y :: .int x :: st) M := fun H L ls a b c => lv_icmp_lt C.1 C.2.1 hd ht (fun h => kt h H L ls a b c) (fun h => kf h H L ls a b c)
theorem V_if_ge (C : CX X cc own ret) {x : Int32} {off : Int} {tgt : Nat} (hd : decode cc pc = .ok (.ifCond .ge off, 3)) (ht : (pc : Int) + off = (tgt : Int)) (kt : 0 ≤ x → V X tgt lv st M) (kf : ¬ 0 ≤ x → V X (pc + 3) lv st M) : V X pc lv (.int x :: st) M := fun H L ls a b c => lv_if_ge C.1 C.2.1 hd ht (fun h => kt h H L ls a b c) (fun h => kf h H L ls a b c)
theorem V_icmp_ge (C : CX X cc own ret) {x y : Int32} {off : Int} {tgt : Nat} (hd : decode cc pc = .ok (.if_icmp .ge off, 3)) (ht : (pc : Int) + off = (tgt : Int)) (kt : y ≤ x → V X tgt lv st M) (kf : ¬ y ≤ x → V X (pc + 3) lv st M) : V X pc lv (.int y :: .int x :: st) M := fun H L ls a b c => lv_icmp_ge C.1 C.2.1 hd ht (fun h => kt h H L ls a b c) (fun h => kf h H L ls a b c)
theorem V_if_gt (C : CX X cc own ret) {x : Int32} {off : Int} {tgt : Nat} (hd : decode cc pc = .ok (.ifCond .gt off, 3)) (ht : (pc : Int) + off = (tgt : Int)) (kt : 0 < x → V X tgt lv st M) (kf : ¬ 0 < x → V X (pc + 3) lv st M) : V X pc lv (.int x :: st) M := fun H L ls a b c => lv_if_gt C.1 C.2.1 hd ht (fun h => kt h H L ls a b c) (fun h => kf h H L ls a b c)
theorem V_icmp_gt (C : CX X cc own ret) {x y : Int32} {off : Int} {tgt : Nat} (hd : decode cc pc = .ok (.if_icmp .gt off, 3)) (ht : (pc : Int) + off = (tgt : Int)) (kt : y < x → V X tgt lv st M) (kf : ¬ y < x → V X (pc + 3) lv st M) : V X pc lv (.int y :: .int x :: st) M := fun H L ls a b c => lv_icmp_gt C.1 C.2.1 hd ht (fun h => kt h H L ls a b c) (fun h => kf h H L ls a b c)
theorem V_if_le (C : CX X cc own ret) {x : Int32} {off : Int} {tgt : Nat} (hd : decode cc pc = .ok (.ifCond .le off, 3)) (ht : (pc : Int) + off = (tgt : Int)) (kt : x ≤ 0 → V X tgt lv st M) (kf : ¬ x ≤ 0 → V X (pc + 3) lv st M) : V X pc lv (.int x :: st) M := fun H L ls a b c => lv_if_le C.1 C.2.1 hd ht (fun h => kt h H L ls a b c) (fun h => kf h H L ls a b c)
theorem V_icmp_le (C : CX X cc own ret) {x y : Int32} {off : Int} {tgt : Nat} (hd : decode cc pc = .ok (.if_icmp .le off, 3)) (ht : (pc : Int) + off = (tgt : Int)) (kt : x ≤ y → V X tgt lv st M) (kf : ¬ x ≤ y → V X (pc + 3) lv st M) : V X pc lv (.int y :: .int x :: st) M := fun H L ls a b c => lv_icmp_le C.1 C.2.1 hd ht (fun h => kt h H L ls a b c) (fun h => kf h H L ls a b c)
theorem wB.blind {w : wU} {av : List Value} : FrameBlind (va_Pc av (wB w M)) := by
  intro a U g mk h
  obtain ⟨h1, h2, h3, h4⟩ := h
  exact ⟨h1, h2, va_K.moved (u := U) (U := U.calling g mk a) (Vm.Alike.refl U.vm) h3, h4.blind g mk a⟩
theorem wB_pre (C : CX X cc own ret) {H : Heap} {L : List Loc} (a : wW (xW X) M H) (b : va_S (wA (xW X)) (xS X).heap H L) {av : List Value} : ∀ U : State, U.heap = H → (xS X).WarmedH U.vm → va_Pc av (wB (xW X) M) av.toArray U := by
  intro U hU hW
  subst hU
  exact ⟨rfl, a, C.2.2.2.2.2.2.2.1.moved hW.alike, C.2.2.2.2.2.2.2.2.warm hW b⟩
theorem V_back {p : Program} {l : Launch} {e : Env} {R : Room} {s : State} {m : MethodId} {args : Array Value} {below : List Frame} {meth : Method} {c : Code} {H : Heap} {locs : List Loc} {Qq : State → Prop} {w : wU} {Q : Option Value → mM → Prop} {a : Array Value} {ls : Array Slot} {st0 rest : List Value} (hr : va_Run p l e R s m args below meth c H locs 0 0 0 0 (F0 m pc ls st0) rest (wQ w Q a) (wA w)) (hS : va_S (wA w) s.heap H locs)
    (kk : ∀ (v : Option Value) (M1 : mM) (H1 : Heap) (L1 : List Loc), Q v M1 → wW w M1 H1 → va_S (wA w) s.heap H1 L1 → W p l e R s m args below meth c H1 L1 0 0 Qq (F0 m (pc + 3) ls (v.toList ++ rest))) : W p l e R s m args below meth c H locs 0 0 Qq (F0 m pc ls st0) := by
  intro T hT X
  obtain ⟨v, st₀, t, T', L, h0, X', hL, e1, e2, ⟨⟨v', M1, hv, hq, hb⟩, hz, hk⟩, st⟩ := hr T hT X
  cases hv
  rw [h0] at hz hk
  obtain ⟨t2, a1, b1⟩ := kk v M1 T'.heap (locs ++ L) hq (by rw [e1]; exact hb.1)
    ⟨Nat.le_trans hS.1 (by rw [e1]; exact hz), fun q h1 h2 => by rw [e1, hk q (Nat.lt_of_lt_of_le h1 hS.1) h2]; exact hS.2.1 q h1 h2, fun q hq => by
      rcases List.mem_append.mp hq with h | h
      · exact hS.2.2 q h
      · exact hL q h⟩ T' rfl X'
  exact ⟨t2, st t2 a1, b1⟩
/-- what the tables say of a callee: its code, that it is there, by how many arguments -/
def YM (y : MethodName) (bytes : ByteArray) (maxL : Nat) (rt : Option FieldType) (n : Nat) : Prop :=
  Cond.code y bytes maxL rt ∈ wsL_law ∧ Cond.initialized y.cls ∈ wsL_law ∧ maxL ≤ 18 ∧ (y.cls ≠ "java/lang/invoke/MethodHandle" ∧ y.cls ≠ "java/lang/invoke/VarHandle") ∧ (parseMethodDescriptor y.desc).map (fun d => d.parameters.length) = some n
def YV (y : MethodName) : Prop := Cond.instanceMethod y ∈ wsL_law ∧ Cond.selects y.cls y y ∈ wsL_law
theorem wL_hg (q : Cond) (h : q ∈ wsL_law) : (q.onTables && q.keeps) = true ∨ ∃ ty, q = .arrayClass ty := good_of_word (List.all_eq_true.mp wL_good q h)
theorem rmH_ok {h h' maxL : Nat} (hh : h' < h) (hm : maxL ≤ 18) : (rmH h').frames + 1 ≤ (rmH h).frames ∧ 8 + (maxL + 11) + (rmH h').locals ≤ (rmH h).locals := by
  refine ⟨hh, ?_⟩
  show 8 + (maxL + 11) + 37 * h' ≤ 37 * h
  omega
theorem V_cat {H : Heap} {ls : Array Slot} (hs : (st.map fun v => v.category).sum ≤ 8) {st0 : List Value} : 2 * (F0 (xM X) pc ls st0).monitorRoom + (st.map fun v => v.category).sum ≤ 8 := by
  show 2 * 0 + _ ≤ 8
  omega
theorem V_callV (C : CX X cc own ret) {y : MethodName} {bytes : ByteArray} {maxL n ci k idx h' : Nat} {rt : Option FieldType} {As stack : List Value} {T : u_T} {N : Nat} {fs : List kF} {Q : Option Value → mM → Prop} (hct : CT (xW X) (xL X) h' y bytes maxL rt (vR X k :: As) M Q) (ym : YM y bytes maxL rt n) (yv : YV y) (hc : vwCl[ci]? = some (y.cls, T, N)) (o : AK (xW X) k (kO ci fs)) (hh : h' < xH X) (hl : Cond.methodLink own idx y ∈ wsL_law) (hn : As.length = n) (hstk : stack = As.reverse ++ vR X k :: st) (hs : (st.map fun v => v.category).sum ≤ 8) (hd : decode cc pc = .ok (.invokevirtual idx, 3))
    (kk : ∀ (v : Option Value) (M1 : mM), Q v M1 → V X (pc + 3) lv (v.toList ++ st) M1) : V X pc lv stack M := by
  intro H L ls a b c
  obtain ⟨y1, y2, y3, y4, y5⟩ := ym
  have hts := C.2.2.2.2.2.1
  have cb : CallB (rmH (xH X)) (xS X) (xA X) own idx y bytes maxL rt (.code y bytes maxL rt :: wsL_law) (rmH h') 0 0 n := callB_of n hts (wL_goodIn0 y1) rfl rfl rfl (hts _ y2) (hts _ hl) ⟨y4.1, y4.2, y5⟩ (rmH_ok hh y3)
  refine V_back (va_runV (As := As) (rest := st) ⟨C.1, C.2.1, C.2.2.1, C.2.2.2.2.1, hts⟩ hct ⟨cb, hts _ yv.1, hts _ yv.2⟩ ⟨wB.blind, va_recv C.2.2.2.2.2.2.2.1 a hc (wL_at o.1 o.2), wB_pre C a b⟩ rfl hn c.1 hstk (V_cat (H := H) hs) hd ⟨Nat.zero_le _, Nat.zero_le _⟩) b (fun v M1 H1 L1 hq a1 b1 => kk v M1 hq H1 L1 ls a1 b1 c)
theorem V_callS (C : CX X cc own ret) {y : MethodName} {bytes : ByteArray} {maxL n idx h' : Nat} {rt : Option FieldType} {As stack : List Value} {Q : Option Value → mM → Prop} (hct : CT (xW X) (xL X) h' y bytes maxL rt As M Q) (ym : YM y bytes maxL rt n) (yv : Cond.static y ∈ wsL_law) (hh : h' < xH X) (hl : Cond.methodLink own idx y ∈ wsL_law) (hn : As.length = n) (hstk : stack = As.reverse ++ st) (hs : (st.map fun v => v.category).sum ≤ 8) (hd : decode cc pc = .ok (.invokestatic idx, 3))
    (kk : ∀ (v : Option Value) (M1 : mM), Q v M1 → V X (pc + 3) lv (v.toList ++ st) M1) : V X pc lv stack M := by
  intro H L ls a b c
  obtain ⟨y1, y2, y3, y4, y5⟩ := ym
  have hts := C.2.2.2.2.2.1
  have cb : CallB (rmH (xH X)) (xS X) (xA X) own idx y bytes maxL rt (.code y bytes maxL rt :: wsL_law) (rmH h') 0 0 n := callB_of n hts (wL_goodIn0 y1) rfl rfl rfl (hts _ y2) (hts _ hl) ⟨y4.1, y4.2, y5⟩ (rmH_ok hh y3)
  refine V_back (va_runS (As := As) (rest := st) ⟨C.1, C.2.1, C.2.2.1, C.2.2.2.2.1, hts⟩ hct ⟨cb, hts _ yv⟩ ⟨wB.blind, wB_pre C a b⟩ rfl hn c.1 hstk (V_cat (H := H) hs) hd ⟨Nat.zero_le _, Nat.zero_le _⟩) b (fun v M1 H1 L1 hq a1 b1 => kk v M1 hq H1 L1 ls a1 b1 c)
theorem V_callN (C : CX X cc own ret) {y : MethodName} {bytes : ByteArray} {maxL n idx h' : Nat} {rt : Option FieldType} {As stack : List Value} {Q : Option Value → mM → Prop} {host : String} (hct : CT (xW X) (xL X) h' y bytes maxL rt As M Q) (ym : YM y bytes maxL rt n) (yv : Cond.static y ∈ wsL_law) (hh : h' < xH X) (hl : Cond.methodLinkNest own idx y host ∈ zNest) (hn : As.length = n) (hstk : stack = As.reverse ++ st) (hs : (st.map fun v => v.category).sum ≤ 8) (hd : decode cc pc = .ok (.invokestatic idx, 3))
    (kk : ∀ (v : Option Value) (M1 : mM), Q v M1 → V X (pc + 3) lv (v.toList ++ st) M1) : V X pc lv stack M := by
  intro H L ls a b c
  obtain ⟨y1, y2, y3, y4, y5⟩ := ym
  have hts := C.2.2.2.2.2.1
  have cb : va_CN (rmH (xH X)) (xS X) (xA X) own idx y host bytes maxL rt (.code y bytes maxL rt :: wsL_law) (rmH h') 0 0 n := va_cnB n hts (wL_goodIn0 y1) rfl rfl rfl (C.2.2.2.2.2.2.2.2.2.2.1 _ hl) (hts _ y2) ⟨y4.1, y4.2, y5⟩ (rmH_ok hh y3)
  refine V_back (va_runSN (As := As) (rest := st) ⟨C.1, C.2.1, C.2.2.1, C.2.2.2.2.1, hts⟩ hct ⟨cb, hts _ yv, trivial⟩ ⟨wB.blind, wB_pre C a b⟩ rfl hn c.1 hstk (V_cat (H := H) hs) hd ⟨Nat.zero_le _, Nat.zero_le _⟩) b (fun v M1 H1 L1 hq a1 b1 => kk v M1 hq H1 L1 ls a1 b1 c)
theorem V_max (C : CX X cc own ret) {idx : Nat} {x y : Int32} (hh : 0 < xH X) (hl : Cond.methodLink own idx Lib.Math.max.name ∈ wsL_law) (h2 : Cond.static Lib.Math.max.name ∈ wsL_law) (h3 : Cond.initialized "java/lang/Math" ∈ wsL_law) (h4 : Cond.code Lib.Math.max.name Lib.Math.max.code 2 (some .int) ∈ wsL_law) (hs : (st.map fun v => v.category).sum ≤ 8) (hd : decode cc pc = .ok (.invokestatic idx, 3)) (k : V X (pc + 3) lv (.int (if x < y then y else x) :: st) M) : V X pc lv (.int y :: .int x :: st) M := fun H L ls a b c => va_mmax C.1 C.2.1 (C.2.2.1.trans c.1.symm) C.2.2.2.2.1 (C.2.2.2.2.2.1 _ hl) (C.2.2.2.2.2.1 _ h2) (C.2.2.2.2.2.1 _ h3) (C.2.2.2.2.2.1 _ h4) (show 1 ≤ (rmH (xH X)).frames from hh) (by show _ + 13 ≤ 37 * xH X; omega) (Nat.zero_le _) (Nat.zero_le _) hd (k H L ls a b c)
theorem V_min (C : CX X cc own ret) {idx : Nat} {x y : Int32} (hh : 0 < xH X) (hl : Cond.methodLink own idx Lib.Math.min.name ∈ wsL_law) (h2 : Cond.static Lib.Math.min.name ∈ wsL_law) (h3 : Cond.initialized "java/lang/Math" ∈ wsL_law) (h4 : Cond.code Lib.Math.min.name Lib.Math.min.code 2 (some .int) ∈ wsL_law) (hs : (st.map fun v => v.category).sum ≤ 8) (hd : decode cc pc = .ok (.invokestatic idx, 3)) (k : V X (pc + 3) lv (.int (if y < x then y else x) :: st) M) : V X pc lv (.int y :: .int x :: st) M := fun H L ls a b c => va_mmin C.1 C.2.1 (C.2.2.1.trans c.1.symm) C.2.2.2.2.1 (C.2.2.2.2.2.1 _ hl) (C.2.2.2.2.2.1 _ h2) (C.2.2.2.2.2.1 _ h3) (C.2.2.2.2.2.1 _ h4) (show 1 ≤ (rmH (xH X)).frames from hh) (by show _ + 13 ≤ 37 * xH X; omega) (Nat.zero_le _) (Nat.zero_le _) hd (k H L ls a b c)
theorem zz_native : nativeFrameWords "java/lang/System" "arraycopy" 5 ≤ 18 := by decide +kernel
theorem V_copy (C : CX X cc own ret) {idx k0 k1 n0 n1 : Nat} {sp dp n : Int32} (o0 : AK (xW X) k0 (kI 0 n0)) (o1 : AK (xW X) k1 (kI 0 n1)) (hh : 0 < xH X) (hl : Cond.methodLink own idx arraycopyName ∈ wsL_law) (hA : Cond.native arraycopyName ∈ wsL_law ∧ Cond.static arraycopyName ∈ wsL_law ∧ Cond.initialized "java/lang/System" ∈ wsL_law) (h1 : ¬ sp < 0) (h2 : ¬ dp < 0) (h3 : ¬ n < 0) (h4 : sp.toNatClampNeg + n.toNatClampNeg ≤ n0) (h5 : dp.toNatClampNeg + n.toNatClampNeg ≤ n1) (hs : (st.map fun v => v.category).sum ≤ 8) (hd : decode cc pc = .ok (.invokestatic idx, 3))
    (kk : V X (pc + 3) lv st (mI M k1 (va_cpy (M.1 k0) (M.1 k1) sp.toNatClampNeg dp.toNatClampNeg n.toNatClampNeg))) : V X pc lv (.int n :: .int dp :: vR X k1 :: .int sp :: vR X k0 :: st) M := by
  intro H L ls a b c
  have hw := C.2.2.2.2.2.1
  obtain ⟨hk, hz⟩ := o1
  have hnat := zz_native
  refine va_copyi C.1 C.2.1 (C.2.2.1.trans c.1.symm) C.2.2.2.2.1 (hw _ hl) (hw _ hA.1) (hw _ hA.2.1) (hw _ hA.2.2) C.2.2.2.2.2.2.2.1 a (wL_D C.2.2.2.2.2.2.2.2.1 M) b k0 k1 0 0 (wL_at o0.1 o0.2) (wL_at hk hz) rfl rfl rfl h1 h2 h3 h4 h5 (fun _ _ => rfl) hh (by show _ + (_ + 11) ≤ 37 * xH X; omega) hd (fun H1 L1 a1 _ b1 => kk H1 L1 ls ?_ b1 c)
  have e := wL_set (w := xW X) (M := M) (M1 := mI M k1 (va_cpy (M.1 k0) (M.1 k1) sp.toNatClampNeg dp.toNatClampNeg n.toNatClampNeg)) hk (fun q h => mI_n h) (fun q _ => rfl)
  rw [mI_s, mI_l, hz] at e
  show va_P _ _ (wL _ _) _
  rw [← e]
  exact a1
end VROWS2
