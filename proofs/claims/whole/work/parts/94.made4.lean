/-! a made object as a world of its own, and calls of methods in it -/
def wN (L0 : List kK) (a : Nat) (G : gU) : wU := (fun k => L0.getD k (kI 0 0), L0.length, aT a, G.1, G.2.1, G.2.2)
def shF (b : Nat) : kF → kF := Option.map (Option.map (fun q => b + q))
def shK (b : Nat) : kK → kK
  | .inl x => .inl x
  | .inr (.inl x) => .inr (.inl x)
  | .inr (.inr (.inl (t, n, f))) => .inr (.inr (.inl (t, n, fun j => b + f j)))
  | .inr (.inr (.inr (c, fs))) => .inr (.inr (.inr (c, fs.map (shF b))))
theorem wF_sh (a b : Nat) (f : Nat → Int32) (g : Nat → Int64) : ∀ (fs : List kF) (j : Nat), wF (aT a) f g j (fs.map (shF b)) = wF (aT (a + b)) f g j fs
  | [], j => rfl
  | x :: r, j => by
    show wV (aT a) f g j (shF b x) :: wF (aT a) f g (j + 1) (r.map (shF b)) = wV (aT (a + b)) f g j x :: wF (aT (a + b)) f g (j + 1) r
    rw [wF_sh a b f g r (j + 1)]
    congr 1
    match x with
    | none => rfl
    | some none => rfl
    | some (some q) => exact congrArg Value.ref (Nat.add_assoc a b q).symm
theorem wE_sh (a b : Nat) (cA : Nat → ClassId) (f : Nat → Int32) (g : Nat → Int64) : ∀ z : kK, wE (aT a) cA f g (shK b z) = wE (aT (a + b)) cA f g z
  | .inl x => rfl
  | .inr (.inl x) => rfl
  | .inr (.inr (.inl (t, n, r))) => by
    show (Sum.inl (cA t, n, .inr (.inr (.inr (.inr (fun j => some (a + (b + r j))))))) : va_E) = .inl (cA t, n, .inr (.inr (.inr (.inr (fun j => some (a + b + r j))))))
    have e : (fun j => some (a + (b + r j))) = fun j => some (a + b + r j) := by
      funext j
      rw [Nat.add_assoc]
    rw [e]
  | .inr (.inr (.inr (c, fs))) => by
    show (Sum.inr (c, wF (aT a) f g 0 (fs.map (shF b))) : va_E) = .inr (c, wF (aT (a + b)) f g 0 fs)
    rw [wF_sh]
theorem eA_sh {G : gU} {a b k : Nat} {M M' : mM} {z : kK} (h1 : M.1 (b + k) = M'.1 k) (h2 : M.2 (b + k) = M'.2 k) : eA G a M (b + k) (shK b z) = eA G (a + b) M' (0 + k) z := by
  unfold eA
  rw [wE_sh, h1, h2, Nat.zero_add, Nat.add_assoc]
theorem hpB_to {G : gU} {a b : Nat} {L0 : List kK} {M M' : mM} {H : Heap} (hm : ∀ k, k < L0.length → M.1 (b + k) = M'.1 k ∧ M.2 (b + k) = M'.2 k) (h : hpB G a b (L0.map (shK b)) M H) : hpB G (a + b) 0 L0 M' H := fun k z hk => by
  have hl := (List.getElem?_eq_some_iff.mp hk).1
  have h1 := h k (shK b z) (by rw [List.getElem?_map, hk]; rfl)
  rw [eA_sh (hm k hl).1 (hm k hl).2] at h1
  exact h1
theorem hpB_of {G : gU} {a b : Nat} {L0 : List kK} {M M' : mM} {H : Heap} (hm : ∀ k, k < L0.length → M.1 (b + k) = M'.1 k ∧ M.2 (b + k) = M'.2 k) (h : hpB G (a + b) 0 L0 M' H) : hpB G a b (L0.map (shK b)) M H := fun k z hk => by
  rw [List.getElem?_map] at hk
  cases hz : L0[k]? with
  | none => rw [hz] at hk; cases hk
  | some z0 =>
    rw [hz] at hk
    cases hk
    have hl := (List.getElem?_eq_some_iff.mp hz).1
    have h1 := h k z0 hz
    rw [← eA_sh (hm k hl).1 (hm k hl).2] at h1
    exact h1
theorem wN_K {L0 : List kK} {a : Nat} {G : gU} {k : Nat} {z : kK} (h : L0[k]? = some z) : AK (wN L0 a G) k z := ⟨(List.getElem?_eq_some_iff.mp h).1, by show L0.getD k _ = z; rw [List.getD_eq_getElem?_getD, h]; rfl⟩
theorem wN_W {L0 : List kK} {a : Nat} {G : gU} {M : mM} {H : Heap} (h : hpB G a 0 L0 M H) : wW (wN L0 a G) M H := by
  intro k q hk
  have hl : k < L0.length := by
    have := (List.getElem?_eq_some_iff.mp hk).1
    rw [wL_len] at this
    exact this
  have hz : L0[k]? = some L0[k] := List.getElem?_eq_getElem hl
  rw [wL_at (wN_K (a := a) (G := G) hz).1 (wN_K (a := a) (G := G) hz).2] at hk
  have h1 := h k _ hz
  unfold eA at h1
  rw [Nat.zero_add] at h1
  rw [← Option.some.inj hk]
  exact h1
theorem wN_hp {L0 : List kK} {a : Nat} {G : gU} {M : mM} {H : Heap} (h : wW (wN L0 a G) M H) : hpB G a 0 L0 M H := by
  intro k z hz
  have h1 := h k _ (wL_at (wN_K (a := a) (G := G) hz).1 (wN_K (a := a) (G := G) hz).2)
  unfold eA
  rw [Nat.zero_add]
  exact h1
theorem wN_is {c a : Nat} {G : gU} : isC (wN (lyC c 0) a G) c 0 := fun o z h => by
  rw [Nat.zero_add]
  exact wN_K h
theorem wN_A {L0 : List kK} {a q : Nat} {G : gU} (h : wA (wN L0 a G) q) : a ≤ q ∧ q < a + L0.length := by
  obtain ⟨k, hk, e⟩ := h
  have hk : k < L0.length := hk
  have e : q = a + k := e
  omega
theorem wN_Z {L0 : List kK} {a : Nat} {G : gU} {A : Nat → Prop} {U : State} {H : Heap} (h : wY G.2.2 A U H) (hA : ∀ q, a ≤ q → A q) : wZ (wN L0 a G) U H := by
  refine ⟨fun i j _ _ e => ?_, (h.narrow (fun q hq => hA q (wN_A hq).1))⟩
  have e : a + i = a + j := e
  omega
def mpt (lo len : Nat) (M u : mM) : mM := (fun j => if lo ≤ j ∧ j < lo + len then u.1 (j - lo) else M.1 j, fun j => if lo ≤ j ∧ j < lo + len then u.2 (j - lo) else M.2 j)
theorem mpt_i {lo len k : Nat} {M u : mM} (h : k < len) : (mpt lo len M u).1 (lo + k) = u.1 k ∧ (mpt lo len M u).2 (lo + k) = u.2 k := by
  unfold mpt
  refine ⟨?_, ?_⟩
  · show (if lo ≤ lo + k ∧ lo + k < lo + len then u.1 (lo + k - lo) else M.1 (lo + k)) = _
    rw [if_pos (by omega), Nat.add_sub_cancel_left]
  · show (if lo ≤ lo + k ∧ lo + k < lo + len then u.2 (lo + k - lo) else M.2 (lo + k)) = _
    rw [if_pos (by omega), Nat.add_sub_cancel_left]
theorem mpt_o {lo len j : Nat} {M u : mM} (h : j < lo ∨ lo + len ≤ j) : (mpt lo len M u).1 j = M.1 j ∧ (mpt lo len M u).2 j = M.2 j := ⟨if_neg (by omega), if_neg (by omega)⟩
theorem hpB_mid {G : gU} {a b : Nat} {L1 L2 L3 : List kK} {M : mM} {H : Heap} (h : hpB G a b (L1 ++ (L2 ++ L3)) M H) : hpB G a (b + L1.length) L2 M H := fun k z hk => by
  have hl := (List.getElem?_eq_some_iff.mp hk).1
  have := h (L1.length + k) z (by rw [List.getElem?_append_right (by omega), Nat.add_sub_cancel_left, List.getElem?_append_left hl]; exact hk)
  rw [← Nat.add_assoc] at this
  exact this
/-- the walk behind the making: all cells, the own one first -/
def NC (X : nX) (pc : Nat) (L : List kK) (M : mM) (st : List Value) (k n : Nat) : Prop :=
  ∀ (H : Heap) (locs : List Loc) (ls : Array Slot), H.size = n_a X + n_b X + L.length → hpB (n_G X) (n_a X) (n_b X) L M H → va_S (n_O X) (n_S X).heap H locs → lv_has ls 1 [(0, .ref (n_a X + n_b X))] →
    W (n_P X) (n_L X) (n_E X) (n_R X) (n_S X) (n_M X) (n_A X) (n_B X) (n_me X) (n_c X) H locs k n (n_Q X) (F0 (n_M X) pc ls st)
section NROWS4
variable {X : nX} {cc : ByteArray} {own : String} {pc : Nat} {fs : List Value} {L : List kK} {M : mM} {st : List Value} {k n : Nat}
theorem NB_done {ks : List kF} (hfs : wF (aT (n_a X)) (M.1 (n_b X)) (M.2 (n_b X)) 0 ks = fs) (kk : NC X pc (kO (n_k X) ks :: L) M st k n) : NB X pc fs L M st k n := by
  intro H locs ls hz ho hL hS hls
  refine kk H locs ls (by rw [hz, List.length_cons]; omega) (fun q z hq => ?_) hS hls
  cases q with
  | zero =>
    have hq : kO (n_k X) ks = z := Option.some.inj hq
    subst hq
    show va_at _ _ (n_a X + (n_b X + 0), .inr (n_k X, wF (aT (n_a X)) (M.1 (n_b X + 0)) (M.2 (n_b X + 0)) 0 ks)) H
    rw [Nat.add_zero, hfs]
    exact ho
  | succ q =>
    have := hL q z hq
    rw [show n_b X + (q + 1) = n_b X + 1 + q by omega]
    exact this
theorem NB_get (C : NX X cc own) {idx j : Nat} {v : Value} (F : FL own idx (n_k X) j) (hf : fs[j]? = some v) (hd : decode cc pc = .ok (.getfield idx, 3)) (kk : NB X (pc + 3) fs L M (v :: st) k n) : NB X pc fs L M (.ref (n_a X + n_b X) :: st) k n := by
  intro H locs ls hz ho hL hS hls
  obtain ⟨Cn, T, N, ty, hc, hin, hty, hnm, hj, hlk⟩ := F
  have hP : va_P (n_G X).1 vwCl [(n_a X + n_b X, .inr (n_k X, fs))] H := fun q z hq => by
    have hl := (List.getElem?_eq_some_iff.mp hq).1
    have hl : q < 1 := hl
    have e : q = 0 := by omega
    subst e
    cases hq
    exact ho
  exact va_get C.1 C.2.1 C.2.2.2.2.1 hin C.2.2.2.1 C.2.2.2.2.2.1 hP 0 rfl hc j hj (C.2.2.2.2.1 _ hlk) (fun _ h => h) hf hd (kk H locs ls hz ho hL hS hls)
theorem NC_aload (C : NX X cc own) (hd : decode cc pc = .ok (.aload_n 0, 1)) (kk : NC X (pc + 1) L M (.ref (n_a X + n_b X) :: st) k n) : NC X pc L M st k n := fun H lo ls a b c d => lv_aload_n C.1 C.2.1 hd rfl (lv_at d 0 rfl) (kk H lo ls a b c d)
theorem NC_iconst (C : NX X cc own) {i : Int} (v : Int32) (hd : decode cc pc = .ok (.iconst i, 1)) (hv : Int32.ofInt i = v) (kk : NC X (pc + 1) L M (.int v :: st) k n) : NC X pc L M st k n := fun H lo ls a b c d => lv_iconst C.1 C.2.1 hd hv (kk H lo ls a b c d)
theorem NC_lconst (C : NX X cc own) {i : Fin 2} (v : Int64) (hd : decode cc pc = .ok (.lconst i, 1)) (hv : Int64.ofNat (i : Nat) = v) (kk : NC X (pc + 1) L M (.long v :: st) k n) : NC X pc L M st k n := fun H lo ls a b c d => lv_lconst C.1 C.2.1 hd hv (kk H lo ls a b c d)
theorem NC_ret {mc ms : Nat} {Pm : Nat → mM → Prop} (C : NX X cc own) (E : NE X mc ms Pm) (hly : lyC (n_k X) (n_b X) = L) (hm : Pm (n_b X) M) (h1 : k ≤ mc) (h2 : n ≤ ms) (hd : decode cc pc = .ok (.return_, 1)) : NC X pc L M [] k n := by
  intro H locs ls hz hL hS hls
  obtain ⟨hQ, hr, hlk⟩ := E
  rw [hQ]
  refine W.widen h1 h2 ?_
  exact W.vret C.1 C.2.1 hr (fun t ht hW => ⟨⟨M, rfl, hm, by rw [ht, hz, hly], by rw [ht, hly]; exact hL⟩, hS.F ht⟩) hS.2.2 hd hlk
theorem NC_call (C : NX X cc own) {y : MethodName} {bytes : ByteArray} {maxL na h' idx ci : Nat} {L0 L1 L3 : List kK} {As stack : List Value} {T : u_T} {N : Nat} {ks : List kF} {Q : mM → Prop} (hLf : L = L1 ++ (L0.map (shK (n_b X + L1.length)) ++ L3)) (h0 : L0[0]? = some (kO ci ks)) (hc : vwCl[ci]? = some (y.cls, T, N))
    (hct : CT (wN L0 (n_a X + (n_b X + L1.length)) (n_G X)) (n_L X) h' y bytes maxL none (.ref (n_a X + (n_b X + L1.length)) :: As) (fun q => M.1 (n_b X + L1.length + q), fun q => M.2 (n_b X + L1.length + q)) (piV Q)) (ym : YM y bytes maxL none na) (yv : YV y) (hlink : Cond.methodLink own idx y ∈ wsL_law) (hn : As.length = na) (hk : k + 1 = L.length)
    (hfr : h' + 1 ≤ (n_R X).frames) (hlo : 8 + (maxL + 11) + 37 * h' ≤ (n_R X).locals) (hcl : k ≤ (n_R X).cells) (hsl : n ≤ (n_R X).slots) (hstk : stack = As.reverse ++ .ref (n_a X + (n_b X + L1.length)) :: st) (hs : (st.map fun v => v.category).sum ≤ 8) (hd : decode cc pc = .ok (.invokevirtual idx, 3))
    (kk : ∀ M1, Q M1 → NC X (pc + 3) L (mpt (n_b X + L1.length) L0.length M M1) st k n) : NC X pc L M stack k n := by
  intro H locs ls hz hL hS hls
  obtain ⟨hexec, hb, hml, hown, hts, hK, hin2, hsz, hZ, hV⟩ := C
  subst hLf
  obtain ⟨y1, y2, y3, y4, y5⟩ := ym
  have hseg := hpB_mid hL
  have hW : wW (wN L0 (n_a X + (n_b X + L1.length)) (n_G X)) (fun q => M.1 (n_b X + L1.length + q), fun q => M.2 (n_b X + L1.length + q)) H := wN_W (hpB_to (fun _ _ => ⟨rfl, rfl⟩) hseg)
  have hA : ∀ q, n_a X + (n_b X + L1.length) ≤ q → n_O X q := fun q h => by
    show n_a X + n_b X ≤ q
    omega
  have pre : ∀ U : State, U.heap = H → (n_S X).WarmedH U.vm → va_Pc (.ref (n_a X + (n_b X + L1.length)) :: As) (wB (wN L0 (n_a X + (n_b X + L1.length)) (n_G X)) (fun q => M.1 (n_b X + L1.length + q), fun q => M.2 (n_b X + L1.length + q))) (Value.ref (n_a X + (n_b X + L1.length)) :: As).toArray U := by
    intro U hU hWm
    subst hU
    exact ⟨rfl, hW, hK.moved hWm.alike, wN_Z (hZ.warm hWm hS) hA⟩
  have cb : CallB (n_R X) (n_S X) (n_A X) own idx y bytes maxL none (.code y bytes maxL none :: wsL_law) (rmH h') 0 0 na := callB_of na hts (wL_goodIn0 y1) rfl rfl rfl (hts _ y2) (hts _ hlink) ⟨y4.1, y4.2, y5⟩ ⟨hfr, hlo⟩
  intro T1 hT1 X1
  obtain ⟨v, st₀, t, T', Lc, e0, X', hLc, e1, e2, ⟨⟨v', M1, hv, hq, hbw⟩, hz2, hk2⟩, stp⟩ := (va_runV (As := As) (rest := st) (g := F0 (n_M X) pc ls stack) ⟨hexec, hb, hml, hown, hts⟩ hct ⟨cb, hts _ yv.1, hts _ yv.2⟩ ⟨wB.blind, va_recv hK hW hc (wL_at (wN_K h0).1 (wN_K h0).2), pre⟩ rfl hn hls.1 hstk (lv_room hs) hd ⟨by omega, by omega⟩) T1 hT1 X1
  cases hv
  obtain ⟨rfl, hq⟩ := hq
  rw [e0] at hz2 hk2
  have up : T'.heap.size ≤ (n_S X).heap.size + (k + 0) := X'.same.2.2.1
  have lo : H.size ≤ T'.heap.size := by rw [e1]; exact hz2
  have keep : ∀ q, q < n_a X + (n_b X + L1.length) ∨ n_a X + (n_b X + L1.length) + L0.length ≤ q → q < H.size → T'.heap[q]? = H[q]? := fun q h1 h2 => by
    rw [e1]
    exact hk2 q h2 (fun w => by have := wN_A w; omega)
  have hM1 := hpB_of (a := n_a X) (b := n_b X + L1.length) (M := mpt (n_b X + L1.length) L0.length M M1) (fun q hq => mpt_i hq) (wN_hp hbw.1)
  rw [← e1] at hM1
  rw [hsz] at up
  have sz : T'.heap.size = n_a X + n_b X + (L1 ++ (L0.map (shK (n_b X + L1.length)) ++ L3)).length := by omega
  have len : (L1 ++ (L0.map (shK (n_b X + L1.length)) ++ L3)).length = L1.length + (L0.length + L3.length) := by rw [List.length_append, List.length_append, List.length_map]
  have hp : hpB (n_G X) (n_a X) (n_b X) (L1 ++ (L0.map (shK (n_b X + L1.length)) ++ L3)) (mpt (n_b X + L1.length) L0.length M M1) T'.heap := by
    intro q z hq
    have hl := (List.getElem?_eq_some_iff.mp hq).1
    by_cases c1 : L1.length ≤ q ∧ q < L1.length + L0.length
    · have h3 : (L0.map (shK (n_b X + L1.length)))[q - L1.length]? = some z := by
        rw [List.getElem?_append_right (by omega), List.getElem?_append_left (by rw [List.length_map]; omega)] at hq
        exact hq
      have := hM1 (q - L1.length) z h3
      rw [show n_b X + L1.length + (q - L1.length) = n_b X + q by omega] at this
      exact this
    · have h4 := (hL q z hq).kept (H1 := T'.heap) (keep (n_a X + (n_b X + q)) (by omega) (by omega))
      have mo := mpt_o (lo := n_b X + L1.length) (len := L0.length) (M := M) (u := M1) (j := n_b X + q) (by omega)
      unfold eA at h4 ⊢
      rw [mo.1, mo.2]
      exact h4
  obtain ⟨t2, a1, b1⟩ := kk M1 hq T'.heap (locs ++ Lc) ls sz hp ⟨by have := hS.1; omega, fun q h1 h2 => (keep q (by have h2 : ¬ n_a X + n_b X ≤ q := h2; omega) (Nat.lt_of_lt_of_le h1 hS.1)).trans (hS.2.1 q h1 h2), fun q hq => by
    rcases List.mem_append.mp hq with h | h
    · exact hS.2.2 q h
    · exact hA _ (wN_A (hLc q h)).1⟩ hls T' rfl X'
  exact ⟨t2, stp t2 a1, b1⟩
end NROWS4
