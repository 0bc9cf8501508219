/-! the law's start: both are made -/
def LB (X : lX) (pc : Nat) (lv : List (Nat × Value)) (st : List Value) (L : List kK) (M : mM) (k n : Nat) : Prop :=
  ∀ (H : Heap) (locs : List Loc) (ls : Array Slot), H.size = l_a X + L.length → hpB (l_G X) (l_a X) 0 L M H → va_S (fun q => l_a X ≤ q) (l_S X).heap H locs → lv_has ls 4 lv →
    W (l_P X) (l_L X) (l_E X) room_1 (l_S X) (l_M X) #[Value.ref (l_b X)] (l_B X) (l_me X) (l_c X) H locs k n (l_Q X) (F0 (l_M X) pc ls st)
section LROWS2
variable {X : lX} {pc : Nat} {lv : List (Nat × Value)} {st : List Value} {L : List kK} {M : mM} {k n : Nat}
theorem LB_VL (h : VL X pc lv st M) : LB X pc lv st (lyC 6 0 ++ lyC 7 145) M 160 20515 := fun H locs ls _ b c d => h H locs ls (wN_W b) c d
theorem LB_astore (C : CL X) {i : Fin 4} {x : Nat} {lv' : List (Nat × Value)} (hd : decode code pc = .ok (.astore_n i, 1)) (hl : ((i : Nat), Value.ref x) :: lv.filter (fun q => !(q.1 == (i : Nat)) && !(q.1 + 1 == (i : Nat) && q.2.category == 2)) = lv') (kk : LB X (pc + 1) lv' st L M k n) : LB X pc lv (.ref x :: st) L M k n := fun H lo ls a b c d => lv_astore_n C.1 C.2.1 hd rfl d i.isLt hl (fun ls2 c2 => kk H lo ls2 a b c c2)
theorem LB_istore (C : CL X) {i : Fin 4} {x : Int32} {lv' : List (Nat × Value)} (hd : decode code pc = .ok (.istore_n i, 1)) (hl : ((i : Nat), Value.int x) :: lv.filter (fun q => !(q.1 == (i : Nat)) && !(q.1 + 1 == (i : Nat) && q.2.category == 2)) = lv') (kk : LB X (pc + 1) lv' st L M k n) : LB X pc lv (.int x :: st) L M k n := fun H lo ls a b c d => lv_istore_n C.1 C.2.1 hd rfl d i.isLt hl (fun ls2 c2 => kk H lo ls2 a b c c2)
theorem LB_iconst (C : CL X) {i : Int} (v : Int32) (hd : decode code pc = .ok (.iconst i, 1)) (hv : Int32.ofInt i = v) (kk : LB X (pc + 1) lv (.int v :: st) L M k n) : LB X pc lv st L M k n := fun H lo ls a b c d => lv_iconst C.1 C.2.1 hd hv (kk H lo ls a b c d)
theorem LB_sub {lv' : List (Nat × Value)} (ks : List Nat) (hl : lv_pick lv ks = lv') (kk : LB X pc lv' st L M k n) : LB X pc lv st L M k n := fun H lo ls a b c d => kk H lo ls a b c (lv_sub d ks hl)
theorem LB_make (C : CL X) (hV : wV2 (l_S X)) {y : MethodName} {bytes : ByteArray} {c' mc ms h' N idx idx2 len : Nat} {Cn : String} {T : u_T} {ty0 : Nat → FieldType} {f0 : List Value} {Pm : Nat → mM → Prop} (hCN : CN (l_L X) h' c' mc ms y bytes f0 Pm) (hc : vwCl[c']? = some (Cn, T, N)) (hin : ∀ q ∈ u_ws Cn T N, q ∈ wsL_law) (hty : ∀ j, j < N → parseFieldDescriptor (T j).2.2.1 = some (ty0 j)) (hfs : ∀ j, j < N → defaultValue (ty0 j) = vp_V f0 j)
    (hcl : Cond.classLink RL idx Cn ∈ wsL_law) (hins : Cond.instantiable Cn N ∈ wsL_law) (hini : Cond.initialized Cn ∈ wsL_law) (ym : YM y bytes 1 none 0) (hy : y.name = "<init>") (hyi : Cond.instanceMethod y ∈ wsL_law) (hl : Cond.methodLink RL idx2 y ∈ wsL_law)
    (hlen : (lyC c' L.length).length = len) (hfr : h' + 1 ≤ 13) (hlo : 8 + (1 + 11) + 37 * h' ≤ 486) (hcells : k + 1 + mc ≤ 600000) (hslots : n + N + ms ≤ 7302250)
    (hd1 : decode code pc = .ok (.new idx, 3)) (hd2 : decode code (pc + 3) = .ok (.dup, 1)) (hd3 : decode code (pc + 3 + 1) = .ok (.invokespecial idx2, 3))
    (kk : ∀ u, Pm L.length u → LB X (pc + 3 + 1 + 3) lv [.ref (l_a X + L.length)] (L ++ lyC c' L.length) (mg L.length (L.length + len) M u) (k + 1 + mc) (n + N + ms)) : LB X pc lv [] L M k n := by
  intro H locs ls hz hL hS hls
  obtain ⟨hexec, hb, hml, hown, hts, hK, hZ, -⟩ := C
  have hKn := hK.1 c' _ hc
  have hS1 := hS.1
  refine W.newcK hexec hb hown (hts _ hcl) (hts _ hins) (hts _ hini) rfl hd1 (show k + 1 ≤ 600000 by omega) (show n + N ≤ 7302250 by omega) hKn.2.1 hz fun H1 kC hkC e1 z1 o1 => ?_
  have born : va_at (l_G X).1 vwCl (l_a X + L.length, .inr (c', f0)) H1 := ⟨_, hc, (u_born ty0 hts hin hKn hkC e1 hty).to hfs⟩
  have hSn : va_S (fun q => l_a X ≤ q) (l_S X).heap H1 locs := ⟨by rw [z1]; omega, fun q h1 h2 => (o1 q (by omega)).trans (hS.2.1 q h1 h2), hS.2.2⟩
  have hL1 := hpB_kept hL (H1 := H1) (fun q h1 h2 => o1 q (by omega))
  refine lv_dup hexec hb hd2 rfl ?_
  obtain ⟨y1, y2, y3, y4, y5⟩ := ym
  have fb : FrameBlind (va_Pc [.ref (l_a X + L.length)] (fun U => U.heap.size = l_a X + L.length + 1 ∧ va_at (l_G X).1 vwCl (l_a X + L.length, .inr (c', f0)) U.heap ∧ va_K (l_G X).1 vwCl (tyG (l_G X).2.1) U ∧ wY (l_G X).2.2 (fun q => l_a X + L.length ≤ q) U U.heap ∧ wV2 U)) := by
    intro a0 U g mk q
    obtain ⟨q0, q1, q2, q3, q4, q5⟩ := q
    exact ⟨q0, q1, q2, va_K.moved (u := U) (U := U.calling g mk a0) (Vm.Alike.refl U.vm) q3, q4.blind g mk a0, q5.blind g mk a0⟩
  have pre : ∀ U : State, U.heap = H1 → (l_S X).WarmedH U.vm → va_Pc [.ref (l_a X + L.length)] (fun U => U.heap.size = l_a X + L.length + 1 ∧ va_at (l_G X).1 vwCl (l_a X + L.length, .inr (c', f0)) U.heap ∧ va_K (l_G X).1 vwCl (tyG (l_G X).2.1) U ∧ wY (l_G X).2.2 (fun q => l_a X + L.length ≤ q) U U.heap ∧ wV2 U) (Value.ref (l_a X + L.length) :: []).toArray U := by
    intro U hU hW
    subst hU
    exact ⟨rfl, z1, born, hK.moved hW.alike, (hZ.warm hW hSn).narrow (fun q hq => by show l_a X ≤ q; omega), hV.warm hW⟩
  refine va_callv (va_runI (As := []) (rest := [.ref (l_a X + L.length)]) ⟨hexec, hb, hml, hown, hts⟩ (hCN (l_G X) (l_a X) L.length) ⟨callB_of 0 hts (wL_goodIn0 y1) rfl rfl rfl (hts _ y2) (hts _ hl) ⟨y4.1, y4.2, y5⟩ ⟨hfr, hlo⟩, hy, hts _ hyi⟩ ⟨fb, pre⟩ rfl rfl hls.1 rfl (lv_room (Nat.le_of_ble_eq_true rfl)) hd3 ⟨hcells, hslots⟩) hSn (fun q _ h => by show l_a X ≤ q; have h : l_a X + L.length ≤ q := h; omega) (fun q h => by show l_a X ≤ q; have h : l_a X + L.length ≤ q := h; omega) (fun u t H2 locs2 ht hvm hp hB hz2 hk2 hS2 => ?_)
  subst ht
  exact kk u hp t.heap locs2 ls (by rw [hB.1, List.length_append]; omega) (hpB_app (hpB_cg (hpB_kept hL1 (fun q h1 h2 => hk2 q (by omega) (show ¬ l_a X + L.length ≤ q by omega))) (fun q h1 h2 => mg_lo (by omega))) (by rw [Nat.zero_add]; exact hpB_cg hB.2 (fun q h1 h2 => mg_mid (by omega) (by omega)))) hS2 hls
end LROWS2
