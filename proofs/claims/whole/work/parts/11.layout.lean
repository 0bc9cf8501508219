/-! LAYOUTS: an object with all that it holds, in the order in which they are made -/
def fs2 (b : Nat) : List kF := [some (some (b + 1)), some (some (b + 2)), some (some (b + 3)), some (some (b + 4)), some (some (b + 5)), some (some (b + 6)), some (some (b + 7)), some (some (b + 8)), some (some (b + 9)), some (some (b + 10)), some (some (b + 11)), none, none]
def fs5 (b : Nat) : List kF := [some (some (b + 1)), some (some (b + 2)), none]
def fs3 (b : Nat) : List kF := [some (some (b + 1)), some (some (b + 2)), none, none, none, none, none]
def fs4 (b : Nat) : List kF := [some (some (b + 1)), some (some (b + 6)), some (some (b + 11))]
def fs1 (b : Nat) : List kF := [some (some (b + 1)), some (some (b + 2)), some (some (b + 11)), some (some (b + 20)), some (some (b + 21)), some (some (b + 22)), some (some (b + 23)), some (some (b + 32)), some (some (b + 41)), some (some (b + 50)), some (some (b + 51)), some none, some none, some none, none, none, none]
def fs0 (b : Nat) : List kF := [some (some (b + 1)), some (some (b + 4)), some (some (b + 7)), some (some (b + 10))]
def fs6 (b : Nat) : List kF := [some (some (b + 1)), some (some (b + 13)), some (some (b + 25)), some (some (b + 50)), some (some (b + 51)), some (some (b + 54)), some (some (b + 70)), some (some (b + 122)), some (some (b + 135)), some (some (b + 138)), some (some (b + 141)), some (some (b + 144))]
def fs7 (b : Nat) : List kF := [some (some (b + 1)), some (some (b + 2)), some (some (b + 3)), some (some (b + 4)), some (some (b + 5)), none, some (some (b + 6)), some (some (b + 7)), some (some (b + 8)), none, none, none, none, none, some (some (b + 9)), some (some (b + 10)), none, some (some (b + 11)), some (some (b + 12)), some (some (b + 13)), some (some (b + 14))]
def ly2 (b : Nat) : List kK := [kO 2 (fs2 b), kI 0 4, kI 0 4, kI 0 4, kI 0 4, kI 0 7, kI 0 21, kI 0 20, kI 0 20, kI 0 20, kI 0 20, kI 0 48]
def ly5 (b : Nat) : List kK := [kO 5 (fs5 b), kI 0 16, kI 0 16]
def ly3 (b : Nat) : List kK := [kO 3 (fs3 b), kI 2 300, kI 0 4]
def ly4 (b : Nat) : List kK := [kO 4 (fs4 b), kR 5 4 (fun j => b + 2 + j), kI 0 21, kI 0 21, kI 0 21, kI 0 21, kR 5 4 (fun j => b + 7 + j), kI 0 21, kI 0 21, kI 0 21, kI 0 21, kR 5 4 (fun j => b + 12 + j), kI 0 21, kI 0 21, kI 0 21, kI 0 21]
def ly1 (b : Nat) : List kK := [kO 1 (fs1 b), kI 0 21, kR 5 8 (fun j => b + 3 + j), kI 0 21, kI 0 21, kI 0 21, kI 0 21, kI 0 21, kI 0 21, kI 0 21, kI 0 21, kR 5 8 (fun j => b + 12 + j), kI 0 21, kI 0 21, kI 0 21, kI 0 21, kI 0 21, kI 0 21, kI 0 21, kI 0 21, kI 0 20, kI 0 20, kI 0 8, kR 6 8 (fun j => b + 24 + j), kL 1 21, kL 1 21, kL 1 21, kL 1 21, kL 1 21, kL 1 21, kL 1 21, kL 1 21, kR 6 8 (fun j => b + 33 + j), kL 1 21, kL 1 21, kL 1 21, kL 1 21, kL 1 21, kL 1 21, kL 1 21, kL 1 21, kR 6 8 (fun j => b + 42 + j), kL 1 21, kL 1 21, kL 1 21, kL 1 21, kL 1 21, kL 1 21, kL 1 21, kL 1 21, kL 1 21, kL 1 4]
def ly0 (b : Nat) : List kK := [kO 0 (fs0 b)] ++ ly5 (b + 1) ++ ly5 (b + 4) ++ ly5 (b + 7) ++ ly5 (b + 10)
def ly6 (b : Nat) : List kK := [kO 6 (fs6 b)] ++ ly2 (b + 1) ++ ly2 (b + 13) ++ [kR 4 2 (fun j => b + 26 + 12 * j)] ++ ly2 (b + 26) ++ ly2 (b + 38) ++ [kI 3 2] ++ ly3 (b + 51) ++ ly4 (b + 54) ++ ly1 (b + 70) ++ ly0 (b + 122) ++ ly5 (b + 135) ++ ly5 (b + 138) ++ ly5 (b + 141) ++ [kI 0 3]
def ly7 (b : Nat) : List kK := [kO 7 (fs7 b), kI 0 210, kI 0 420, kI 3 2, kI 0 210, kI 0 3, kI 0 14400, kI 0 360, kI 0 300, kI 0 300, kI 0 1200, kI 0 168, kI 0 168, kI 0 8, kI 3 168]
def lyC (c b : Nat) : List kK := match c with | 0 => ly0 b | 1 => ly1 b | 2 => ly2 b | 3 => ly3 b | 4 => ly4 b | 5 => ly5 b | 6 => ly6 b | _ => ly7 b
def isC (w : wU) (c b : Nat) : Prop := ∀ (o : Nat) (z : kK), (lyC c b)[o]? = some z → AK w (b + o) z
theorem ofC {w : wU} {k ci j : Nat} {x : kF} {fs : List kF} (o : AK w k (kO ci fs)) (h : fs[j]? = some x) : OF w k ci j x := ⟨o.1, fs, o.2, h⟩
theorem isC_part {w : wU} {c b c' : Nat} (h : isC w c b) (n : Nat) (hs : ∀ (o : Nat) (z : kK), (lyC c' (b + n))[o]? = some z → (lyC c b)[n + o]? = some z) : isC w c' (b + n) := fun o z hz => by
  have h1 := h (n + o) z (hs o z hz)
  rw [← Nat.add_assoc] at h1
  exact h1
theorem gl_app {α : Type} (A B T : List α) {n o : Nat} {z : α} (hn : A.length = n) (h : B[o]? = some z) : (A ++ (B ++ T))[n + o]? = some z := by
  subst hn
  rw [List.getElem?_append_right (by omega), Nat.add_sub_cancel_left, List.getElem?_append_left (List.getElem?_eq_some_iff.mp h).1]
  exact h
theorem o0 {w : wU} {b : Nat} (h : isC w 0 b) : AK w b (kO 0 (fs0 b)) := h 0 _ rfl
theorem f0_0 {w : wU} {b : Nat} (h : isC w 0 b) : OF w b 0 0 (some (some (b + 1))) := ofC (o0 h) rfl
theorem f0_1 {w : wU} {b : Nat} (h : isC w 0 b) : OF w b 0 1 (some (some (b + 4))) := ofC (o0 h) rfl
theorem f0_2 {w : wU} {b : Nat} (h : isC w 0 b) : OF w b 0 2 (some (some (b + 7))) := ofC (o0 h) rfl
theorem f0_3 {w : wU} {b : Nat} (h : isC w 0 b) : OF w b 0 3 (some (some (b + 10))) := ofC (o0 h) rfl
theorem a0_1 {b : Nat} {o : Nat} {z : kK} (hz : (ly5 (b + 1))[o]? = some z) : (lyC 0 b)[1 + o]? = some z := by
  have e : lyC 0 b = ([kO 0 (fs0 b)]) ++ ((ly5 (b + 1)) ++ (ly5 (b + 4) ++ (ly5 (b + 7) ++ (ly5 (b + 10))))) := by
    simp only [lyC, ly0, List.append_assoc, List.append_nil]
  rw [e]
  exact gl_app _ _ _ rfl hz
theorem a0_4 {b : Nat} {o : Nat} {z : kK} (hz : (ly5 (b + 4))[o]? = some z) : (lyC 0 b)[4 + o]? = some z := by
  have e : lyC 0 b = ([kO 0 (fs0 b)] ++ (ly5 (b + 1))) ++ ((ly5 (b + 4)) ++ (ly5 (b + 7) ++ (ly5 (b + 10)))) := by
    simp only [lyC, ly0, List.append_assoc, List.append_nil]
  rw [e]
  exact gl_app _ _ _ rfl hz
theorem a0_7 {b : Nat} {o : Nat} {z : kK} (hz : (ly5 (b + 7))[o]? = some z) : (lyC 0 b)[7 + o]? = some z := by
  have e : lyC 0 b = ([kO 0 (fs0 b)] ++ (ly5 (b + 1) ++ (ly5 (b + 4)))) ++ ((ly5 (b + 7)) ++ (ly5 (b + 10))) := by
    simp only [lyC, ly0, List.append_assoc, List.append_nil]
  rw [e]
  exact gl_app _ _ _ rfl hz
theorem a0_10 {b : Nat} {o : Nat} {z : kK} (hz : (ly5 (b + 10))[o]? = some z) : (lyC 0 b)[10 + o]? = some z := by
  have e : lyC 0 b = ([kO 0 (fs0 b)] ++ (ly5 (b + 1) ++ (ly5 (b + 4) ++ (ly5 (b + 7))))) ++ ((ly5 (b + 10)) ++ (([] : List kK))) := by
    simp only [lyC, ly0, List.append_assoc, List.append_nil]
  rw [e]
  exact gl_app _ _ _ rfl hz
theorem j0_1 {w : wU} {b : Nat} (h : isC w 0 b) : isC w 5 (b + 1) := isC_part h 1 (fun o z hz => a0_1 hz)
theorem j0_4 {w : wU} {b : Nat} (h : isC w 0 b) : isC w 5 (b + 4) := isC_part h 4 (fun o z hz => a0_4 hz)
theorem j0_7 {w : wU} {b : Nat} (h : isC w 0 b) : isC w 5 (b + 7) := isC_part h 7 (fun o z hz => a0_7 hz)
theorem j0_10 {w : wU} {b : Nat} (h : isC w 0 b) : isC w 5 (b + 10) := isC_part h 10 (fun o z hz => a0_10 hz)
theorem o1 {w : wU} {b : Nat} (h : isC w 1 b) : AK w b (kO 1 (fs1 b)) := h 0 _ rfl
theorem f1_0 {w : wU} {b : Nat} (h : isC w 1 b) : OF w b 1 0 (some (some (b + 1))) := ofC (o1 h) rfl
theorem f1_1 {w : wU} {b : Nat} (h : isC w 1 b) : OF w b 1 1 (some (some (b + 2))) := ofC (o1 h) rfl
theorem f1_2 {w : wU} {b : Nat} (h : isC w 1 b) : OF w b 1 2 (some (some (b + 11))) := ofC (o1 h) rfl
theorem f1_3 {w : wU} {b : Nat} (h : isC w 1 b) : OF w b 1 3 (some (some (b + 20))) := ofC (o1 h) rfl
theorem f1_4 {w : wU} {b : Nat} (h : isC w 1 b) : OF w b 1 4 (some (some (b + 21))) := ofC (o1 h) rfl
theorem f1_5 {w : wU} {b : Nat} (h : isC w 1 b) : OF w b 1 5 (some (some (b + 22))) := ofC (o1 h) rfl
theorem f1_6 {w : wU} {b : Nat} (h : isC w 1 b) : OF w b 1 6 (some (some (b + 23))) := ofC (o1 h) rfl
theorem f1_7 {w : wU} {b : Nat} (h : isC w 1 b) : OF w b 1 7 (some (some (b + 32))) := ofC (o1 h) rfl
theorem f1_8 {w : wU} {b : Nat} (h : isC w 1 b) : OF w b 1 8 (some (some (b + 41))) := ofC (o1 h) rfl
theorem f1_9 {w : wU} {b : Nat} (h : isC w 1 b) : OF w b 1 9 (some (some (b + 50))) := ofC (o1 h) rfl
theorem f1_10 {w : wU} {b : Nat} (h : isC w 1 b) : OF w b 1 10 (some (some (b + 51))) := ofC (o1 h) rfl
theorem f1_11 {w : wU} {b : Nat} (h : isC w 1 b) : OF w b 1 11 (some none) := ofC (o1 h) rfl
theorem f1_12 {w : wU} {b : Nat} (h : isC w 1 b) : OF w b 1 12 (some none) := ofC (o1 h) rfl
theorem f1_13 {w : wU} {b : Nat} (h : isC w 1 b) : OF w b 1 13 (some none) := ofC (o1 h) rfl
theorem f1_14 {w : wU} {b : Nat} (h : isC w 1 b) : OF w b 1 14 (none) := ofC (o1 h) rfl
theorem f1_15 {w : wU} {b : Nat} (h : isC w 1 b) : OF w b 1 15 (none) := ofC (o1 h) rfl
theorem f1_16 {w : wU} {b : Nat} (h : isC w 1 b) : OF w b 1 16 (none) := ofC (o1 h) rfl
theorem k1_1 {w : wU} {b : Nat} (h : isC w 1 b) : AK w (b + 1) (kI 0 21) := h 1 _ rfl
theorem k1_2 {w : wU} {b : Nat} (h : isC w 1 b) : AK w (b + 2) (kR 5 8 (fun j => b + 3 + j)) := h 2 _ rfl
theorem r1_2 {w : wU} {b : Nat} (h : isC w 1 b) {i : Int32} (hi : vp_in i 8) : AK w (b + 3 + i.toNatClampNeg) (kI 0 21) := by
  have hlt : i.toNatClampNeg < 8 := Nat.not_le.mp fun q => hi (Or.inr q)
  generalize i.toNatClampNeg = n at hlt ⊢
  match n, hlt with
  | 0, _ => exact h 3 _ rfl
  | 1, _ => exact h 4 _ rfl
  | 2, _ => exact h 5 _ rfl
  | 3, _ => exact h 6 _ rfl
  | 4, _ => exact h 7 _ rfl
  | 5, _ => exact h 8 _ rfl
  | 6, _ => exact h 9 _ rfl
  | 7, _ => exact h 10 _ rfl
theorem k1_11 {w : wU} {b : Nat} (h : isC w 1 b) : AK w (b + 11) (kR 5 8 (fun j => b + 12 + j)) := h 11 _ rfl
theorem r1_11 {w : wU} {b : Nat} (h : isC w 1 b) {i : Int32} (hi : vp_in i 8) : AK w (b + 12 + i.toNatClampNeg) (kI 0 21) := by
  have hlt : i.toNatClampNeg < 8 := Nat.not_le.mp fun q => hi (Or.inr q)
  generalize i.toNatClampNeg = n at hlt ⊢
  match n, hlt with
  | 0, _ => exact h 12 _ rfl
  | 1, _ => exact h 13 _ rfl
  | 2, _ => exact h 14 _ rfl
  | 3, _ => exact h 15 _ rfl
  | 4, _ => exact h 16 _ rfl
  | 5, _ => exact h 17 _ rfl
  | 6, _ => exact h 18 _ rfl
  | 7, _ => exact h 19 _ rfl
theorem k1_20 {w : wU} {b : Nat} (h : isC w 1 b) : AK w (b + 20) (kI 0 20) := h 20 _ rfl
theorem k1_21 {w : wU} {b : Nat} (h : isC w 1 b) : AK w (b + 21) (kI 0 20) := h 21 _ rfl
theorem k1_22 {w : wU} {b : Nat} (h : isC w 1 b) : AK w (b + 22) (kI 0 8) := h 22 _ rfl
theorem k1_23 {w : wU} {b : Nat} (h : isC w 1 b) : AK w (b + 23) (kR 6 8 (fun j => b + 24 + j)) := h 23 _ rfl
theorem r1_23 {w : wU} {b : Nat} (h : isC w 1 b) {i : Int32} (hi : vp_in i 8) : AK w (b + 24 + i.toNatClampNeg) (kL 1 21) := by
  have hlt : i.toNatClampNeg < 8 := Nat.not_le.mp fun q => hi (Or.inr q)
  generalize i.toNatClampNeg = n at hlt ⊢
  match n, hlt with
  | 0, _ => exact h 24 _ rfl
  | 1, _ => exact h 25 _ rfl
  | 2, _ => exact h 26 _ rfl
  | 3, _ => exact h 27 _ rfl
  | 4, _ => exact h 28 _ rfl
  | 5, _ => exact h 29 _ rfl
  | 6, _ => exact h 30 _ rfl
  | 7, _ => exact h 31 _ rfl
theorem k1_32 {w : wU} {b : Nat} (h : isC w 1 b) : AK w (b + 32) (kR 6 8 (fun j => b + 33 + j)) := h 32 _ rfl
theorem r1_32 {w : wU} {b : Nat} (h : isC w 1 b) {i : Int32} (hi : vp_in i 8) : AK w (b + 33 + i.toNatClampNeg) (kL 1 21) := by
  have hlt : i.toNatClampNeg < 8 := Nat.not_le.mp fun q => hi (Or.inr q)
  generalize i.toNatClampNeg = n at hlt ⊢
  match n, hlt with
  | 0, _ => exact h 33 _ rfl
  | 1, _ => exact h 34 _ rfl
  | 2, _ => exact h 35 _ rfl
  | 3, _ => exact h 36 _ rfl
  | 4, _ => exact h 37 _ rfl
  | 5, _ => exact h 38 _ rfl
  | 6, _ => exact h 39 _ rfl
  | 7, _ => exact h 40 _ rfl
theorem k1_41 {w : wU} {b : Nat} (h : isC w 1 b) : AK w (b + 41) (kR 6 8 (fun j => b + 42 + j)) := h 41 _ rfl
theorem r1_41 {w : wU} {b : Nat} (h : isC w 1 b) {i : Int32} (hi : vp_in i 8) : AK w (b + 42 + i.toNatClampNeg) (kL 1 21) := by
  have hlt : i.toNatClampNeg < 8 := Nat.not_le.mp fun q => hi (Or.inr q)
  generalize i.toNatClampNeg = n at hlt ⊢
  match n, hlt with
  | 0, _ => exact h 42 _ rfl
  | 1, _ => exact h 43 _ rfl
  | 2, _ => exact h 44 _ rfl
  | 3, _ => exact h 45 _ rfl
  | 4, _ => exact h 46 _ rfl
  | 5, _ => exact h 47 _ rfl
  | 6, _ => exact h 48 _ rfl
  | 7, _ => exact h 49 _ rfl
theorem k1_50 {w : wU} {b : Nat} (h : isC w 1 b) : AK w (b + 50) (kL 1 21) := h 50 _ rfl
theorem k1_51 {w : wU} {b : Nat} (h : isC w 1 b) : AK w (b + 51) (kL 1 4) := h 51 _ rfl
theorem o2 {w : wU} {b : Nat} (h : isC w 2 b) : AK w b (kO 2 (fs2 b)) := h 0 _ rfl
theorem f2_0 {w : wU} {b : Nat} (h : isC w 2 b) : OF w b 2 0 (some (some (b + 1))) := ofC (o2 h) rfl
theorem f2_1 {w : wU} {b : Nat} (h : isC w 2 b) : OF w b 2 1 (some (some (b + 2))) := ofC (o2 h) rfl
theorem f2_2 {w : wU} {b : Nat} (h : isC w 2 b) : OF w b 2 2 (some (some (b + 3))) := ofC (o2 h) rfl
theorem f2_3 {w : wU} {b : Nat} (h : isC w 2 b) : OF w b 2 3 (some (some (b + 4))) := ofC (o2 h) rfl
theorem f2_4 {w : wU} {b : Nat} (h : isC w 2 b) : OF w b 2 4 (some (some (b + 5))) := ofC (o2 h) rfl
theorem f2_5 {w : wU} {b : Nat} (h : isC w 2 b) : OF w b 2 5 (some (some (b + 6))) := ofC (o2 h) rfl
theorem f2_6 {w : wU} {b : Nat} (h : isC w 2 b) : OF w b 2 6 (some (some (b + 7))) := ofC (o2 h) rfl
theorem f2_7 {w : wU} {b : Nat} (h : isC w 2 b) : OF w b 2 7 (some (some (b + 8))) := ofC (o2 h) rfl
theorem f2_8 {w : wU} {b : Nat} (h : isC w 2 b) : OF w b 2 8 (some (some (b + 9))) := ofC (o2 h) rfl
theorem f2_9 {w : wU} {b : Nat} (h : isC w 2 b) : OF w b 2 9 (some (some (b + 10))) := ofC (o2 h) rfl
theorem f2_10 {w : wU} {b : Nat} (h : isC w 2 b) : OF w b 2 10 (some (some (b + 11))) := ofC (o2 h) rfl
theorem f2_11 {w : wU} {b : Nat} (h : isC w 2 b) : OF w b 2 11 (none) := ofC (o2 h) rfl
theorem f2_12 {w : wU} {b : Nat} (h : isC w 2 b) : OF w b 2 12 (none) := ofC (o2 h) rfl
theorem k2_1 {w : wU} {b : Nat} (h : isC w 2 b) : AK w (b + 1) (kI 0 4) := h 1 _ rfl
theorem k2_2 {w : wU} {b : Nat} (h : isC w 2 b) : AK w (b + 2) (kI 0 4) := h 2 _ rfl
theorem k2_3 {w : wU} {b : Nat} (h : isC w 2 b) : AK w (b + 3) (kI 0 4) := h 3 _ rfl
theorem k2_4 {w : wU} {b : Nat} (h : isC w 2 b) : AK w (b + 4) (kI 0 4) := h 4 _ rfl
theorem k2_5 {w : wU} {b : Nat} (h : isC w 2 b) : AK w (b + 5) (kI 0 7) := h 5 _ rfl
theorem k2_6 {w : wU} {b : Nat} (h : isC w 2 b) : AK w (b + 6) (kI 0 21) := h 6 _ rfl
theorem k2_7 {w : wU} {b : Nat} (h : isC w 2 b) : AK w (b + 7) (kI 0 20) := h 7 _ rfl
theorem k2_8 {w : wU} {b : Nat} (h : isC w 2 b) : AK w (b + 8) (kI 0 20) := h 8 _ rfl
theorem k2_9 {w : wU} {b : Nat} (h : isC w 2 b) : AK w (b + 9) (kI 0 20) := h 9 _ rfl
theorem k2_10 {w : wU} {b : Nat} (h : isC w 2 b) : AK w (b + 10) (kI 0 20) := h 10 _ rfl
theorem k2_11 {w : wU} {b : Nat} (h : isC w 2 b) : AK w (b + 11) (kI 0 48) := h 11 _ rfl
theorem o3 {w : wU} {b : Nat} (h : isC w 3 b) : AK w b (kO 3 (fs3 b)) := h 0 _ rfl
theorem f3_0 {w : wU} {b : Nat} (h : isC w 3 b) : OF w b 3 0 (some (some (b + 1))) := ofC (o3 h) rfl
theorem f3_1 {w : wU} {b : Nat} (h : isC w 3 b) : OF w b 3 1 (some (some (b + 2))) := ofC (o3 h) rfl
theorem f3_2 {w : wU} {b : Nat} (h : isC w 3 b) : OF w b 3 2 (none) := ofC (o3 h) rfl
theorem f3_3 {w : wU} {b : Nat} (h : isC w 3 b) : OF w b 3 3 (none) := ofC (o3 h) rfl
theorem f3_4 {w : wU} {b : Nat} (h : isC w 3 b) : OF w b 3 4 (none) := ofC (o3 h) rfl
theorem f3_5 {w : wU} {b : Nat} (h : isC w 3 b) : OF w b 3 5 (none) := ofC (o3 h) rfl
theorem f3_6 {w : wU} {b : Nat} (h : isC w 3 b) : OF w b 3 6 (none) := ofC (o3 h) rfl
theorem k3_1 {w : wU} {b : Nat} (h : isC w 3 b) : AK w (b + 1) (kI 2 300) := h 1 _ rfl
theorem k3_2 {w : wU} {b : Nat} (h : isC w 3 b) : AK w (b + 2) (kI 0 4) := h 2 _ rfl
theorem o4 {w : wU} {b : Nat} (h : isC w 4 b) : AK w b (kO 4 (fs4 b)) := h 0 _ rfl
theorem f4_0 {w : wU} {b : Nat} (h : isC w 4 b) : OF w b 4 0 (some (some (b + 1))) := ofC (o4 h) rfl
theorem f4_1 {w : wU} {b : Nat} (h : isC w 4 b) : OF w b 4 1 (some (some (b + 6))) := ofC (o4 h) rfl
theorem f4_2 {w : wU} {b : Nat} (h : isC w 4 b) : OF w b 4 2 (some (some (b + 11))) := ofC (o4 h) rfl
theorem k4_1 {w : wU} {b : Nat} (h : isC w 4 b) : AK w (b + 1) (kR 5 4 (fun j => b + 2 + j)) := h 1 _ rfl
theorem r4_1 {w : wU} {b : Nat} (h : isC w 4 b) {i : Int32} (hi : vp_in i 4) : AK w (b + 2 + i.toNatClampNeg) (kI 0 21) := by
  have hlt : i.toNatClampNeg < 4 := Nat.not_le.mp fun q => hi (Or.inr q)
  generalize i.toNatClampNeg = n at hlt ⊢
  match n, hlt with
  | 0, _ => exact h 2 _ rfl
  | 1, _ => exact h 3 _ rfl
  | 2, _ => exact h 4 _ rfl
  | 3, _ => exact h 5 _ rfl
theorem k4_6 {w : wU} {b : Nat} (h : isC w 4 b) : AK w (b + 6) (kR 5 4 (fun j => b + 7 + j)) := h 6 _ rfl
theorem r4_6 {w : wU} {b : Nat} (h : isC w 4 b) {i : Int32} (hi : vp_in i 4) : AK w (b + 7 + i.toNatClampNeg) (kI 0 21) := by
  have hlt : i.toNatClampNeg < 4 := Nat.not_le.mp fun q => hi (Or.inr q)
  generalize i.toNatClampNeg = n at hlt ⊢
  match n, hlt with
  | 0, _ => exact h 7 _ rfl
  | 1, _ => exact h 8 _ rfl
  | 2, _ => exact h 9 _ rfl
  | 3, _ => exact h 10 _ rfl
theorem k4_11 {w : wU} {b : Nat} (h : isC w 4 b) : AK w (b + 11) (kR 5 4 (fun j => b + 12 + j)) := h 11 _ rfl
theorem r4_11 {w : wU} {b : Nat} (h : isC w 4 b) {i : Int32} (hi : vp_in i 4) : AK w (b + 12 + i.toNatClampNeg) (kI 0 21) := by
  have hlt : i.toNatClampNeg < 4 := Nat.not_le.mp fun q => hi (Or.inr q)
  generalize i.toNatClampNeg = n at hlt ⊢
  match n, hlt with
  | 0, _ => exact h 12 _ rfl
  | 1, _ => exact h 13 _ rfl
  | 2, _ => exact h 14 _ rfl
  | 3, _ => exact h 15 _ rfl
theorem o5 {w : wU} {b : Nat} (h : isC w 5 b) : AK w b (kO 5 (fs5 b)) := h 0 _ rfl
theorem f5_0 {w : wU} {b : Nat} (h : isC w 5 b) : OF w b 5 0 (some (some (b + 1))) := ofC (o5 h) rfl
theorem f5_1 {w : wU} {b : Nat} (h : isC w 5 b) : OF w b 5 1 (some (some (b + 2))) := ofC (o5 h) rfl
theorem f5_2 {w : wU} {b : Nat} (h : isC w 5 b) : OF w b 5 2 (none) := ofC (o5 h) rfl
theorem k5_1 {w : wU} {b : Nat} (h : isC w 5 b) : AK w (b + 1) (kI 0 16) := h 1 _ rfl
theorem k5_2 {w : wU} {b : Nat} (h : isC w 5 b) : AK w (b + 2) (kI 0 16) := h 2 _ rfl
theorem o6 {w : wU} {b : Nat} (h : isC w 6 b) : AK w b (kO 6 (fs6 b)) := h 0 _ rfl
theorem f6_0 {w : wU} {b : Nat} (h : isC w 6 b) : OF w b 6 0 (some (some (b + 1))) := ofC (o6 h) rfl
theorem f6_1 {w : wU} {b : Nat} (h : isC w 6 b) : OF w b 6 1 (some (some (b + 13))) := ofC (o6 h) rfl
theorem f6_2 {w : wU} {b : Nat} (h : isC w 6 b) : OF w b 6 2 (some (some (b + 25))) := ofC (o6 h) rfl
theorem f6_3 {w : wU} {b : Nat} (h : isC w 6 b) : OF w b 6 3 (some (some (b + 50))) := ofC (o6 h) rfl
theorem f6_4 {w : wU} {b : Nat} (h : isC w 6 b) : OF w b 6 4 (some (some (b + 51))) := ofC (o6 h) rfl
theorem f6_5 {w : wU} {b : Nat} (h : isC w 6 b) : OF w b 6 5 (some (some (b + 54))) := ofC (o6 h) rfl
theorem f6_6 {w : wU} {b : Nat} (h : isC w 6 b) : OF w b 6 6 (some (some (b + 70))) := ofC (o6 h) rfl
theorem f6_7 {w : wU} {b : Nat} (h : isC w 6 b) : OF w b 6 7 (some (some (b + 122))) := ofC (o6 h) rfl
theorem f6_8 {w : wU} {b : Nat} (h : isC w 6 b) : OF w b 6 8 (some (some (b + 135))) := ofC (o6 h) rfl
theorem f6_9 {w : wU} {b : Nat} (h : isC w 6 b) : OF w b 6 9 (some (some (b + 138))) := ofC (o6 h) rfl
theorem f6_10 {w : wU} {b : Nat} (h : isC w 6 b) : OF w b 6 10 (some (some (b + 141))) := ofC (o6 h) rfl
theorem f6_11 {w : wU} {b : Nat} (h : isC w 6 b) : OF w b 6 11 (some (some (b + 144))) := ofC (o6 h) rfl
theorem a6_1 {b : Nat} {o : Nat} {z : kK} (hz : (ly2 (b + 1))[o]? = some z) : (lyC 6 b)[1 + o]? = some z := by
  have e : lyC 6 b = ([kO 6 (fs6 b)]) ++ ((ly2 (b + 1)) ++ (ly2 (b + 13) ++ ([kR 4 2 (fun j => b + 26 + 12 * j)] ++ (ly2 (b + 26) ++ (ly2 (b + 38) ++ ([kI 3 2] ++ (ly3 (b + 51) ++ (ly4 (b + 54) ++ (ly1 (b + 70) ++ (ly0 (b + 122) ++ (ly5 (b + 135) ++ (ly5 (b + 138) ++ (ly5 (b + 141) ++ ([kI 0 3])))))))))))))) := by
    simp only [lyC, ly6, List.append_assoc, List.append_nil]
  rw [e]
  exact gl_app _ _ _ rfl hz
theorem a6_13 {b : Nat} {o : Nat} {z : kK} (hz : (ly2 (b + 13))[o]? = some z) : (lyC 6 b)[13 + o]? = some z := by
  have e : lyC 6 b = ([kO 6 (fs6 b)] ++ (ly2 (b + 1))) ++ ((ly2 (b + 13)) ++ ([kR 4 2 (fun j => b + 26 + 12 * j)] ++ (ly2 (b + 26) ++ (ly2 (b + 38) ++ ([kI 3 2] ++ (ly3 (b + 51) ++ (ly4 (b + 54) ++ (ly1 (b + 70) ++ (ly0 (b + 122) ++ (ly5 (b + 135) ++ (ly5 (b + 138) ++ (ly5 (b + 141) ++ ([kI 0 3]))))))))))))) := by
    simp only [lyC, ly6, List.append_assoc, List.append_nil]
  rw [e]
  exact gl_app _ _ _ rfl hz
theorem a6_25 {b : Nat} {o : Nat} {z : kK} (hz : ([kR 4 2 (fun j => b + 26 + 12 * j)])[o]? = some z) : (lyC 6 b)[25 + o]? = some z := by
  have e : lyC 6 b = ([kO 6 (fs6 b)] ++ (ly2 (b + 1) ++ (ly2 (b + 13)))) ++ (([kR 4 2 (fun j => b + 26 + 12 * j)]) ++ (ly2 (b + 26) ++ (ly2 (b + 38) ++ ([kI 3 2] ++ (ly3 (b + 51) ++ (ly4 (b + 54) ++ (ly1 (b + 70) ++ (ly0 (b + 122) ++ (ly5 (b + 135) ++ (ly5 (b + 138) ++ (ly5 (b + 141) ++ ([kI 0 3])))))))))))) := by
    simp only [lyC, ly6, List.append_assoc, List.append_nil]
  rw [e]
  exact gl_app _ _ _ rfl hz
theorem a6_26 {b : Nat} {o : Nat} {z : kK} (hz : (ly2 (b + 26))[o]? = some z) : (lyC 6 b)[26 + o]? = some z := by
  have e : lyC 6 b = ([kO 6 (fs6 b)] ++ (ly2 (b + 1) ++ (ly2 (b + 13) ++ ([kR 4 2 (fun j => b + 26 + 12 * j)])))) ++ ((ly2 (b + 26)) ++ (ly2 (b + 38) ++ ([kI 3 2] ++ (ly3 (b + 51) ++ (ly4 (b + 54) ++ (ly1 (b + 70) ++ (ly0 (b + 122) ++ (ly5 (b + 135) ++ (ly5 (b + 138) ++ (ly5 (b + 141) ++ ([kI 0 3]))))))))))) := by
    simp only [lyC, ly6, List.append_assoc, List.append_nil]
  rw [e]
  exact gl_app _ _ _ rfl hz
theorem a6_38 {b : Nat} {o : Nat} {z : kK} (hz : (ly2 (b + 38))[o]? = some z) : (lyC 6 b)[38 + o]? = some z := by
  have e : lyC 6 b = ([kO 6 (fs6 b)] ++ (ly2 (b + 1) ++ (ly2 (b + 13) ++ ([kR 4 2 (fun j => b + 26 + 12 * j)] ++ (ly2 (b + 26)))))) ++ ((ly2 (b + 38)) ++ ([kI 3 2] ++ (ly3 (b + 51) ++ (ly4 (b + 54) ++ (ly1 (b + 70) ++ (ly0 (b + 122) ++ (ly5 (b + 135) ++ (ly5 (b + 138) ++ (ly5 (b + 141) ++ ([kI 0 3])))))))))) := by
    simp only [lyC, ly6, List.append_assoc, List.append_nil]
  rw [e]
  exact gl_app _ _ _ rfl hz
theorem a6_50 {b : Nat} {o : Nat} {z : kK} (hz : ([kI 3 2])[o]? = some z) : (lyC 6 b)[50 + o]? = some z := by
  have e : lyC 6 b = ([kO 6 (fs6 b)] ++ (ly2 (b + 1) ++ (ly2 (b + 13) ++ ([kR 4 2 (fun j => b + 26 + 12 * j)] ++ (ly2 (b + 26) ++ (ly2 (b + 38))))))) ++ (([kI 3 2]) ++ (ly3 (b + 51) ++ (ly4 (b + 54) ++ (ly1 (b + 70) ++ (ly0 (b + 122) ++ (ly5 (b + 135) ++ (ly5 (b + 138) ++ (ly5 (b + 141) ++ ([kI 0 3]))))))))) := by
    simp only [lyC, ly6, List.append_assoc, List.append_nil]
  rw [e]
  exact gl_app _ _ _ rfl hz
theorem a6_51 {b : Nat} {o : Nat} {z : kK} (hz : (ly3 (b + 51))[o]? = some z) : (lyC 6 b)[51 + o]? = some z := by
  have e : lyC 6 b = ([kO 6 (fs6 b)] ++ (ly2 (b + 1) ++ (ly2 (b + 13) ++ ([kR 4 2 (fun j => b + 26 + 12 * j)] ++ (ly2 (b + 26) ++ (ly2 (b + 38) ++ ([kI 3 2]))))))) ++ ((ly3 (b + 51)) ++ (ly4 (b + 54) ++ (ly1 (b + 70) ++ (ly0 (b + 122) ++ (ly5 (b + 135) ++ (ly5 (b + 138) ++ (ly5 (b + 141) ++ ([kI 0 3])))))))) := by
    simp only [lyC, ly6, List.append_assoc, List.append_nil]
  rw [e]
  exact gl_app _ _ _ rfl hz
theorem a6_54 {b : Nat} {o : Nat} {z : kK} (hz : (ly4 (b + 54))[o]? = some z) : (lyC 6 b)[54 + o]? = some z := by
  have e : lyC 6 b = ([kO 6 (fs6 b)] ++ (ly2 (b + 1) ++ (ly2 (b + 13) ++ ([kR 4 2 (fun j => b + 26 + 12 * j)] ++ (ly2 (b + 26) ++ (ly2 (b + 38) ++ ([kI 3 2] ++ (ly3 (b + 51))))))))) ++ ((ly4 (b + 54)) ++ (ly1 (b + 70) ++ (ly0 (b + 122) ++ (ly5 (b + 135) ++ (ly5 (b + 138) ++ (ly5 (b + 141) ++ ([kI 0 3]))))))) := by
    simp only [lyC, ly6, List.append_assoc, List.append_nil]
  rw [e]
  exact gl_app _ _ _ rfl hz
theorem a6_70 {b : Nat} {o : Nat} {z : kK} (hz : (ly1 (b + 70))[o]? = some z) : (lyC 6 b)[70 + o]? = some z := by
  have e : lyC 6 b = ([kO 6 (fs6 b)] ++ (ly2 (b + 1) ++ (ly2 (b + 13) ++ ([kR 4 2 (fun j => b + 26 + 12 * j)] ++ (ly2 (b + 26) ++ (ly2 (b + 38) ++ ([kI 3 2] ++ (ly3 (b + 51) ++ (ly4 (b + 54)))))))))) ++ ((ly1 (b + 70)) ++ (ly0 (b + 122) ++ (ly5 (b + 135) ++ (ly5 (b + 138) ++ (ly5 (b + 141) ++ ([kI 0 3])))))) := by
    simp only [lyC, ly6, List.append_assoc, List.append_nil]
  rw [e]
  exact gl_app _ _ _ rfl hz
theorem a6_122 {b : Nat} {o : Nat} {z : kK} (hz : (ly0 (b + 122))[o]? = some z) : (lyC 6 b)[122 + o]? = some z := by
  have e : lyC 6 b = ([kO 6 (fs6 b)] ++ (ly2 (b + 1) ++ (ly2 (b + 13) ++ ([kR 4 2 (fun j => b + 26 + 12 * j)] ++ (ly2 (b + 26) ++ (ly2 (b + 38) ++ ([kI 3 2] ++ (ly3 (b + 51) ++ (ly4 (b + 54) ++ (ly1 (b + 70))))))))))) ++ ((ly0 (b + 122)) ++ (ly5 (b + 135) ++ (ly5 (b + 138) ++ (ly5 (b + 141) ++ ([kI 0 3]))))) := by
    simp only [lyC, ly6, List.append_assoc, List.append_nil]
  rw [e]
  exact gl_app _ _ _ rfl hz
theorem a6_135 {b : Nat} {o : Nat} {z : kK} (hz : (ly5 (b + 135))[o]? = some z) : (lyC 6 b)[135 + o]? = some z := by
  have e : lyC 6 b = ([kO 6 (fs6 b)] ++ (ly2 (b + 1) ++ (ly2 (b + 13) ++ ([kR 4 2 (fun j => b + 26 + 12 * j)] ++ (ly2 (b + 26) ++ (ly2 (b + 38) ++ ([kI 3 2] ++ (ly3 (b + 51) ++ (ly4 (b + 54) ++ (ly1 (b + 70) ++ (ly0 (b + 122)))))))))))) ++ ((ly5 (b + 135)) ++ (ly5 (b + 138) ++ (ly5 (b + 141) ++ ([kI 0 3])))) := by
    simp only [lyC, ly6, List.append_assoc, List.append_nil]
  rw [e]
  exact gl_app _ _ _ rfl hz
theorem a6_138 {b : Nat} {o : Nat} {z : kK} (hz : (ly5 (b + 138))[o]? = some z) : (lyC 6 b)[138 + o]? = some z := by
  have e : lyC 6 b = ([kO 6 (fs6 b)] ++ (ly2 (b + 1) ++ (ly2 (b + 13) ++ ([kR 4 2 (fun j => b + 26 + 12 * j)] ++ (ly2 (b + 26) ++ (ly2 (b + 38) ++ ([kI 3 2] ++ (ly3 (b + 51) ++ (ly4 (b + 54) ++ (ly1 (b + 70) ++ (ly0 (b + 122) ++ (ly5 (b + 135))))))))))))) ++ ((ly5 (b + 138)) ++ (ly5 (b + 141) ++ ([kI 0 3]))) := by
    simp only [lyC, ly6, List.append_assoc, List.append_nil]
  rw [e]
  exact gl_app _ _ _ rfl hz
theorem a6_141 {b : Nat} {o : Nat} {z : kK} (hz : (ly5 (b + 141))[o]? = some z) : (lyC 6 b)[141 + o]? = some z := by
  have e : lyC 6 b = ([kO 6 (fs6 b)] ++ (ly2 (b + 1) ++ (ly2 (b + 13) ++ ([kR 4 2 (fun j => b + 26 + 12 * j)] ++ (ly2 (b + 26) ++ (ly2 (b + 38) ++ ([kI 3 2] ++ (ly3 (b + 51) ++ (ly4 (b + 54) ++ (ly1 (b + 70) ++ (ly0 (b + 122) ++ (ly5 (b + 135) ++ (ly5 (b + 138)))))))))))))) ++ ((ly5 (b + 141)) ++ ([kI 0 3])) := by
    simp only [lyC, ly6, List.append_assoc, List.append_nil]
  rw [e]
  exact gl_app _ _ _ rfl hz
theorem a6_144 {b : Nat} {o : Nat} {z : kK} (hz : ([kI 0 3])[o]? = some z) : (lyC 6 b)[144 + o]? = some z := by
  have e : lyC 6 b = ([kO 6 (fs6 b)] ++ (ly2 (b + 1) ++ (ly2 (b + 13) ++ ([kR 4 2 (fun j => b + 26 + 12 * j)] ++ (ly2 (b + 26) ++ (ly2 (b + 38) ++ ([kI 3 2] ++ (ly3 (b + 51) ++ (ly4 (b + 54) ++ (ly1 (b + 70) ++ (ly0 (b + 122) ++ (ly5 (b + 135) ++ (ly5 (b + 138) ++ (ly5 (b + 141))))))))))))))) ++ (([kI 0 3]) ++ (([] : List kK))) := by
    simp only [lyC, ly6, List.append_assoc, List.append_nil]
  rw [e]
  exact gl_app _ _ _ rfl hz
theorem j6_1 {w : wU} {b : Nat} (h : isC w 6 b) : isC w 2 (b + 1) := isC_part h 1 (fun o z hz => a6_1 hz)
theorem j6_13 {w : wU} {b : Nat} (h : isC w 6 b) : isC w 2 (b + 13) := isC_part h 13 (fun o z hz => a6_13 hz)
theorem k6_25 {w : wU} {b : Nat} (h : isC w 6 b) : AK w (b + 25) (kR 4 2 (fun j => b + 26 + 12 * j)) := h (25 + 0) _ (a6_25 rfl)
theorem j6_26 {w : wU} {b : Nat} (h : isC w 6 b) : isC w 2 (b + 26) := isC_part h 26 (fun o z hz => a6_26 hz)
theorem j6_38 {w : wU} {b : Nat} (h : isC w 6 b) : isC w 2 (b + 38) := isC_part h 38 (fun o z hz => a6_38 hz)
theorem r6_25 {w : wU} {b : Nat} (h : isC w 6 b) {i : Int32} (hi : vp_in i 2) : isC w 2 (b + 26 + 12 * i.toNatClampNeg) := by
  have hlt : i.toNatClampNeg < 2 := Nat.not_le.mp fun q => hi (Or.inr q)
  generalize i.toNatClampNeg = n at hlt ⊢
  match n, hlt with
  | 0, _ => exact j6_26 h
  | 1, _ => exact j6_38 h
theorem k6_50 {w : wU} {b : Nat} (h : isC w 6 b) : AK w (b + 50) (kI 3 2) := h (50 + 0) _ (a6_50 rfl)
theorem j6_51 {w : wU} {b : Nat} (h : isC w 6 b) : isC w 3 (b + 51) := isC_part h 51 (fun o z hz => a6_51 hz)
theorem j6_54 {w : wU} {b : Nat} (h : isC w 6 b) : isC w 4 (b + 54) := isC_part h 54 (fun o z hz => a6_54 hz)
theorem j6_70 {w : wU} {b : Nat} (h : isC w 6 b) : isC w 1 (b + 70) := isC_part h 70 (fun o z hz => a6_70 hz)
theorem j6_122 {w : wU} {b : Nat} (h : isC w 6 b) : isC w 0 (b + 122) := isC_part h 122 (fun o z hz => a6_122 hz)
theorem j6_135 {w : wU} {b : Nat} (h : isC w 6 b) : isC w 5 (b + 135) := isC_part h 135 (fun o z hz => a6_135 hz)
theorem j6_138 {w : wU} {b : Nat} (h : isC w 6 b) : isC w 5 (b + 138) := isC_part h 138 (fun o z hz => a6_138 hz)
theorem j6_141 {w : wU} {b : Nat} (h : isC w 6 b) : isC w 5 (b + 141) := isC_part h 141 (fun o z hz => a6_141 hz)
theorem k6_144 {w : wU} {b : Nat} (h : isC w 6 b) : AK w (b + 144) (kI 0 3) := h (144 + 0) _ (a6_144 rfl)
theorem o7 {w : wU} {b : Nat} (h : isC w 7 b) : AK w b (kO 7 (fs7 b)) := h 0 _ rfl
theorem f7_0 {w : wU} {b : Nat} (h : isC w 7 b) : OF w b 7 0 (some (some (b + 1))) := ofC (o7 h) rfl
theorem f7_1 {w : wU} {b : Nat} (h : isC w 7 b) : OF w b 7 1 (some (some (b + 2))) := ofC (o7 h) rfl
theorem f7_2 {w : wU} {b : Nat} (h : isC w 7 b) : OF w b 7 2 (some (some (b + 3))) := ofC (o7 h) rfl
theorem f7_3 {w : wU} {b : Nat} (h : isC w 7 b) : OF w b 7 3 (some (some (b + 4))) := ofC (o7 h) rfl
theorem f7_4 {w : wU} {b : Nat} (h : isC w 7 b) : OF w b 7 4 (some (some (b + 5))) := ofC (o7 h) rfl
theorem f7_5 {w : wU} {b : Nat} (h : isC w 7 b) : OF w b 7 5 (none) := ofC (o7 h) rfl
theorem f7_6 {w : wU} {b : Nat} (h : isC w 7 b) : OF w b 7 6 (some (some (b + 6))) := ofC (o7 h) rfl
theorem f7_7 {w : wU} {b : Nat} (h : isC w 7 b) : OF w b 7 7 (some (some (b + 7))) := ofC (o7 h) rfl
theorem f7_8 {w : wU} {b : Nat} (h : isC w 7 b) : OF w b 7 8 (some (some (b + 8))) := ofC (o7 h) rfl
theorem f7_9 {w : wU} {b : Nat} (h : isC w 7 b) : OF w b 7 9 (none) := ofC (o7 h) rfl
theorem f7_10 {w : wU} {b : Nat} (h : isC w 7 b) : OF w b 7 10 (none) := ofC (o7 h) rfl
theorem f7_11 {w : wU} {b : Nat} (h : isC w 7 b) : OF w b 7 11 (none) := ofC (o7 h) rfl
theorem f7_12 {w : wU} {b : Nat} (h : isC w 7 b) : OF w b 7 12 (none) := ofC (o7 h) rfl
theorem f7_13 {w : wU} {b : Nat} (h : isC w 7 b) : OF w b 7 13 (none) := ofC (o7 h) rfl
theorem f7_14 {w : wU} {b : Nat} (h : isC w 7 b) : OF w b 7 14 (some (some (b + 9))) := ofC (o7 h) rfl
theorem f7_15 {w : wU} {b : Nat} (h : isC w 7 b) : OF w b 7 15 (some (some (b + 10))) := ofC (o7 h) rfl
theorem f7_16 {w : wU} {b : Nat} (h : isC w 7 b) : OF w b 7 16 (none) := ofC (o7 h) rfl
theorem f7_17 {w : wU} {b : Nat} (h : isC w 7 b) : OF w b 7 17 (some (some (b + 11))) := ofC (o7 h) rfl
theorem f7_18 {w : wU} {b : Nat} (h : isC w 7 b) : OF w b 7 18 (some (some (b + 12))) := ofC (o7 h) rfl
theorem f7_19 {w : wU} {b : Nat} (h : isC w 7 b) : OF w b 7 19 (some (some (b + 13))) := ofC (o7 h) rfl
theorem f7_20 {w : wU} {b : Nat} (h : isC w 7 b) : OF w b 7 20 (some (some (b + 14))) := ofC (o7 h) rfl
theorem k7_1 {w : wU} {b : Nat} (h : isC w 7 b) : AK w (b + 1) (kI 0 210) := h 1 _ rfl
theorem k7_2 {w : wU} {b : Nat} (h : isC w 7 b) : AK w (b + 2) (kI 0 420) := h 2 _ rfl
theorem k7_3 {w : wU} {b : Nat} (h : isC w 7 b) : AK w (b + 3) (kI 3 2) := h 3 _ rfl
theorem k7_4 {w : wU} {b : Nat} (h : isC w 7 b) : AK w (b + 4) (kI 0 210) := h 4 _ rfl
theorem k7_5 {w : wU} {b : Nat} (h : isC w 7 b) : AK w (b + 5) (kI 0 3) := h 5 _ rfl
theorem k7_6 {w : wU} {b : Nat} (h : isC w 7 b) : AK w (b + 6) (kI 0 14400) := h 6 _ rfl
theorem k7_7 {w : wU} {b : Nat} (h : isC w 7 b) : AK w (b + 7) (kI 0 360) := h 7 _ rfl
theorem k7_8 {w : wU} {b : Nat} (h : isC w 7 b) : AK w (b + 8) (kI 0 300) := h 8 _ rfl
theorem k7_9 {w : wU} {b : Nat} (h : isC w 7 b) : AK w (b + 9) (kI 0 300) := h 9 _ rfl
theorem k7_10 {w : wU} {b : Nat} (h : isC w 7 b) : AK w (b + 10) (kI 0 1200) := h 10 _ rfl
theorem k7_11 {w : wU} {b : Nat} (h : isC w 7 b) : AK w (b + 11) (kI 0 168) := h 11 _ rfl
theorem k7_12 {w : wU} {b : Nat} (h : isC w 7 b) : AK w (b + 12) (kI 0 168) := h 12 _ rfl
theorem k7_13 {w : wU} {b : Nat} (h : isC w 7 b) : AK w (b + 13) (kI 0 8) := h 13 _ rfl
theorem k7_14 {w : wU} {b : Nat} (h : isC w 7 b) : AK w (b + 14) (kI 3 168) := h 14 _ rfl
