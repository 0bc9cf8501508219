/-! whole numbers with a sign -/
def jI (z : Int) : Int32 := Int32.ofInt z
theorem jI_add (a b : Int) : jI a + jI b = jI (a + b) := (Int32.ofInt_add a b).symm
theorem jI_mul (a b : Int) : jI a * jI b = jI (a * b) := (Int32.ofInt_mul a b).symm
theorem jI_sub (a b : Int) : jI a - jI b = jI (a - b) := (Int32.ofInt_sub a b).symm
theorem jI_t {a : Int} (h : -2147483648 ≤ a) (h2 : a < 2147483648) : (jI a).toInt = a := Int32.toInt_ofInt_of_le h h2
theorem jI_n (n : Nat) : nI n = jI n := rfl
theorem jI_le {a b : Int} (h : -2147483648 ≤ a) (h2 : a < 2147483648) (k : -2147483648 ≤ b) (k2 : b < 2147483648) : jI a ≤ jI b ↔ a ≤ b := by
  rw [Int32.le_iff_toInt_le, jI_t h h2, jI_t k k2]
theorem jI_lt {a b : Int} (h : -2147483648 ≤ a) (h2 : a < 2147483648) (k : -2147483648 ≤ b) (k2 : b < 2147483648) : jI a < jI b ↔ a < b := by
  rw [Int32.lt_iff_toInt_lt, jI_t h h2, jI_t k k2]
theorem jI_eq {a b : Int} (h : -2147483648 ≤ a) (h2 : a < 2147483648) (k : -2147483648 ≤ b) (k2 : b < 2147483648) : jI a = jI b ↔ a = b :=
  ⟨fun e => by rw [← jI_t h h2, e, jI_t k k2], fun e => by rw [e]⟩
theorem jI_of (x : Int32) : x = jI x.toInt := (Int32.ofInt_toInt x).symm
theorem jI_lo (x : Int32) : -2147483648 ≤ x.toInt := Int32.le_toInt x
theorem jI_hi (x : Int32) : x.toInt < 2147483648 := Int32.toInt_lt x
/-- one that can be none -/
def oI (a : Nat) : Int32 := jI ((a : Int) - 1)
theorem oI_s (a : Nat) : oI (a + 1) = nI a := by
  rw [oI, jI_n]; congr 1; omega
theorem oI_0 : oI 0 = -1 := rfl
theorem oI_eq {a b : Nat} (ha : a < 1000) (hb : b < 1000) : oI a = oI b ↔ a = b := by
  rw [oI, oI, jI_eq (by omega) (by omega) (by omega) (by omega)]; omega
theorem oI_eqn {a b : Nat} (ha : a < 1000) (hb : b < 1000) : oI a = nI b ↔ a = b + 1 := by
  rw [oI, jI_n, jI_eq (by omega) (by omega) (by omega) (by omega)]; omega
theorem oI_eq0 {a : Nat} (ha : a < 1000) : oI a = -1 ↔ a = 0 := oI_eq (b := 0) ha (by decide)
theorem le_oI {a b : Nat} (ha : a < 1000) (hb : b < 1000) : nI b ≤ oI a ↔ b + 1 ≤ a := by
  rw [oI, jI_n, jI_le (by omega) (by omega) (by omega) (by omega)]; omega
theorem oI_lt {a b : Nat} (ha : a < 1000) (hb : b < 1000) : oI a < nI b ↔ a < b + 1 := by
  rw [oI, jI_n, jI_lt (by omega) (by omega) (by omega) (by omega)]; omega
/-- a number from lo to hi -/
def iB (x : Int32) (lo hi : Nat) : Prop := ∃ n, lo ≤ n ∧ n ≤ hi ∧ x = nI n
theorem iB_iff {x : Int32} {lo hi : Nat} (hh : hi < 1000000) (hl : lo < 1000000) : iB x lo hi ↔ (lo : Int) ≤ x.toInt ∧ x.toInt ≤ hi := by
  constructor
  · rintro ⟨n, h1, h2, rfl⟩
    rw [jI_n, jI_t (by omega) (by omega)]
    omega
  · rintro ⟨h1, h2⟩
    refine ⟨x.toInt.toNat, by omega, by omega, ?_⟩
    rw [jI_n, show ((x.toInt.toNat : Nat) : Int) = x.toInt from Int.toNat_of_nonneg (by omega)]
    exact jI_of x
theorem sp_within {x : Int32} {lo hi : Nat} {M : mM} {Q : Int32 → Prop} (hl : lo < 1000000) (hh : hi < 1000000) (h1 : iB x lo hi → Q 1) (h0 : ¬ iB x lo hi → Q 0) : p_X6_within x (nI lo) (nI hi) M Q := by
  unfold p_X6_within
  rw [iB_iff hh hl] at h1 h0
  rw [Int32.lt_iff_toInt_lt, Int32.lt_iff_toInt_lt, jI_n, jI_n, jI_t (by omega) (by omega), jI_t (by omega) (by omega)]
  refine ⟨fun hc => ?_, fun hc => ⟨fun hd => ?_, fun hd => ?_⟩⟩
  · exact h0 (by omega)
  · exact h0 (by omega)
  · exact h1 (by omega)
theorem l64_lt (x y : Int32) : x.toInt64 < y.toInt64 ↔ x.toInt < y.toInt := by
  rw [Int64.lt_iff_toInt_lt, Int32.toInt_toInt64, Int32.toInt_toInt64]
theorem sp7_inI {x : Int32} {lo hi : Nat} {M : mM} {Q : Int32 → Prop} (hl : lo < 1000000) (hh : hi < 1000000) (h1 : iB x lo hi → Q 1) (h0 : ¬ iB x lo hi → Q 0) : p_X7_in x.toInt64 (lN lo) (lN hi) M Q := by
  rw [← nI_ll (n := lo) (by omega), ← nI_ll (n := hi) (by omega)]
  unfold p_X7_in
  rw [iB_iff hh hl] at h1 h0
  rw [l64_lt, l64_lt, jI_n, jI_n, jI_t (by omega) (by omega), jI_t (by omega) (by omega)]
  refine ⟨fun hc => ?_, fun hc => ⟨fun hd => ?_, fun hd => ?_⟩⟩
  · exact h0 (by omega)
  · exact h0 (by omega)
  · exact h1 (by omega)
