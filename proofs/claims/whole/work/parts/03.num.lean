/-! numbers: the machine's ints and longs as whole numbers -/
def w32 (x : Int) : Int := (x + 2147483648) % 4294967296 - 2147483648
def w64 (x : Int) : Int := (x + 9223372036854775808) % 18446744073709551616 - 9223372036854775808
def inR (x : Int) : Prop := -2147483648 ≤ x ∧ x ≤ 2147483647
def inL (x : Int) : Prop := -9223372036854775808 ≤ x ∧ x ≤ 9223372036854775807
abbrev i3 (x : Int) : Int32 := Int32.ofInt x
abbrev i6 (x : Int) : Int64 := Int64.ofInt x
theorem w32_in (x : Int) : inR (w32 x) := by unfold inR w32; omega
theorem w64_in (x : Int) : inL (w64 x) := by unfold inL w64; omega
theorem w32_id {x : Int} (h : inR x) : w32 x = x := by unfold inR at h; unfold w32; omega
theorem w64_id {x : Int} (h : inL x) : w64 x = x := by unfold inL at h; unfold w64; omega
theorem inR_L {x : Int} (h : inR x) : inL x := by unfold inR at h; unfold inL; omega
theorem toI_i3 (x : Int) : (i3 x).toInt = w32 x := by
  show (Int32.ofInt x).toInt = w32 x
  rw [Int32.toInt_ofInt]
  unfold w32
  rw [Int.bmod_def]
  simp only [Int32.size]
  split <;> omega
theorem toI_i6 (x : Int) : (i6 x).toInt = w64 x := by
  show (Int64.ofInt x).toInt = w64 x
  rw [Int64.toInt_ofInt]
  unfold w64
  rw [Int.bmod_def]
  simp only [Int64.size]
  split <;> omega
theorem toI_in (x : Int32) : inR x.toInt := by
  have h1 := x.le_toInt
  have h2 := x.toInt_lt
  unfold inR
  omega
theorem toL_in (x : Int64) : inL x.toInt := by
  have h1 := x.le_toInt
  have h2 := x.toInt_lt
  unfold inL
  omega
theorem i3_eq {x : Int32} {a : Int} (h : x.toInt = w32 a) : x = i3 a := Int32.toInt_inj.mp (h.trans (toI_i3 a).symm)
theorem i6_eq {x : Int64} {a : Int} (h : x.toInt = w64 a) : x = i6 a := Int64.toInt_inj.mp (h.trans (toI_i6 a).symm)
theorem i3_w (x : Int) : i3 (w32 x) = i3 x := i3_eq (x := i3 (w32 x)) (a := x) (by rw [toI_i3, w32_id (w32_in x)])
theorem i6_w (x : Int) : i6 (w64 x) = i6 x := i6_eq (x := i6 (w64 x)) (a := x) (by rw [toI_i6, w64_id (w64_in x)])
theorem i3_to (x : Int32) : i3 x.toInt = x := Int32.ofInt_toInt x
theorem i6_to (x : Int64) : i6 x.toInt = x := Int64.ofInt_toInt x
theorem i3_add (a b : Int) : i3 a + i3 b = i3 (w32 (a + b)) := by rw [i3_w]; exact (Int32.ofInt_add a b).symm
theorem i3_sub (a b : Int) : i3 a - i3 b = i3 (w32 (a - b)) := by rw [i3_w]; exact (Int32.ofInt_sub a b).symm
theorem i3_mul (a b : Int) : i3 a * i3 b = i3 (w32 (a * b)) := by rw [i3_w]; exact (Int32.ofInt_mul a b).symm
theorem i6_add (a b : Int) : i6 a + i6 b = i6 (w64 (a + b)) := by rw [i6_w]; exact (Int64.ofInt_add a b).symm
theorem i6_sub (a b : Int) : i6 a - i6 b = i6 (w64 (a - b)) := by rw [i6_w]; exact (Int64.ofInt_sub a b).symm
theorem i6_mul (a b : Int) : i6 a * i6 b = i6 (w64 (a * b)) := by rw [i6_w]; exact (Int64.ofInt_mul a b).symm
theorem i3_toid {a : Int} (h : inR a) : (i3 a).toInt = a := by rw [toI_i3, w32_id h]
theorem i6_toid {a : Int} (h : inL a) : (i6 a).toInt = a := by rw [toI_i6, w64_id h]
theorem bm32 (x : Int) : x.bmod (2 ^ 32) = w32 x := by
  unfold w32
  rw [Int.bmod_def]
  split <;> omega
theorem bm64 (x : Int) : x.bmod (2 ^ 64) = w64 x := by
  unfold w64
  rw [Int.bmod_def]
  split <;> omega
theorem i3_div {a b : Int} (ha : inR a) (hb : inR b) : i3 a / i3 b = i3 (w32 (a.tdiv b)) := by
  rw [i3_w]
  apply i3_eq
  rw [Int32.toInt_div, i3_toid ha, i3_toid hb, bm32]
theorem i6_div {a b : Int} (ha : inL a) (hb : inL b) : i6 a / i6 b = i6 (w64 (a.tdiv b)) := by
  rw [i6_w]
  apply i6_eq
  rw [Int64.toInt_div, i6_toid ha, i6_toid hb, bm64]
theorem tmod_in {a b : Int} (ha : inR a) (hb : inR b) : inR (a.tmod b) := by
  have h := Int.natAbs_tmod a b
  have h1 := Nat.mod_le a.natAbs b.natAbs
  unfold inR at *
  by_cases h0 : 0 ≤ a
  · have := Int.tmod_nonneg b h0
    omega
  · have := Int.tmod_nonneg b (show 0 ≤ -a by omega)
    rw [Int.neg_tmod] at this
    omega
theorem tmod_inL {a b : Int} (ha : inL a) (hb : inL b) : inL (a.tmod b) := by
  have h := Int.natAbs_tmod a b
  have h1 := Nat.mod_le a.natAbs b.natAbs
  unfold inL at *
  by_cases h0 : 0 ≤ a
  · have := Int.tmod_nonneg b h0
    omega
  · have := Int.tmod_nonneg b (show 0 ≤ -a by omega)
    rw [Int.neg_tmod] at this
    omega
theorem i3_rem {a b : Int} (ha : inR a) (hb : inR b) : i3 a - i3 a / i3 b * i3 b = i3 (a.tmod b) := by
  rw [i3_div ha hb, i3_w]
  have e : a.tmod b = a - a.tdiv b * b := by have := Int.tmod_add_tdiv_mul a b; omega
  rw [e]
  show Int32.ofInt a - Int32.ofInt (a.tdiv b) * Int32.ofInt b = Int32.ofInt (a - a.tdiv b * b)
  rw [Int32.ofInt_sub, Int32.ofInt_mul]
theorem i6_rem {a b : Int} (ha : inL a) (hb : inL b) : i6 a - i6 a / i6 b * i6 b = i6 (a.tmod b) := by
  rw [i6_div ha hb, i6_w]
  have e : a.tmod b = a - a.tdiv b * b := by have := Int.tmod_add_tdiv_mul a b; omega
  rw [e]
  show Int64.ofInt a - Int64.ofInt (a.tdiv b) * Int64.ofInt b = Int64.ofInt (a - a.tdiv b * b)
  rw [Int64.ofInt_sub, Int64.ofInt_mul]
theorem i3_inj {a b : Int} (ha : inR a) (hb : inR b) : i3 a = i3 b ↔ a = b := by
  constructor
  · intro h
    have := congrArg Int32.toInt h
    rwa [i3_toid ha, i3_toid hb] at this
  · intro h; rw [h]
theorem i6_inj {a b : Int} (ha : inL a) (hb : inL b) : i6 a = i6 b ↔ a = b := by
  constructor
  · intro h
    have := congrArg Int64.toInt h
    rwa [i6_toid ha, i6_toid hb] at this
  · intro h; rw [h]
theorem i3_lt {a b : Int} (ha : inR a) (hb : inR b) : i3 a < i3 b ↔ a < b := by rw [Int32.lt_iff_toInt_lt, i3_toid ha, i3_toid hb]
theorem i3_le {a b : Int} (ha : inR a) (hb : inR b) : i3 a ≤ i3 b ↔ a ≤ b := by rw [Int32.le_iff_toInt_le, i3_toid ha, i3_toid hb]
theorem i6_lt {a b : Int} (ha : inL a) (hb : inL b) : i6 a < i6 b ↔ a < b := by rw [Int64.lt_iff_toInt_lt, i6_toid ha, i6_toid hb]
theorem i3_0 : i3 0 = 0 := rfl
theorem i6_0 : i6 0 = 0 := rfl
theorem i3_clamp {a : Int} {n : Nat} (h : a = (n : Int)) (hn : n < 2 ^ 31) : (i3 a).toNatClampNeg = n := by
  subst h
  exact nI_clamp hn
theorem i3_vin {a : Int} {N : Nat} (h0 : 0 ≤ a) (h : a < (N : Int)) (ha : inR a) : vp_in (i3 a) N := by
  rw [vp_in_iff, i3_toid ha]
  exact ⟨h0, h⟩
theorem i3_idx {a : Int} (h0 : 0 ≤ a) (ha : inR a) : (i3 a).toNatClampNeg = a.toNat := by
  obtain ⟨n, rfl⟩ := Int.eq_ofNat_of_zero_le h0
  refine nI_clamp ?_
  unfold inR at ha
  omega
-- bits
def bAnd (a b : Int) : Int := (i3 a &&& i3 b).toInt
def bOr (a b : Int) : Int := (i3 a ||| i3 b).toInt
def bXor (a b : Int) : Int := (i3 a ^^^ i3 b).toInt
def bShl (a b : Int) : Int := (i3 a <<< (i3 b &&& 31)).toInt
def bShr (a b : Int) : Int := (i3 a >>> (i3 b &&& 31)).toInt
def bUshr (a b : Int) : Int := ((i3 a).toUInt32 >>> ((i3 b).toUInt32 &&& Int32.toUInt32 31)).toInt32.toInt
def bSb (a : Int) : Int := (i3 a).toInt8.toInt32.toInt
def lAnd (a b : Int) : Int := (i6 a &&& i6 b).toInt
def lOr (a b : Int) : Int := (i6 a ||| i6 b).toInt
def lXor (a b : Int) : Int := (i6 a ^^^ i6 b).toInt
def lShl (a b : Int) : Int := (i6 a <<< ((i3 b).toInt64 &&& 63)).toInt
def lShr (a b : Int) : Int := (i6 a >>> ((i3 b).toInt64 &&& 63)).toInt
def lCmp (a b : Int) : Int := if b < a then 1 else if a = b then 0 else -1
theorem lcmp_eq {a b : Int} (ha : inL a) (hb : inL b) : lg_cmp (i6 a) (i6 b) = i3 (lCmp a b) := by
  unfold lg_cmp lCmp
  simp only [gt_iff_lt, i6_lt hb ha, i6_inj ha hb]
  split
  · rfl
  · split <;> rfl
theorem lCmp_in (a b : Int) : inR (lCmp a b) := by
  unfold lCmp inR
  split
  · omega
  · split <;> omega
theorem i3_toL {a : Int} (ha : inR a) : (i3 a).toInt64 = i6 a := by
  apply i6_eq
  rw [Int32.toInt_toInt64, i3_toid ha, w64_id (inR_L ha)]
theorem i6_toI (a : Int) : (i6 a).toInt32 = i3 (w32 a) := by
  rw [i3_w]
  apply i3_eq
  rw [Int64.toInt_toInt32, toI_i6, bm32]
  unfold w32 w64
  omega
