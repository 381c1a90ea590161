/-! bits of the machine's words as operations of natural numbers -/
theorem bv_i3 {a : Int} (h0 : 0 ≤ a) : (i3 a).toBitVec = BitVec.ofNat 32 a.toNat := by
  obtain ⟨n, rfl⟩ := Int.eq_ofNat_of_zero_le h0
  show (Int32.ofInt (n : Int)).toBitVec = _
  rw [Int32.toBitVec_ofInt, BitVec.ofInt_natCast]
  rfl
theorem bv_toI {x : Int32} {n : Nat} (h : x.toBitVec.toNat = n) (hn : n < 2147483648) : x.toInt = (n : Int) := by
  rw [← Int32.toInt_toBitVec, BitVec.toInt_eq_toNat_of_lt (by rw [h]; omega), h]
theorem bv_ofN {n : Nat} (hn : n < 2147483648) : (BitVec.ofNat 32 n).toNat = n := by
  rw [BitVec.toNat_ofNat, Nat.mod_eq_of_lt (by omega)]
theorem bAnd_n {a b : Int} (ha : 0 ≤ a) (ha2 : a < 2147483648) (hb : 0 ≤ b) (hb2 : b < 2147483648) : bAnd a b = ((a.toNat &&& b.toNat : Nat) : Int) := by
  unfold bAnd
  refine bv_toI ?_ ?_
  · rw [Int32.toBitVec_and, bv_i3 ha, bv_i3 hb, BitVec.toNat_and, bv_ofN (by omega), bv_ofN (by omega)]
  · exact Nat.lt_of_le_of_lt Nat.and_le_left (by omega)
theorem bOr_n {a b : Int} (ha : 0 ≤ a) (ha2 : a < 2147483648) (hb : 0 ≤ b) (hb2 : b < 2147483648) : bOr a b = ((a.toNat ||| b.toNat : Nat) : Int) := by
  unfold bOr
  refine bv_toI ?_ ?_
  · rw [Int32.toBitVec_or, bv_i3 ha, bv_i3 hb, BitVec.toNat_or, bv_ofN (by omega), bv_ofN (by omega)]
  · exact Nat.or_lt_two_pow (n := 31) (by omega) (by omega)
theorem sh_am : ∀ k : Nat, k < 32 → ((i3 (k : Int) &&& 31).toBitVec.smod 32) = BitVec.ofNat 32 k := by decide +kernel
theorem bShl_n {a k : Int} (ha : 0 ≤ a) (hk : 0 ≤ k) (hk2 : k < 32) (h : a.toNat * 2 ^ k.toNat < 2147483648) : bShl a k = ((a.toNat * 2 ^ k.toNat : Nat) : Int) := by
  obtain ⟨n, rfl⟩ := Int.eq_ofNat_of_zero_le hk
  unfold bShl
  refine bv_toI ?_ h
  rw [Int32.toBitVec_shiftLeft, sh_am n (by omega), bv_i3 ha, BitVec.shiftLeft_eq', bv_ofN (by omega), BitVec.toNat_shiftLeft, BitVec.toNat_ofNat, Nat.shiftLeft_eq]
  have h2 : 1 ≤ 2 ^ n := Nat.one_le_two_pow
  have h3 : a.toNat ≤ a.toNat * 2 ^ n := Nat.le_mul_of_pos_right _ h2
  simp only [Int.toNat_natCast] at h
  rw [Nat.mod_eq_of_lt (a := a.toNat) (by omega), Nat.mod_eq_of_lt (by omega)]
  rfl
theorem bShr_n {a k : Int} (ha : inR a) (hk : 0 ≤ k) (hk2 : k < 32) : bShr a k = a / 2 ^ k.toNat := by
  obtain ⟨n, rfl⟩ := Int.eq_ofNat_of_zero_le hk
  unfold bShr
  rw [← Int32.toInt_toBitVec, Int32.toBitVec_shiftRight, sh_am n (by omega), BitVec.sshiftRight_eq', bv_ofN (by omega), BitVec.toInt_sshiftRight, Int32.toInt_toBitVec, i3_toid ha, Int.shiftRight_eq_div_pow]
  rfl
theorem bShl1 {k : Int} (hk : 0 ≤ k) (hk2 : k < 31) : bShl 1 k = ((2 ^ k.toNat : Nat) : Int) := by
  have h : 2 ^ k.toNat ≤ 2 ^ 30 := Nat.pow_le_pow_right (by omega) (by omega)
  rw [bShl_n (by omega) hk (by omega) (by simp; omega)]
  simp
/-- a number laid above another's bits -/
theorem bOr_add {a b : Int} {n : Nat} (ha : 0 ≤ a) (hb : 0 ≤ b) (hbn : b < 2 ^ n) (h : a * 2 ^ n < 2147483648) (hn : n < 31) : bOr (a * 2 ^ n) b = a * 2 ^ n + b := by
  obtain ⟨x, rfl⟩ := Int.eq_ofNat_of_zero_le ha
  obtain ⟨y, rfl⟩ := Int.eq_ofNat_of_zero_le hb
  have h2 : 2 ^ n ≤ 2 ^ 30 := Nat.pow_le_pow_right (by omega) (by omega)
  have e : ((x : Int) * 2 ^ n) = ((x * 2 ^ n : Nat) : Int) := by simp
  have hy : y < 2 ^ n := by
    have e2 : (2 : Int) ^ n = ((2 ^ n : Nat) : Int) := by simp
    rw [e2] at hbn
    omega
  rw [e] at h ⊢
  rw [bOr_n (by omega) h (by omega) (by omega), Int.toNat_natCast, Int.toNat_natCast, ← Nat.shiftLeft_eq, ← Nat.shiftLeft_add_eq_or_of_lt hy]
  simp
theorem bOr_as {a b c : Int} : bOr (bOr a b) c = bOr a (bOr b c) := by
  unfold bOr
  rw [i3_to, i3_to, Int32.or_assoc]
theorem bOr_cm {a b : Int} : bOr a b = bOr b a := by
  unfold bOr
  rw [Int32.or_comm]
theorem bOr_0 {a : Int} (h : inR a) : bOr a 0 = a := by
  unfold bOr
  rw [i3_0, Int32.or_zero, i3_toid h]
theorem bOr_0l {a : Int} (h : inR a) : bOr 0 a = a := by rw [bOr_cm, bOr_0 h]
theorem bOr_in {a b : Int} : inR (bOr a b) := toI_in _
theorem bOr_lt {a b : Int} {n : Nat} (ha : 0 ≤ a) (ha2 : a < 2 ^ n) (hb : 0 ≤ b) (hb2 : b < 2 ^ n) (hn : n < 32) : 0 ≤ bOr a b ∧ bOr a b < 2 ^ n := by
  have e2 : (2 : Int) ^ n = ((2 ^ n : Nat) : Int) := by simp
  have h2 : 2 ^ n ≤ 2 ^ 31 := Nat.pow_le_pow_right (by omega) (by omega)
  rw [e2] at ha2 hb2 ⊢
  rw [bOr_n ha (by omega) hb (by omega)]
  have := Nat.or_lt_two_pow (x := a.toNat) (y := b.toNat) (n := n) (by omega) (by omega)
  omega
/-- bits of a set of less than 31 places -/
theorem bAnd_bit {a k : Int} (ha : 0 ≤ a) (ha2 : a < 2147483648) (hk : 0 ≤ k) (hk2 : k < 31) : bAnd a (bShl 1 k) = 0 ↔ a.toNat.testBit k.toNat = false := by
  have h : 2 ^ k.toNat ≤ 2 ^ 30 := Nat.pow_le_pow_right (by omega) (by omega)
  rw [bShl1 hk hk2, bAnd_n ha ha2 (Int.natCast_nonneg _) (by omega), Int.toNat_natCast]
  constructor
  · intro h0
    have h1 : (a.toNat &&& 2 ^ k.toNat) = 0 := by omega
    have h2 := congrArg (fun x => Nat.testBit x k.toNat) h1
    simp only [Nat.testBit_and, Nat.testBit_two_pow_self, Bool.and_true, Nat.zero_testBit] at h2
    exact h2
  · intro h0
    have h1 : (a.toNat &&& 2 ^ k.toNat) = 0 := by
      apply Nat.eq_of_testBit_eq
      intro i
      rw [Nat.testBit_and, Nat.testBit_two_pow, Nat.zero_testBit]
      by_cases e : k.toNat = i
      · rw [← e, h0]; rfl
      · simp [e]
    rw [h1]
    rfl
theorem bOr_bit {a b : Int} (ha : 0 ≤ a) (ha2 : a < 2147483648) (hb : 0 ≤ b) (hb2 : b < 2147483648) (j : Nat) : (bOr a b).toNat.testBit j = (a.toNat.testBit j || b.toNat.testBit j) := by
  rw [bOr_n ha ha2 hb hb2, Int.toNat_natCast, Nat.testBit_or]
theorem bShl1_bit {k : Int} (hk : 0 ≤ k) (hk2 : k < 31) (j : Nat) : (bShl 1 k).toNat.testBit j = decide ((j : Int) = k) := by
  rw [bShl1 hk hk2, Int.toNat_natCast, Nat.testBit_two_pow]
  congr 1
  simp only [eq_iff_iff]
  omega
/-- one bit of a set, as the reference asks it -/
theorem bShr_bit {a k : Int} (ha : 0 ≤ a) (ha2 : a < 2147483648) (hk : 0 ≤ k) (hk2 : k < 32) : bAnd (bShr a k) 1 = if a.toNat.testBit k.toNat then 1 else 0 := by
  rw [bShr_n ⟨by omega, by omega⟩ hk hk2]
  obtain ⟨x, rfl⟩ := Int.eq_ofNat_of_zero_le ha
  have e : ((x : Int) / 2 ^ k.toNat) = ((x / 2 ^ k.toNat : Nat) : Int) := by simp
  rw [e, bAnd_n (Int.natCast_nonneg _) (by have := Nat.div_le_self x (2 ^ k.toNat); omega) (by omega) (by omega), Int.toNat_natCast, Int.toNat_natCast]
  rw [Nat.testBit_eq_decide_div_mod_eq]
  have : (1 : Int).toNat = 1 := rfl
  rw [this, Nat.and_one_is_mod]
  by_cases h : x / 2 ^ k.toNat % 2 = 1
  · simp [h]
  · have : x / 2 ^ k.toNat % 2 = 0 := by omega
    simp [this]
