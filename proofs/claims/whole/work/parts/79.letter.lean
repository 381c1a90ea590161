/-! letters of names: both programs -/
/-- the first n letters in the class's code, in the reference's -/
def cF (l : Nat → Int) : Nat → Int
  | 0 => 0
  | n + 1 => 27 * cF l n + l n
def kF (l : Nat → Int) : Nat → Int
  | 0 => 0
  | n + 1 => 256 * kF l n + (96 + l n)
/-- l is a name of L letters -/
def isN (l : Nat → Int) (L : Nat) : Prop := (1 ≤ L ∧ L ≤ 6) ∧ (∀ i, i < L → 1 ≤ l i ∧ l i ≤ 26) ∧ ∀ i, L ≤ i → l i = 0
theorem isN.b {l : Nat → Int} {L : Nat} (h : isN l L) (i : Nat) : 0 ≤ l i ∧ l i ≤ 26 := by
  by_cases c : i < L
  · have := h.2.1 i c; omega
  · have := h.2.2 i (by omega); omega
theorem cF_bd {l : Nat → Int} {L : Nat} (h : isN l L) : ∀ n : Nat, n ≤ 6 → 0 ≤ cF l n ∧ cF l n < 27 ^ n := by
  intro n
  induction n with
  | zero => intro _; exact ⟨Int.le_refl 0, by show (0 : Int) < 1; decide⟩
  | succ n ih =>
    intro hn
    have i := ih (by omega)
    have b := h.b n
    rw [Int.pow_succ]
    show 0 ≤ 27 * cF l n + l n ∧ 27 * cF l n + l n < _
    omega
theorem cF_div {l : Nat → Int} {L : Nat} (h : isN l L) (n : Nat) : cF l (n + 1) / 27 = cF l n ∧ cF l (n + 1) % 27 = l n := by
  have b := h.b n
  show (27 * cF l n + l n) / 27 = _ ∧ (27 * cF l n + l n) % 27 = _
  omega
theorem kF_bd {l : Nat → Int} {L : Nat} (h : isN l L) : ∀ n : Nat, n ≤ 6 → 0 ≤ kF l n ∧ kF l n < 256 ^ n := by
  intro n
  induction n with
  | zero => intro _; exact ⟨Int.le_refl 0, by show (0 : Int) < 1; decide⟩
  | succ n ih =>
    intro hn
    have i := ih (by omega)
    have b := h.b n
    rw [Int.pow_succ]
    show 0 ≤ 256 * kF l n + (96 + l n) ∧ 256 * kF l n + (96 + l n) < _
    omega
theorem kF_div {l : Nat → Int} {L : Nat} (h : isN l L) (n : Nat) : kF l (n + 1) / 256 = kF l n ∧ kF l (n + 1) % 256 = 96 + l n := by
  have b := h.b n
  show (256 * kF l n + (96 + l n)) / 256 = _ ∧ (256 * kF l n + (96 + l n)) % 256 = _
  omega
theorem sh_a6 : ∀ k : Nat, k < 64 → (((i3 (k : Int)).toInt64 &&& 63).toBitVec.smod 64) = BitVec.ofNat 64 k := by decide +kernel
theorem lShr_n {a k : Int} (ha : inL a) (hk : 0 ≤ k) (hk2 : k < 64) : lShr a k = a / 2 ^ k.toNat := by
  obtain ⟨n, rfl⟩ := Int.eq_ofNat_of_zero_le hk
  unfold lShr
  rw [← Int64.toInt_toBitVec, Int64.toBitVec_shiftRight, sh_a6 n (by omega), BitVec.sshiftRight_eq', BitVec.toNat_ofNat, Nat.mod_eq_of_lt (by omega), BitVec.toInt_sshiftRight, Int64.toInt_toBitVec, i6_toid ha, Int.shiftRight_eq_div_pow]
  rfl
theorem lAnd_255 {a : Int} (ha : 0 ≤ a) (ha2 : a < 9223372036854775808) : lAnd a 255 = a % 256 := by
  rw [lAnd_n ha ha2 (by decide) (by decide), show (255 : Int).toNat = 2 ^ 8 - 1 by decide, Nat.and_two_pow_sub_one_eq_mod]
  obtain ⟨x, rfl⟩ := Int.eq_ofNat_of_zero_le ha
  simp
theorem kF_sh {l : Nat → Int} {L : Nat} (h : isN l L) (n : Nat) : ∀ j : Nat, j < 6 → kF l (n + j) / 2 ^ (8 * j) = kF l n := by
  intro j hj
  have b0 := h.b n
  have b1 := h.b (n + 1)
  have b2 := h.b (n + 2)
  have b3 := h.b (n + 3)
  have b4 := h.b (n + 4)
  rcases (show j = 0 ∨ j = 1 ∨ j = 2 ∨ j = 3 ∨ j = 4 ∨ j = 5 by omega) with c | c | c | c | c | c <;> rw [c]
  · show kF l n / 1 = _; omega
  · show (256 * kF l n + (96 + l n)) / 256 = _; omega
  · show (256 * (256 * kF l n + (96 + l n)) + (96 + l (n + 1))) / 65536 = _; omega
  · show (256 * (256 * (256 * kF l n + (96 + l n)) + (96 + l (n + 1))) + (96 + l (n + 2))) / 16777216 = _; omega
  · show (256 * (256 * (256 * (256 * kF l n + (96 + l n)) + (96 + l (n + 1))) + (96 + l (n + 2))) + (96 + l (n + 3))) / 4294967296 = _; omega
  · show (256 * (256 * (256 * (256 * (256 * kF l n + (96 + l n)) + (96 + l (n + 1))) + (96 + l (n + 2))) + (96 + l (n + 3))) + (96 + l (n + 4))) / 1099511627776 = _; omega
theorem kF_in {l : Nat → Int} {L : Nat} (h : isN l L) {n : Nat} (hn : n ≤ 6) : 0 ≤ kF l n ∧ kF l n < 281474976710656 := by
  have b := kF_bd h n hn
  have p6 : (256 : Int) ^ n ≤ 281474976710656 := by
    rcases (show n = 0 ∨ n = 1 ∨ n = 2 ∨ n = 3 ∨ n = 4 ∨ n = 5 ∨ n = 6 by omega) with c | c | c | c | c | c | c <;> rw [c] <;> decide
  omega
section LETTER
variable {g : GT} {e : Nat} {s : Sg} {l : Nat → Int} {L : Nat}
theorem cl_58 (h : isN l L) {i : Nat} (hi : i < 6) : ∀ (j : Nat), i + j < 6 → P_X12_letter_58 g e (Ex (l i) s) s (cF l (i + j + 1)) (6 - (j : Int)) := by
  intro j
  induction j with
  | zero =>
    intro hj
    refine S_X12_letter_58 ⟨fun _ => ⟨?_, rfl⟩, fun q => absurd (by omega) q⟩
    rw [tm_of (cF_bd h _ (by omega)).1]
    exact (cF_div h i).2
  | succ j ih =>
    intro hj
    have bd := cF_bd h (i + (j + 1) + 1) (by omega)
    have b6 := cF_bd h (i + (j + 1)) (by omega)
    have p6 : (27 : Int) ^ (i + (j + 1)) ≤ 27 ^ 5 := by
      rcases (show i + (j + 1) = 1 ∨ i + (j + 1) = 2 ∨ i + (j + 1) = 3 ∨ i + (j + 1) = 4 ∨ i + (j + 1) = 5 by omega) with c | c | c | c | c <;> rw [c] <;> decide
    have p5 : (27 : Int) ^ 5 = 14348907 := by decide
    refine S_X12_letter_58 ⟨fun q => by omega, fun _ => ?_⟩
    rw [td_of bd.1, (cF_div h _).1, w32_of (show _ ≤ cF l (i + (j + 1)) by omega) (by omega), w32_of (by omega) (by omega), show 6 - ((j + 1 : Nat) : Int) + 1 = 6 - (j : Int) by omega]
    exact ih (by omega)
theorem rl_58 (h : isN l L) {i : Nat} (hi : i < 6) : ∀ (n : Nat), n ≤ L → P_X13_letter_58 g e (Ex (l i) s) s i (kF l L) ((L : Int) - n) (kF l n) := by
  have L6 := h.1
  intro n
  induction n with
  | zero =>
    intro hn
    refine S_X13_letter_58 ⟨fun _ => ⟨fun q => ⟨?_, rfl⟩, fun q => ⟨?_, rfl⟩⟩, fun q => absurd (by rw [lCmp_le]; exact Int.le_refl 0) q⟩
    · have b := h.b i
      have kb := kF_in h (n := L) (by omega)
      have ki := kF_in h (n := i + 1) (by omega)
      have sh := kF_sh h (i + 1) (L - (i + 1)) (by omega)
      rw [show i + 1 + (L - (i + 1)) = L by omega] at sh
      have e8 : w32 (8 * w32 (w32 ((L : Int) - ((0 : Nat) : Int) - 1) - i)) = ((8 * (L - (i + 1)) : Nat) : Int) := by
        rw [w32_of (show _ ≤ (L : Int) - ((0 : Nat) : Int) - 1 by omega) (by omega), w32_of (show _ ≤ (L : Int) - ((0 : Nat) : Int) - 1 - i by omega) (by omega), w32_of (by omega) (by omega)]
        omega
      rw [e8, lShr_n (by unfold inL; omega) (by omega) (by omega), Int.toNat_natCast, sh, lAnd_255 ki.1 (by omega), (kF_div h i).2, w32_of (show _ ≤ 96 + l i by omega) (by omega), w32_of (show _ ≤ 96 + l i - 97 by omega) (by omega), w32_of (by omega) (by omega)]
      omega
    · exact (h.2.2 i (by omega)).symm
  | succ n ih =>
    intro hn
    have kb := kF_in h (n := n + 1) (by omega)
    have k0 := kF_in h (n := n) (by omega)
    have b := h.b n
    have kp : 0 < kF l (n + 1) := by show 0 < 256 * kF l n + (96 + l n); omega
    refine S_X13_letter_58 ⟨fun q => by rw [lCmp_le] at q; omega, fun _ => ?_⟩
    rw [lShr_n (by unfold inL; omega) (by decide) (by decide), show kF l (n + 1) / 2 ^ (8 : Int).toNat = kF l (n + 1) / 256 from rfl, (kF_div h n).1, w32_of (by omega) (by omega), show (L : Int) - ((n + 1 : Nat) : Int) + 1 = (L : Int) - n by omega]
    exact ih (by omega)
end LETTER
