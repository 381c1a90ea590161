/-! the mathematics that both programs are held against: counts, firsts, sets; bits -/
abbrev Tn : Type := Int → Int → Int
abbrev Wd : Type := Int → Int → Int
def cntF : Nat → (Int → Bool) → Int
  | 0, _ => 0
  | n + 1, p => cntF n p + (if p n then 1 else 0)
def fstF : Nat → (Int → Bool) → Int
  | 0, _ => -1
  | n + 1, p => if fstF n p = -1 then (if p n then (n : Int) else -1) else fstF n p
def setF : Nat → (Int → Bool) → Int
  | 0, _ => 0
  | n + 1, p => setF n p + (if p n then 2 ^ n else 0)
def allF : Nat → (Int → Bool) → Bool
  | 0, _ => true
  | n + 1, p => allF n p && p n
def sumF : Nat → (Int → Int) → Int
  | 0, _ => 0
  | n + 1, f => sumF n f + f n
theorem cntF_le (n : Nat) (p : Int → Bool) : 0 ≤ cntF n p ∧ cntF n p ≤ n := by
  induction n with
  | zero => simp [cntF]
  | succ n ih =>
    unfold cntF
    split <;> omega
theorem fstF_le (n : Nat) (p : Int → Bool) : -1 ≤ fstF n p ∧ fstF n p < n := by
  induction n with
  | zero => simp [fstF]
  | succ n ih =>
    unfold fstF
    split
    · split <;> omega
    · omega
theorem fstF_hit {n : Nat} {p : Int → Bool} (h : fstF n p ≠ -1) : 0 ≤ fstF n p ∧ fstF n p < n ∧ p (fstF n p) = true := by
  induction n with
  | zero => exact absurd rfl h
  | succ n ih =>
    unfold fstF at h ⊢
    by_cases e : fstF n p = -1
    · simp only [e, if_true] at h ⊢
      by_cases ep : p n = true
      · simp only [ep, if_true]
        exact ⟨by omega, by omega, trivial⟩
      · simp only [ep] at h
        exact absurd rfl h
    · simp only [e, if_false] at h ⊢
      have := ih e
      exact ⟨this.1, by omega, this.2.2⟩
theorem fstF_none {n : Nat} {p : Int → Bool} (h : fstF n p = -1) : ∀ k : Nat, k < n → p k = false := by
  induction n with
  | zero => intro k hk; omega
  | succ n ih =>
    unfold fstF at h
    by_cases e : fstF n p = -1
    · simp only [e, if_true] at h
      intro k hk
      by_cases ek : k = n
      · subst ek
        by_cases ep : p k = true
        · simp only [ep, if_true] at h
          omega
        · exact Bool.eq_false_iff.mpr ep
      · exact ih e k (by omega)
    · rw [if_neg e] at h
      exact absurd h e
theorem fstF_first {n : Nat} {p : Int → Bool} {c : Nat} (hc : c < n) (hp : p c = true) (hb : ∀ k : Nat, k < c → p k = false) : fstF n p = c := by
  induction n with
  | zero => omega
  | succ n ih =>
    unfold fstF
    by_cases e : c = n
    · subst e
      have h0 : fstF c p = -1 := by
        apply Classical.byContradiction
        intro hn
        obtain ⟨h1, h2, h3⟩ := fstF_hit hn
        have := hb (fstF c p).toNat (by omega)
        rw [show (((fstF c p).toNat : Nat) : Int) = fstF c p by omega, h3] at this
        cases this
      rw [if_pos h0, if_pos hp]
    · have := ih (by omega)
      rw [this, if_neg (by omega)]
theorem cntF_congr {n : Nat} {p q : Int → Bool} (h : ∀ k : Nat, k < n → p k = q k) : cntF n p = cntF n q := by
  induction n with
  | zero => rfl
  | succ n ih =>
    unfold cntF
    rw [ih (fun k hk => h k (by omega)), h n (by omega)]
theorem fstF_congr {n : Nat} {p q : Int → Bool} (h : ∀ k : Nat, k < n → p k = q k) : fstF n p = fstF n q := by
  induction n with
  | zero => rfl
  | succ n ih =>
    unfold fstF
    rw [ih (fun k hk => h k (by omega)), h n (by omega)]
theorem setF_congr {n : Nat} {p q : Int → Bool} (h : ∀ k : Nat, k < n → p k = q k) : setF n p = setF n q := by
  induction n with
  | zero => rfl
  | succ n ih =>
    unfold setF
    rw [ih (fun k hk => h k (by omega)), h n (by omega)]
theorem allF_congr {n : Nat} {p q : Int → Bool} (h : ∀ k : Nat, k < n → p k = q k) : allF n p = allF n q := by
  induction n with
  | zero => rfl
  | succ n ih =>
    unfold allF
    rw [ih (fun k hk => h k (by omega)), h n (by omega)]
theorem allF_iff {n : Nat} {p : Int → Bool} : allF n p = true ↔ ∀ k : Nat, k < n → p k = true := by
  induction n with
  | zero => simp [allF]
  | succ n ih =>
    unfold allF
    rw [Bool.and_eq_true, ih]
    constructor
    · intro h k hk
      by_cases e : k = n
      · subst e; exact h.2
      · exact h.1 k (by omega)
    · intro h
      exact ⟨fun k hk => h k (by omega), h n (by omega)⟩
theorem pow2 (n : Nat) : (2 : Int) ^ n = ((2 ^ n : Nat) : Int) := by simp
theorem setF_lt (n : Nat) (p : Int → Bool) : 0 ≤ setF n p ∧ setF n p < 2 ^ n := by
  induction n with
  | zero => simp [setF]
  | succ n ih =>
    unfold setF
    rw [Int.pow_succ]
    split <;> omega
/-- bit k of a set -/
def bitF (s : Int) (k : Nat) : Bool := s.toNat.testBit k
def popN : Nat → Nat → Nat
  | 0, _ => 0
  | f + 1, x => x % 2 + popN f (x / 2)
def popF (x : Int) : Int := (popN 12 x.toNat : Nat)
theorem setF_bit (n : Nat) (p : Int → Bool) : ∀ k : Nat, bitF (setF n p) k = (decide (k < n) && p k) := by
  induction n with
  | zero => intro k; simp [setF, bitF]
  | succ n ih =>
    intro k
    have hl := setF_lt n p
    unfold setF
    unfold bitF at ih ⊢
    have e2 : (2 : Int) ^ n = ((2 ^ n : Nat) : Int) := pow2 n
    by_cases hp : p n = true
    · rw [if_pos hp]
      have e : (setF n p + 2 ^ n).toNat = 2 ^ n + (setF n p).toNat := by rw [e2] at hl ⊢; omega
      rw [e]
      by_cases hk : k = n
      · subst hk
        rw [Nat.testBit_two_pow_add_eq, ih k]
        simp [hp]
      · by_cases hlt : k < n
        · rw [Nat.testBit_two_pow_add_gt hlt, ih k]
          simp [hlt, Nat.lt_succ_of_lt hlt]
        · have : k > n := by omega
          rw [Nat.testBit_lt_two_pow]
          · simp [show ¬ k < n + 1 by omega]
          · have h1 : (setF n p).toNat < 2 ^ n := by rw [e2] at hl; omega
            have h2 : 2 ^ (n + 1) ≤ 2 ^ k := Nat.pow_le_pow_right (by omega) (by omega)
            rw [Nat.pow_succ] at h2
            omega
    · rw [if_neg hp, Int.add_zero, ih k]
      by_cases hk : k = n
      · subst hk
        simp [Bool.eq_false_iff.mpr hp]
      · have : decide (k < n + 1) = decide (k < n) := by simp; omega
        rw [this]
theorem bt_kern : ∀ a : Nat, a < 1024 → 0 < a → 0 ≤ bAnd a (a - 1) ∧ bAnd a (a - 1) < a ∧ popF a = popF (bAnd a (a - 1)) + 1 := by decide +kernel
theorem popF_le : ∀ a : Nat, a < 1024 → 0 ≤ popF a ∧ popF a ≤ 10 := by decide +kernel
