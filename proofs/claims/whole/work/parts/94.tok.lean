/-! the tape's tokens; the class's reader -/
abbrev Tp : Type := Int × (Int → Int)
def isL (x : Int) : Bool := decide (97 ≤ x ∧ x ≤ 122)
def isD (x : Int) : Bool := decide (48 ≤ x ∧ x ≤ 57)
def isK (x : Int) : Bool := decide (x = 10 ∨ x = 32)
/-- the first place from p on, k of them at most, that is no blank -/
def blF (B : Int → Int) : Nat → Int → Int
  | 0, p => p
  | k + 1, p => if isK (B p) then blF B k (p + 1) else p
/-- how many from p on are of a kind -/
def rnF (c : Int → Bool) (B : Int → Int) : Nat → Int → Nat
  | 0, _ => 0
  | k + 1, p => if c (B p) then rnF c B k (p + 1) + 1 else 0
def atT (t : Tp) (p : Int) : Int := blF t.2 (t.1 - p).toNat p
def lnL (t : Tp) (a : Int) : Nat := rnF isL t.2 (t.1 - a).toNat a
def lnD (t : Tp) (a : Int) : Nat := rnF isD t.2 (t.1 - a).toNat a
def jnB (t : Tp) (k : Int) : Bool := decide (0 ≤ k ∧ k < t.1) && (isL (t.2 k) || isD (t.2 k))
def kdT (t : Tp) (a : Int) : Int := if a < t.1 then (if isL (t.2 a) then 1 else if isD (t.2 a) then 2 else 3) else 0
def lxT (t : Tp) (a : Int) : Int := if kdT t a = 1 then (if jnB t (a - 1) then a else if 6 < lnL t a then a + 6 else -1) else if kdT t a = 2 then (if jnB t (a - 1) then a else if 4 < lnD t a then a + 4 else -1) else -1
def ndT (t : Tp) (a : Int) : Int := if kdT t a = 1 then a + lnL t a else if kdT t a = 2 then a + lnD t a else if kdT t a = 3 then a + 1 else a
def ltT (t : Tp) (a : Int) : Nat → Int := fun i => if i < lnL t a then t.2 (a + i) - 96 else 0
def nuF (B : Int → Int) (a : Int) : Nat → Int
  | 0 => 0
  | i + 1 => 10 * nuF B a i + (B (a + i) - 48)
def vlT (t : Tp) (a : Int) : Int := if kdT t a = 1 then cF (ltT t a) 6 else if kdT t a = 2 then nuF t.2 a (lnD t a) else if kdT t a = 3 then t.2 a else 0
def wlF (v : Int) : Nat → Int
  | 0 => 31
  | k + 1 => if enC.getD k 0 = v then (k : Int) else wlF v k
def wdT (t : Tp) (a : Int) : Int := if kdT t a = 1 then wlF (vlT t a) 32 else 31
/-- the token from place p on: (0, its place), or a fault -/
def nxT (t : Tp) (p : Int) : Int × Int := if lxT t (atT t p) = -1 then (0, atT t p) else (1, lxT t (atT t p))
def avT (t : Tp) (a : Int) : Int × Int := nxT t (ndT t a)
/-- bytes -/
def TpO (t : Tp) : Prop := (0 ≤ t.1 ∧ t.1 ≤ 1600) ∧ ∀ k, 0 ≤ k → k < t.1 → 0 ≤ t.2 k ∧ t.2 k ≤ 255
/-- the reader stands at a token, or has failed -/
def CRd (s : Sg) (t : Tp) (st : Int × Int) : Prop :=
  (st.1 = 0 → s 47 6 = 0 ∧ s 47 7 = -1 ∧ (0 ≤ st.2 ∧ st.2 ≤ t.1) ∧ lxT t st.2 = -1 ∧ s 47 4 = st.2 ∧ s 47 5 = ndT t st.2 ∧ s 47 1 = kdT t st.2 ∧ s 47 2 = vlT t st.2 ∧ s 47 3 = wdT t st.2) ∧
  (st.1 ≠ 0 → s 47 6 = st.1 ∧ s 47 7 = st.2 ∧ s 47 1 = 0 ∧ s 47 3 = 31)
theorem blF_le (B : Int → Int) : ∀ (k : Nat) (p : Int), p ≤ blF B k p ∧ blF B k p ≤ p + k ∧ (blF B k p < p + k → isK (B (blF B k p)) = false) := by
  intro k
  induction k with
  | zero => intro p; exact ⟨Int.le_refl _, by show p ≤ p + 0; omega, fun h => by have : p < p + 0 := h; omega⟩
  | succ k ih =>
    intro p
    unfold blF
    by_cases z : isK (B p) = true
    · rw [if_pos z]
      have := ih (p + 1)
      refine ⟨by omega, by omega, fun h => this.2.2 (by omega)⟩
    · rw [if_neg z]
      exact ⟨Int.le_refl _, by omega, fun _ => Bool.eq_false_iff.mpr z⟩
theorem at_le {t : Tp} {p : Int} (h : p ≤ t.1) : p ≤ atT t p ∧ atT t p ≤ t.1 := by
  have := blF_le t.2 (t.1 - p).toNat p
  unfold atT
  omega
theorem rn_spec (c : Int → Bool) (B : Int → Int) : ∀ (k : Nat) (p : Int), rnF c B k p ≤ k ∧ (∀ i : Nat, i < rnF c B k p → c (B (p + i)) = true) ∧ (rnF c B k p < k → c (B (p + rnF c B k p)) = false) := by
  intro k
  induction k with
  | zero => intro p; exact ⟨Nat.le_refl _, fun i hi => absurd hi (by show ¬ i < 0; omega), fun h => absurd h (by show ¬ (0 : Nat) < 0; omega)⟩
  | succ k ih =>
    intro p
    unfold rnF
    by_cases z : c (B p) = true
    · rw [if_pos z]
      obtain ⟨i1, i2, i3⟩ := ih (p + 1)
      refine ⟨by omega, fun i hi => ?_, fun h => ?_⟩
      · cases i with
        | zero => rw [show p + ((0 : Nat) : Int) = p by omega]; exact z
        | succ i =>
          have := i2 i (by omega)
          rw [show p + ((i + 1 : Nat) : Int) = p + 1 + (i : Int) by omega]
          exact this
      · have := i3 (by omega)
        rw [show p + ((rnF c B k (p + 1) + 1 : Nat) : Int) = p + 1 + (rnF c B k (p + 1) : Int) by omega]
        exact this
    · rw [if_neg z]
      exact ⟨by omega, fun i hi => by omega, fun _ => by rw [show p + ((0 : Nat) : Int) = p by omega]; exact Bool.eq_false_iff.mpr z⟩
theorem lnL_spec {t : Tp} {a : Int} (h : a ≤ t.1) : a + lnL t a ≤ t.1 ∧ (∀ i : Nat, i < lnL t a → isL (t.2 (a + i)) = true) ∧ (a + lnL t a < t.1 → isL (t.2 (a + lnL t a)) = false) := by
  have := rn_spec isL t.2 (t.1 - a).toNat a
  unfold lnL
  refine ⟨by omega, this.2.1, fun h2 => this.2.2 (by omega)⟩
theorem lnD_spec {t : Tp} {a : Int} (h : a ≤ t.1) : a + lnD t a ≤ t.1 ∧ (∀ i : Nat, i < lnD t a → isD (t.2 (a + i)) = true) ∧ (a + lnD t a < t.1 → isD (t.2 (a + lnD t a)) = false) := by
  have := rn_spec isD t.2 (t.1 - a).toNat a
  unfold lnD
  refine ⟨by omega, this.2.1, fun h2 => this.2.2 (by omega)⟩
theorem ln_pos {c : Int → Bool} {B : Int → Int} {k : Nat} {p : Int} (hk : 0 < k) (hc : c (B p) = true) : 1 ≤ rnF c B k p := by
  obtain ⟨k, rfl⟩ : ∃ j, k = j + 1 := ⟨k - 1, by omega⟩
  unfold rnF
  rw [if_pos hc]
  omega
theorem isL_b {x : Int} (h : isL x = true) : 97 ≤ x ∧ x ≤ 122 := of_decide_eq_true h
theorem isD_b {x : Int} (h : isD x = true) : 48 ≤ x ∧ x ≤ 57 := of_decide_eq_true h
theorem kd1 {t : Tp} {a : Int} (h : kdT t a = 1) : a < t.1 ∧ isL (t.2 a) = true := by
  unfold kdT at h
  split at h
  · rename_i z
    split at h
    · rename_i y; exact ⟨z, y⟩
    · split at h <;> omega
  · omega
theorem kd2 {t : Tp} {a : Int} (h : kdT t a = 2) : a < t.1 ∧ isD (t.2 a) = true := by
  unfold kdT at h
  split at h
  · rename_i z
    split at h
    · omega
    · split at h
      · rename_i y; exact ⟨z, y⟩
      · omega
  · omega
theorem kd3 {t : Tp} {a : Int} (h : kdT t a = 3) : a < t.1 := by
  unfold kdT at h
  split at h
  · rename_i z; exact z
  · omega
theorem kd_in (t : Tp) (a : Int) : kdT t a = 0 ∨ kdT t a = 1 ∨ kdT t a = 2 ∨ kdT t a = 3 := by
  unfold kdT
  split
  · split
    · exact Or.inr (Or.inl rfl)
    · split
      · exact Or.inr (Or.inr (Or.inl rfl))
      · exact Or.inr (Or.inr (Or.inr rfl))
  · exact Or.inl rfl
theorem nd_le {t : Tp} {a : Int} (h : a ≤ t.1) : a ≤ ndT t a ∧ ndT t a ≤ t.1 ∧ (kdT t a ≠ 0 → a < ndT t a) := by
  unfold ndT
  by_cases h1 : kdT t a = 1
  · have k := kd1 h1
    have l := lnL_spec h
    have p : 1 ≤ lnL t a := ln_pos (by omega) k.2
    rw [if_pos h1]
    omega
  · by_cases h2 : kdT t a = 2
    · have k := kd2 h2
      have l := lnD_spec h
      have p : 1 ≤ lnD t a := ln_pos (by omega) k.2
      rw [if_neg h1, if_pos h2]
      omega
    · by_cases h3 : kdT t a = 3
      · have k := kd3 h3
        rw [if_neg h1, if_neg h2, if_pos h3]
        omega
      · rw [if_neg h1, if_neg h2, if_neg h3]
        have := kd_in t a
        omega
/-- letters of a word of at most six -/
theorem lt_isN {t : Tp} {a : Int} (ht : TpO t) (a0 : 0 ≤ a) (h1 : kdT t a = 1) (hl : lnL t a ≤ 6) : isN (ltT t a) (lnL t a) := by
  have k := kd1 h1
  have l := lnL_spec (t := t) (a := a) (by omega)
  refine ⟨⟨ln_pos (by omega) k.2, hl⟩, fun i hi => ?_, fun i hi => ?_⟩
  · have := isL_b (l.2.1 i hi)
    unfold ltT
    rw [if_pos hi]
    omega
  · unfold ltT
    rw [if_neg (by omega)]
theorem cF_lt {l : Nat → Int} (h : ∀ i, 0 ≤ l i ∧ l i ≤ 26) : ∀ n : Nat, n ≤ 6 → 0 ≤ cF l n ∧ cF l n < 387420489 ∧ (n ≤ 5 → cF l n < 14348907) := by
  intro n hn
  have b0 := h 0
  have b1 := h 1
  have b2 := h 2
  have b3 := h 3
  have b4 := h 4
  have b5 := h 5
  rcases (show n = 0 ∨ n = 1 ∨ n = 2 ∨ n = 3 ∨ n = 4 ∨ n = 5 ∨ n = 6 by omega) with z | z | z | z | z | z | z <;> subst z <;> simp only [cF] <;> omega
theorem nu_bd {B : Int → Int} {a : Int} : ∀ n : Nat, n ≤ 4 → (∀ i : Nat, i < n → 48 ≤ B (a + i) ∧ B (a + i) ≤ 57) → 0 ≤ nuF B a n ∧ nuF B a n < 10 ^ n := by
  intro n
  induction n with
  | zero => intro _ _; exact ⟨Int.le_refl 0, by show (0 : Int) < 1; decide⟩
  | succ n ih =>
    intro hn h
    have i := ih (by omega) (fun i hi => h i (by omega))
    have b := h n (by omega)
    unfold nuF
    rw [Int.pow_succ]
    omega
section TOK
variable {g : GT} {e : Nat} {s : Sg} {t : Tp} {p : Int}
def Fz (s s2 : Sg) : Prop := Fr (fun o => o = 47) s s2
theorem Fz.u {k v : Int} : Fz s (ups s 47 k v) := Fr.up rfl
theorem Fz.tr {s2 s3 : Sg} (h : Fz s s2) (h2 : Fz s2 s3) : Fz s s3 := Fr.tr h h2
theorem C_isL {x : Int} : Mw g (e + 1) M_X6_isLetter [(0, x)] s (Ex (if isL x then 1 else 0) s) := by
  refine S_X6_isLetter (fun _ => ⟨fun q => ⟨?_, rfl⟩, fun q => ⟨fun q2 => ⟨?_, rfl⟩, fun q2 => ⟨?_, rfl⟩⟩⟩)
  · rw [if_neg (fun z => by have := isL_b z; omega)]
  · rw [if_neg (fun z => by have := isL_b z; omega)]
  · rw [if_pos (show isL x = true from decide_eq_true ⟨by omega, by omega⟩)]
theorem C_isD {x : Int} : Mw g (e + 1) M_X6_isDigit [(0, x)] s (Ex (if isD x then 1 else 0) s) := by
  refine S_X6_isDigit (fun _ => ⟨fun q => ⟨?_, rfl⟩, fun q => ⟨fun q2 => ⟨?_, rfl⟩, fun q2 => ⟨?_, rfl⟩⟩⟩)
  · rw [if_neg (fun z => by have := isD_b z; omega)]
  · rw [if_neg (fun z => by have := isD_b z; omega)]
  · rw [if_pos (show isD x = true from decide_eq_true ⟨by omega, by omega⟩)]
theorem C_isK {x : Int} : Mw g (e + 1) M_X6_isBlank [(0, x)] s (Ex (if isK x then 1 else 0) s) := by
  refine S_X6_isBlank (fun _ => ⟨fun q => ⟨?_, rfl⟩, fun q => ⟨fun q2 => ⟨?_, rfl⟩, fun q2 => ⟨?_, rfl⟩⟩⟩)
  · rw [if_pos (show isK x = true from decide_eq_true (Or.inl q))]
  · rw [if_neg (fun z => by have : x = 10 ∨ x = 32 := of_decide_eq_true z; omega)]
  · rw [if_pos (show isK x = true from decide_eq_true (Or.inr q2))]
theorem CTp.fz {s2 : Sg} (h : CTp s t.1 t.2) (hf : Fz s s2) : CTp s2 t.1 t.2 := h.fr hf (by decide) (by decide)
theorem CTp.ok (h : CTp s t.1 t.2) : TpO t := ⟨h.2.1, fun k k0 k1 => (h.2.2 k k0 k1).2⟩
theorem C_joins {k : Int} (ht : CTp s t.1 t.2) : Mw g (e + 2) M_X6_joins [(15, 47), (0, k)] s (Ex (if jnB t k then 1 else 0) s) := by
  refine S_X6_joins (fun _ => ?_)
  by_cases z : 0 ≤ k ∧ k < t.1
  · have ej : jnB t k = (isL (t.2 k) || isD (t.2 k)) := by unfold jnB; rw [decide_eq_true z, Bool.true_and]
    rw [ej]
    refine Mw.ex (C_byteAt ht z.1 z.2) (Mw.ex C_isL ⟨fun q => ⟨?_, rfl⟩, fun q => Mw.ex (C_byteAt ht z.1 z.2) (Mw.ex C_isD ⟨fun q2 => ⟨?_, rfl⟩, fun q2 => ⟨?_, rfl⟩⟩)⟩)
    · have : isL (t.2 k) = true := Classical.byContradiction (fun y => q (if_neg y))
      rw [this]; rfl
    · have a1 : ¬ isL (t.2 k) = true := fun y => by rw [if_pos y] at q; omega
      have a2 : ¬ isD (t.2 k) = true := fun y => by rw [if_pos y] at q2; omega
      rw [Bool.eq_false_iff.mpr a1, Bool.eq_false_iff.mpr a2]; rfl
    · have a2 : isD (t.2 k) = true := Classical.byContradiction (fun y => q2 (if_neg y))
      rw [a2, Bool.or_true]; rfl
  · have ej : jnB t k = false := by unfold jnB; rw [decide_eq_false z, Bool.false_and]
    have by1 : Mw g (e + 1) M_X8_byteAt [(17, 2), (0, k)] s (Ex (-1) s) := S_X8_byteAt (fun _ => ⟨fun _ => ⟨rfl, rfl⟩, fun q => ⟨fun _ => ⟨rfl, rfl⟩, fun q2 => by rw [ht.1] at q2; exact absurd ⟨by omega, by omega⟩ z⟩⟩)
    rw [ej]
    refine Mw.ex by1 (Mw.ex C_isL ⟨fun q => absurd (by decide) q, fun _ => Mw.ex by1 (Mw.ex C_isD ⟨fun _ => ⟨rfl, rfl⟩, fun q => absurd (by decide) q⟩)⟩)
theorem C_goesOn (ht : CTp s t.1 t.2) (p0 : 0 ≤ p) (p1 : p ≤ t.1) (hp : s 47 5 = p) : Mw g (e + 2) M_X6_goesOn [(15, 47)] s (fun r s' => r = (if atT t p < t.1 then 1 else 0) ∧ s' 47 5 = atT t p ∧ (∀ k, k ≠ 5 → s' 47 k = s 47 k) ∧ Fz s s') := by
  have lp : ∀ (k : Nat) (p : Int) (s0 : Sg), 0 ≤ p → p + k = t.1 → s0 47 5 = p → CTp s0 t.1 t.2 → (∀ k, k ≠ 5 → s0 47 k = s 47 k) → Fz s s0 → P_X6_goesOn_0 g (e + 1) (fun r s' => r = (if blF t.2 k p < t.1 then 1 else 0) ∧ s' 47 5 = blF t.2 k p ∧ (∀ k, k ≠ 5 → s' 47 k = s 47 k) ∧ Fz s s') s0 := by
    intro k
    induction k with
    | zero =>
      intro p s0 p0 hk h5 h2 hk5 hf
      have e0 : blF t.2 0 p = p := rfl
      refine S_X6_goesOn_0 ?_
      rw [h2.1, h5]
      refine ⟨fun _ => S_X6_goesOn_44 ?_, fun q => absurd (by omega) q⟩
      rw [h2.1, h5, e0]
      exact ⟨fun q => ⟨by rw [if_neg (by omega)], rfl, hk5, hf⟩, fun q => absurd (by omega) q⟩
    | succ k ih =>
      intro p s0 p0 hk h5 h2 hk5 hf
      refine S_X6_goesOn_0 ?_
      rw [h2.1, h5]
      refine ⟨fun q => absurd q (by omega), fun _ => Mw.ex (C_byteAt h2 p0 (by omega)) (Mw.ex C_isK ⟨fun q => S_X6_goesOn_44 ?_, fun q s5 e5 => ?_⟩)⟩
      · have z : ¬ isK (t.2 p) = true := fun y => by rw [if_pos y] at q; omega
        have e1 : blF t.2 (k + 1) p = p := by unfold blF; rw [if_neg z]
        rw [h2.1, h5, e1]
        exact ⟨fun q => absurd q (by omega), fun _ => ⟨by rw [if_pos (by omega)], rfl, hk5, hf⟩⟩
      · have z : isK (t.2 p) = true := Classical.byContradiction (fun y => q (if_neg y))
        have e1 : blF t.2 (k + 1) p = blF t.2 k (p + 1) := by
          show (if isK (t.2 p) then blF t.2 k (p + 1) else p) = _
          rw [if_pos z]
        have b := h2.2.1
        have f5 : Fz s0 s5 := by rw [e5]; exact Fz.u
        rw [h5, w32_of (show _ ≤ p + 1 by omega) (by omega)] at e5
        rw [e1]
        exact ih (p + 1) s5 (by omega) (by omega) (by rw [e5, ups_eq]) (h2.fz f5) (fun k hk => by rw [e5, ups_k _ hk]; exact hk5 k hk) (hf.tr f5)
  refine S_X6_goesOn ?_
  exact lp (t.1 - p).toNat p s p0 (by omega) hp ht (fun _ _ => rfl) Fr.rf
theorem C_fail {k x : Int} : Mw g (e + 1) M_X6_fail [(15, 47), (0, k), (0, x)] s (fun _ s' => (s 47 6 = 0 → s' 47 6 = k ∧ s' 47 7 = x) ∧ (s 47 6 ≠ 0 → s' 47 6 = s 47 6 ∧ s' 47 7 = s 47 7) ∧ s' 47 1 = 0 ∧ s' 47 3 = 31 ∧ Fz s s') := by
  refine S_X6_fail (fun _ _ => ⟨fun q s1 e1 s2 e2 => ?_, fun q s3 e3 s4 e4 s5 e5 s6 e6 => ?_⟩)
  · refine ⟨fun z => absurd z q, fun _ => ⟨?_, ?_⟩, ?_, ?_, ?_⟩
    · rw [e2, ups_k _ (by decide), e1, ups_k _ (by decide)]
    · rw [e2, ups_k _ (by decide), e1, ups_k _ (by decide)]
    · rw [e2, ups_k _ (by decide), e1, ups_eq]
    · rw [e2, ups_eq]
    · rw [e2, e1]; exact Fz.u.tr Fz.u
  · refine ⟨fun _ => ⟨?_, ?_⟩, fun z => absurd q z, ?_, ?_, ?_⟩
    · rw [e6, ups_k _ (by decide), e5, ups_k _ (by decide), e4, ups_k _ (by decide), e3, ups_eq]
    · rw [e6, ups_k _ (by decide), e5, ups_k _ (by decide), e4, ups_eq]
    · rw [e6, ups_k _ (by decide), e5, ups_eq]
    · rw [e6, ups_eq]
    · rw [e6, e5, e4, e3]; exact ((Fz.u.tr Fz.u).tr Fz.u).tr Fz.u
theorem C_failHere {k : Int} : Mw g (e + 2) M_X6_failHere [(15, 47), (0, k)] s (fun _ s' => (s 47 6 = 0 → s' 47 6 = k ∧ s' 47 7 = s 47 4) ∧ (s 47 6 ≠ 0 → s' 47 6 = s 47 6 ∧ s' 47 7 = s 47 7) ∧ s' 47 1 = 0 ∧ s' 47 3 = 31 ∧ Fz s s') :=
  S_X6_failHere (fun _ => C_fail.imp (fun _ _ h => h))
theorem rw_136 {Q : Int → Sg → Prop} {v : Int} : ∀ (j k : Nat) (s0 : Sg), k + j = 32 → s0 47 2 = v → s0 47 3 = wlF v k → (∀ i, i ≠ 3 → s0 47 i = s 47 i) → Fz s s0 → (∀ s', s' 47 3 = wlF v 32 → (∀ i, i ≠ 3 → s' 47 i = s 47 i) → Fz s s' → Q 0 s') → P_X6_readWord_136 g e Q s0 k := by
  intro j
  induction j with
  | zero =>
    intro k s0 hk h2 h3 hi hf hq
    have : k = 32 := by omega
    subst this
    exact S_X6_readWord_136 ⟨fun _ => hq s0 h3 hi hf, fun q => absurd (by decide) q⟩
  | succ j ih =>
    intro k s0 hk h2 h3 hi hf hq
    have ek : wlF v (k + 1) = if enC.getD k 0 = v then (k : Int) else wlF v k := rfl
    refine S_X6_readWord_136 ⟨fun q => absurd q (by omega), fun _ => ⟨⟨by omega, by omega⟩, ?_⟩⟩
    rw [h2, Int.toNat_natCast, w32_of (show _ ≤ (k : Int) + 1 by omega) (by omega)]
    refine ⟨fun q => ih (k + 1) s0 (by omega) h2 (by rw [ek, if_neg q]; exact h3) hi hf hq, fun q => ⟨⟨by omega, by omega⟩, fun s1 e1 => ih (k + 1) s1 (by omega) (by rw [e1, ups_k _ (by decide)]; exact h2) (by rw [e1, ups_eq, ek, if_pos q]) (fun i hi2 => by rw [e1, ups_k _ hi2]; exact hi i hi2) (hf.tr (by rw [e1]; exact Fz.u)) hq⟩⟩
theorem rw_111 {Q : Int → Sg → Prop} {l : Nat → Int} (hl : ∀ i, 0 ≤ l i ∧ l i ≤ 26) : ∀ (j k : Nat) (s0 : Sg), k + j = 6 → (∀ i, k ≤ i → l i = 0) → s0 47 2 = cF l k → (∀ i, i ≠ 2 → s0 47 i = s 47 i) → Fz s s0 → (∀ s', s' 47 2 = cF l 6 → (∀ i, i ≠ 2 → s' 47 i = s 47 i) → Fz s s' → P_X6_readWord_136 g e Q s' 0) → P_X6_readWord_111 g e Q s0 k := by
  intro j
  induction j with
  | zero =>
    intro k s0 hk h0 h2 hi hf hq
    have : k = 6 := by omega
    subst this
    exact S_X6_readWord_111 ⟨fun _ => hq s0 h2 hi hf, fun q => absurd (by decide) q⟩
  | succ j ih =>
    intro k s0 hk h0 h2 hi hf hq
    have c := cF_lt hl k (by omega)
    refine S_X6_readWord_111 ⟨fun q => absurd q (by omega), fun _ s1 e1 => ?_⟩
    rw [h2, w32_of (by have := c.2.2 (by omega); omega) (by have := c.2.2 (by omega); omega)] at e1
    rw [w32_of (show _ ≤ (k : Int) + 1 by omega) (by omega)]
    refine ih (k + 1) s1 (by omega) (fun i hi2 => h0 i (by omega)) ?_ (fun i hi2 => by rw [e1, ups_k _ hi2]; exact hi i hi2) (hf.tr (by rw [e1]; exact Fz.u)) hq
    rw [e1, ups_eq]
    show cF l k * 27 = 27 * cF l k + l k
    rw [h0 k (Nat.le_refl k)]
    omega
theorem rw_5 {Q : Int → Sg → Prop} {a : Int} (ht : TpO t) (a0 : 0 ≤ a) (h1 : kdT t a = 1) (h6 : s 47 6 = 0)
    (hq : ∀ s', Fz s s' → (lnL t a ≤ 6 → s' 47 2 = cF (ltT t a) 6 ∧ s' 47 3 = wlF (cF (ltT t a) 6) 32 ∧ s' 47 5 = a + lnL t a ∧ ∀ k, k ≠ 2 → k ≠ 3 → k ≠ 5 → s' 47 k = s 47 k) → (6 < lnL t a → s' 47 6 = 1 ∧ s' 47 7 = a + 6 ∧ s' 47 1 = 0 ∧ s' 47 3 = 31) → Q 0 s') :
    ∀ (j i : Nat) (s0 : Sg), i ≤ 6 → i ≤ lnL t a → i + j = lnL t a → CTp s0 t.1 t.2 → s0 47 4 = a → s0 47 5 = a + i → s0 47 2 = cF (ltT t a) i → s0 47 3 = 31 → (∀ k, k ≠ 2 → k ≠ 5 → s0 47 k = s 47 k) → Fz s s0 → P_X6_readWord_5 g (e + 1) Q s0 := by
  have k1 := kd1 h1
  have sp := lnL_spec (t := t) (a := a) (by omega)
  have lb : ∀ i, 0 ≤ ltT t a i ∧ ltT t a i ≤ 26 := fun i => by
    unfold ltT
    by_cases z : i < lnL t a
    · rw [if_pos z]; have := isL_b (sp.2.1 i z); omega
    · rw [if_neg z]; omega
  have fin : ∀ (s0 : Sg), lnL t a ≤ 6 → s0 47 5 = a + lnL t a → s0 47 4 = a → s0 47 2 = cF (ltT t a) (lnL t a) → s0 47 3 = 31 → (∀ k, k ≠ 2 → k ≠ 5 → s0 47 k = s 47 k) → Fz s s0 → P_X6_readWord_111 g (e + 1) Q s0 (w32 ((s0 47 5) - (s0 47 4))) := fun s0 l6 h5 h4 h2 h3 hk hf => by
    rw [h5, h4, show a + (lnL t a : Int) - a = (lnL t a : Int) by omega, w32_of (by omega) (by omega)]
    refine rw_111 (s := s0) lb (6 - lnL t a) (lnL t a) s0 (by omega) (fun i hi => by unfold ltT; rw [if_neg (by omega)]) h2 (fun _ _ => rfl) Fr.rf (fun s1 g2 gi gf => ?_)
    refine rw_136 (s := s1) (v := cF (ltT t a) 6) 32 0 s1 (by decide) g2 (by rw [gi 3 (by decide)]; exact h3) (fun _ _ => rfl) Fr.rf (fun s2 m3 mi mf => ?_)
    refine hq s2 ((hf.tr gf).tr mf) (fun _ => ⟨by rw [mi 2 (by decide)]; exact g2, m3, by rw [mi 5 (by decide), gi 5 (by decide)]; exact h5, fun k k2 k3 k5 => ?_⟩) (fun z => by omega)
    rw [mi k k3, gi k k2]
    exact hk k k2 k5
  intro j
  induction j with
  | zero =>
    intro i s0 i6 iL hi h2 h4 h5 hv h3 hk hf
    have ei : i = lnL t a := by omega
    subst ei
    refine S_X6_readWord_5 ?_
    rw [h2.1]
    refine ⟨fun _ => fin s0 i6 h5 h4 hv h3 hk hf, fun q => ?_⟩
    have q' : a + (lnL t a : Int) < t.1 := by omega
    have nl := sp.2.2 q'
    rw [h5]
    refine Mw.ex (C_byteAt h2 (by omega) q') (Mw.ex C_isL ⟨fun _ => ?_, fun z => ?_⟩)
    · exact fin s0 i6 h5 h4 hv h3 hk hf
    · rw [nl] at z; exact absurd rfl z
  | succ j ih =>
    intro i s0 i6 iL hi h2 h4 h5 hv h3 hk hf
    have il : i < lnL t a := by omega
    have lt := sp.2.1 i il
    have b := isL_b lt
    have n16 := ht.1
    refine S_X6_readWord_5 ?_
    rw [h2.1, h5]
    refine ⟨fun q => absurd q (by omega), fun _ => Mw.ex (C_byteAt h2 (by omega) (by omega)) (Mw.ex C_isL ⟨fun z => by rw [if_pos lt] at z; omega, fun _ => ?_⟩)⟩
    rw [h5, h4, hv, show a + (i : Int) - a = (i : Int) by omega, w32_of (show _ ≤ (i : Int) by omega) (by omega)]
    refine ⟨fun z => Mw.ex (C_byteAt h2 (by omega) (by omega)) (fun s7 e7 s8 e8 => ?_), fun z => (C_fail).imp (fun _ s10 h10 => ?_)⟩
    · have c := cF_lt lb i (by omega)
      have c5 := c.2.2 (by omega)
      have el : ltT t a i = t.2 (a + i) - 96 := by unfold ltT; rw [if_pos il]
      rw [w32_of (show _ ≤ cF (ltT t a) i * 27 by omega) (by omega), w32_of (show _ ≤ cF (ltT t a) i * 27 + t.2 (a + i) by omega) (by omega), w32_of (show _ ≤ cF (ltT t a) i * 27 + t.2 (a + i) - 97 by omega) (by omega), w32_of (by omega) (by omega)] at e7
      have e75 : s7 47 5 = a + i := by rw [e7, ups_k _ (by decide)]; exact h5
      rw [e75, w32_of (show _ ≤ a + (i : Int) + 1 by omega) (by omega)] at e8
      have f8 : Fz s0 s8 := by rw [e8, e7]; exact Fz.u.tr Fz.u
      refine ih (i + 1) s8 (by omega) (by omega) (by omega) (h2.fz f8) ?_ ?_ ?_ ?_ (fun k k2 k5 => ?_) (hf.tr f8)
      · rw [e8, ups_k _ (by decide), e7, ups_k _ (by decide)]; exact h4
      · rw [e8, ups_eq]; omega
      · rw [e8, ups_k _ (by decide), e7, ups_eq]
        show cF (ltT t a) i * 27 + t.2 (a + i) - 97 + 1 = 27 * cF (ltT t a) i + ltT t a i
        rw [el]
        omega
      · rw [e8, ups_k _ (by decide), e7, ups_k _ (by decide)]; exact h3
      · rw [e8, ups_k _ k5, e7, ups_k _ k2]; exact hk k k2 k5
    · have i6' : (i : Int) = 6 := by omega
      have e6 : s0 47 6 = 0 := by rw [hk 6 (by decide) (by decide)]; exact h6
      obtain ⟨g1, g2, g3, g4, g5⟩ := h10
      have := g1 e6
      refine hq s10 (hf.tr g5) (fun z => by omega) (fun _ => ⟨this.1, by rw [this.2]; omega, g3, g4⟩)
theorem rn_5 {Q : Int → Sg → Prop} {a : Int} (ht : TpO t) (a0 : 0 ≤ a) (h1 : kdT t a = 2) (h6 : s 47 6 = 0)
    (hq : ∀ s', Fz s s' → (lnD t a ≤ 4 → s' 47 2 = nuF t.2 a (lnD t a) ∧ s' 47 5 = a + lnD t a ∧ ∀ k, k ≠ 2 → k ≠ 5 → s' 47 k = s 47 k) → (4 < lnD t a → s' 47 6 = 1 ∧ s' 47 7 = a + 4 ∧ s' 47 1 = 0 ∧ s' 47 3 = 31) → Q 0 s') :
    ∀ (j i : Nat) (s0 : Sg), i ≤ 4 → i ≤ lnD t a → i + j = lnD t a → CTp s0 t.1 t.2 → s0 47 4 = a → s0 47 5 = a + i → s0 47 2 = nuF t.2 a i → (∀ k, k ≠ 2 → k ≠ 5 → s0 47 k = s 47 k) → Fz s s0 → P_X6_readNumber_5 g (e + 1) Q s0 := by
  have k1 := kd2 h1
  have sp := lnD_spec (t := t) (a := a) (by omega)
  intro j
  induction j with
  | zero =>
    intro i s0 i6 iL hi h2 h4 h5 hv hk hf
    have ei : i = lnD t a := by omega
    subst ei
    have fin : Q 0 s0 := hq s0 hf (fun _ => ⟨hv, h5, hk⟩) (fun z => by omega)
    refine S_X6_readNumber_5 ?_
    rw [h2.1]
    refine ⟨fun _ => fin, fun q => ?_⟩
    have q' : a + (lnD t a : Int) < t.1 := by omega
    have nl := sp.2.2 q'
    rw [h5]
    refine Mw.ex (C_byteAt h2 (by omega) q') (Mw.ex C_isD ⟨fun _ => fin, fun z => ?_⟩)
    rw [nl] at z; exact absurd rfl z
  | succ j ih =>
    intro i s0 i6 iL hi h2 h4 h5 hv hk hf
    have il : i < lnD t a := by omega
    have lt := sp.2.1 i il
    have b := isD_b lt
    have n16 := ht.1
    refine S_X6_readNumber_5 ?_
    rw [h2.1, h5]
    refine ⟨fun q => absurd q (by omega), fun _ => Mw.ex (C_byteAt h2 (by omega) (by omega)) (Mw.ex C_isD ⟨fun z => by rw [if_pos lt] at z; omega, fun _ => ?_⟩)⟩
    rw [h5, h4, hv, show a + (i : Int) - a = (i : Int) by omega, w32_of (show _ ≤ (i : Int) by omega) (by omega)]
    refine ⟨fun z => Mw.ex (C_byteAt h2 (by omega) (by omega)) (fun s7 e7 s8 e8 => ?_), fun z => (C_fail).imp (fun _ s10 h10 => ?_)⟩
    · have c := nu_bd (B := t.2) (a := a) i (by omega) (fun k hk => isD_b (sp.2.1 k (by omega)))
      have c4 : nuF t.2 a i < 10000 := by
        have : (10 : Int) ^ i ≤ 10 ^ 4 := by
          rcases (show i = 0 ∨ i = 1 ∨ i = 2 ∨ i = 3 ∨ i = 4 by omega) with z | z | z | z | z <;> rw [z] <;> decide
        have t4 : (10 : Int) ^ 4 = 10000 := by decide
        omega
      rw [w32_of (show _ ≤ nuF t.2 a i * 10 by omega) (by omega), w32_of (show _ ≤ nuF t.2 a i * 10 + t.2 (a + i) by omega) (by omega), w32_of (show _ ≤ nuF t.2 a i * 10 + t.2 (a + i) - 48 by omega) (by omega)] at e7
      have e75 : s7 47 5 = a + i := by rw [e7, ups_k _ (by decide)]; exact h5
      rw [e75, w32_of (show _ ≤ a + (i : Int) + 1 by omega) (by omega)] at e8
      have f8 : Fz s0 s8 := by rw [e8, e7]; exact Fz.u.tr Fz.u
      refine ih (i + 1) s8 (by omega) (by omega) (by omega) (h2.fz f8) ?_ ?_ ?_ (fun k k2 k5 => ?_) (hf.tr f8)
      · rw [e8, ups_k _ (by decide), e7, ups_k _ (by decide)]; exact h4
      · rw [e8, ups_eq]; omega
      · rw [e8, ups_k _ (by decide), e7, ups_eq]
        show nuF t.2 a i * 10 + t.2 (a + i) - 48 = 10 * nuF t.2 a i + (t.2 (a + i) - 48)
        omega
      · rw [e8, ups_k _ k5, e7, ups_k _ k2]; exact hk k k2 k5
    · have e6 : s0 47 6 = 0 := by rw [hk 6 (by decide) (by decide)]; exact h6
      obtain ⟨g1, g2, g3, g4, g5⟩ := h10
      have := g1 e6
      refine hq s10 (hf.tr g5) (fun z => by omega) (fun _ => ⟨this.1, by rw [this.2]; omega, g3, g4⟩)
theorem C_advance (ht : CTp s t.1 t.2) (h6 : s 47 6 = 0) (h7 : s 47 7 = -1) (h5 : s 47 5 = p) (p0 : 0 ≤ p) (p1 : p ≤ t.1) : Mw g (e + 3) M_X6_advance [(15, 47)] s (fun _ s' => CRd s' t (nxT t p) ∧ Fz s s') := by
  have hO := ht.ok
  have al := at_le p1
  have n16 := hO.1
  refine S_X6_advance ⟨fun _ => (C_goesOn ht p0 p1 h5).imp (fun r1 s2 h2 s3 e3 s4 e4 s5 e5 => ?_), fun q => absurd h6 q⟩
  obtain ⟨hr, g5, gk, gf⟩ := h2
  rw [g5] at e3
  generalize ha : atT t p = a at *
  have f5 : Fz s s5 := gf.tr (by rw [e5, e4, e3]; exact (Fz.u.tr Fz.u).tr Fz.u)
  have t5 := ht.fz f5
  have v4 : s5 47 4 = a := by rw [e5, ups_k _ (by decide), e4, ups_k _ (by decide), e3, ups_eq]
  have v5 : s5 47 5 = a := by rw [e5, ups_k _ (by decide), e4, ups_k _ (by decide), e3, ups_k _ (by decide)]; exact g5
  have v2 : s5 47 2 = 0 := by rw [e5, ups_k _ (by decide), e4, ups_eq]
  have v3 : s5 47 3 = 31 := by rw [e5, ups_eq]
  have v6 : s5 47 6 = 0 := by rw [e5, ups_k _ (by decide), e4, ups_k _ (by decide), e3, ups_k _ (by decide), gk 6 (by decide)]; exact h6
  have v7 : s5 47 7 = -1 := by rw [e5, ups_k _ (by decide), e4, ups_k _ (by decide), e3, ups_k _ (by decide), gk 7 (by decide)]; exact h7
  unfold nxT
  rw [ha]
  have bad : ∀ (s' : Sg) (x : Int), lxT t a = x → x ≠ -1 → s' 47 6 = 1 → s' 47 7 = x → s' 47 1 = 0 → s' 47 3 = 31 → CRd s' t (if lxT t a = -1 then (0, a) else (1, lxT t a)) := fun s' x hx hn b6 b7 b1 b3 => by
    rw [hx, if_neg hn]
    exact ⟨fun z => absurd z (by show ¬ ((1 : Int) = 0); decide), fun _ => ⟨b6, b7, b1, b3⟩⟩
  have good : ∀ s' : Sg, lxT t a = -1 → s' 47 6 = 0 → s' 47 7 = -1 → s' 47 4 = a → s' 47 5 = ndT t a → s' 47 1 = kdT t a → s' 47 2 = vlT t a → s' 47 3 = wdT t a → CRd s' t (if lxT t a = -1 then (0, a) else (1, lxT t a)) := fun s' hx b6 b7 b4 b5 b1 b2 b3 => by
    rw [if_pos hx]
    exact ⟨fun _ => ⟨b6, b7, ⟨by show 0 ≤ a; omega, al.2⟩, hx, b4, b5, b1, b2, b3⟩, fun z => absurd rfl z⟩
  refine ⟨fun q => ?_, fun q s12 e12 => ⟨?_, f5.tr (by rw [e12]; exact Fz.u)⟩⟩
  · have an : a < t.1 := Classical.byContradiction (fun z => q (by rw [hr]; exact if_neg z))
    have h77 : jnB t (a - 1) = false ∨ (isL (t.2 a) = false ∧ isD (t.2 a) = false) → P_X6_advance_77 g (e + 2) (fun _ s' => CRd s' t (if lxT t a = -1 then (0, a) else (1, lxT t a)) ∧ Fz s s') s5 := fun hj => by
      refine S_X6_advance_77 ?_
      rw [v5]
      refine Mw.ex (C_byteAt t5 (by omega) an) (Mw.ex C_isL ⟨fun z => Mw.ex (by rw [v5]; exact C_byteAt t5 (by omega) an) (Mw.ex C_isD ⟨fun y s9 e9 => ?_, fun y => S_X6_readNumber (fun s1 e1 => ?_)⟩), fun z => S_X6_readWord (fun s1 e1 => ?_)⟩)
      · have nl : ¬ isL (t.2 a) = true := fun x => by rw [if_pos x] at z; omega
        have nd : ¬ isD (t.2 a) = true := fun x => by rw [if_pos x] at y; omega
        have k3 : kdT t a = 3 := by unfold kdT; rw [if_pos an, if_neg nl, if_neg nd]
        have f9 : Fz s5 s9 := by rw [e9]; exact Fz.u
        have v59 : s9 47 5 = a := by rw [e9, ups_k _ (by decide)]; exact v5
        rw [v59]
        refine Mw.ex (C_byteAt (t5.fz f9) (by omega) an) (fun s12 e12 s13 e13 => ?_)
        have v512 : s12 47 5 = a := by rw [e12, ups_k _ (by decide)]; exact v59
        rw [v512, w32_of (by omega) (by omega)] at e13
        refine ⟨good s13 ?_ ?_ ?_ ?_ ?_ ?_ ?_ ?_, (f5.tr f9).tr (by rw [e13, e12]; exact Fz.u.tr Fz.u)⟩
        · unfold lxT; rw [k3]; rfl
        · rw [e13, ups_k _ (by decide), e12, ups_k _ (by decide), e9, ups_k _ (by decide)]; exact v6
        · rw [e13, ups_k _ (by decide), e12, ups_k _ (by decide), e9, ups_k _ (by decide)]; exact v7
        · rw [e13, ups_k _ (by decide), e12, ups_k _ (by decide), e9, ups_k _ (by decide)]; exact v4
        · rw [e13, ups_eq]; unfold ndT; rw [k3]; rfl
        · rw [e13, ups_k _ (by decide), e12, ups_k _ (by decide), e9, ups_eq, k3]
        · rw [e13, ups_k _ (by decide), e12, ups_eq]; unfold vlT; rw [k3]; rfl
        · rw [e13, ups_k _ (by decide), e12, ups_k _ (by decide), e9, ups_k _ (by decide), v3]; unfold wdT; rw [k3]; rfl
      · have nl : ¬ isL (t.2 a) = true := fun x => by rw [if_pos x] at z; omega
        have d : isD (t.2 a) = true := Classical.byContradiction (fun x => y (if_neg x))
        have k2 : kdT t a = 2 := by unfold kdT; rw [if_pos an, if_neg nl, if_pos d]
        have nj : jnB t (a - 1) = false := hj.resolve_right (fun x => by rw [d] at x; cases x.2)
        have elx : lxT t a = if 4 < lnD t a then a + 4 else -1 := by unfold lxT; rw [k2, if_neg (by decide), if_pos rfl, nj]; rfl
        have f1 : Fz s5 s1 := by rw [e1]; exact Fz.u
        refine rn_5 (s := s1) (e := e) hO (by omega) k2 (by rw [e1, ups_k _ (by decide)]; exact v6) (fun s' f' c1 c2 => ⟨?_, (f5.tr f1).tr f'⟩) (lnD t a) 0 s1 (by omega) (by omega) (by omega) (t5.fz f1) (by rw [e1, ups_k _ (by decide)]; exact v4) (by rw [e1, ups_k _ (by decide), v5]; omega) (by rw [e1, ups_k _ (by decide)]; exact v2) (fun _ _ _ => rfl) Fr.rf
        by_cases l4 : lnD t a ≤ 4
        · obtain ⟨m2, m5, mk⟩ := c1 l4
          refine good s' (by rw [elx, if_neg (by omega)]) ?_ ?_ ?_ ?_ ?_ ?_ ?_
          · rw [mk 6 (by decide) (by decide), e1, ups_k _ (by decide)]; exact v6
          · rw [mk 7 (by decide) (by decide), e1, ups_k _ (by decide)]; exact v7
          · rw [mk 4 (by decide) (by decide), e1, ups_k _ (by decide)]; exact v4
          · rw [m5]; unfold ndT; rw [k2]; rfl
          · rw [mk 1 (by decide) (by decide), e1, ups_eq, k2]
          · rw [m2]; unfold vlT; rw [k2]; rfl
          · rw [mk 3 (by decide) (by decide), e1, ups_k _ (by decide), v3]; unfold wdT; rw [k2]; rfl
        · obtain ⟨m6, m7, m1, m3⟩ := c2 (by omega)
          exact bad s' (a + 4) (by rw [elx, if_pos (by omega)]) (by omega) m6 m7 m1 m3
      · have l : isL (t.2 a) = true := Classical.byContradiction (fun x => z (if_neg x))
        have k1 : kdT t a = 1 := by unfold kdT; rw [if_pos an, if_pos l]
        have nj : jnB t (a - 1) = false := hj.resolve_right (fun x => by rw [l] at x; cases x.1)
        have elx : lxT t a = if 6 < lnL t a then a + 6 else -1 := by unfold lxT; rw [k1, if_pos rfl, nj]; rfl
        have f1 : Fz s5 s1 := by rw [e1]; exact Fz.u
        refine rw_5 (s := s1) (e := e) hO (by omega) k1 (by rw [e1, ups_k _ (by decide)]; exact v6) (fun s' f' c1 c2 => ⟨?_, (f5.tr f1).tr f'⟩) (lnL t a) 0 s1 (by omega) (by omega) (by omega) (t5.fz f1) (by rw [e1, ups_k _ (by decide)]; exact v4) (by rw [e1, ups_k _ (by decide), v5]; omega) (by rw [e1, ups_k _ (by decide)]; exact v2) (by rw [e1, ups_k _ (by decide)]; exact v3) (fun _ _ _ => rfl) Fr.rf
        by_cases l6 : lnL t a ≤ 6
        · obtain ⟨m2, m3, m5, mk⟩ := c1 l6
          have ev : vlT t a = cF (ltT t a) 6 := by unfold vlT; rw [if_pos k1]
          refine good s' (by rw [elx, if_neg (by omega)]) ?_ ?_ ?_ ?_ ?_ ?_ ?_
          · rw [mk 6 (by decide) (by decide) (by decide), e1, ups_k _ (by decide)]; exact v6
          · rw [mk 7 (by decide) (by decide) (by decide), e1, ups_k _ (by decide)]; exact v7
          · rw [mk 4 (by decide) (by decide) (by decide), e1, ups_k _ (by decide)]; exact v4
          · rw [m5]; unfold ndT; rw [if_pos k1]
          · rw [mk 1 (by decide) (by decide) (by decide), e1, ups_eq, k1]
          · rw [m2, ev]
          · rw [m3]; unfold wdT; rw [if_pos k1, ev]
        · obtain ⟨m6, m7, m1, m3⟩ := c2 (by omega)
          exact bad s' (a + 6) (by rw [elx, if_pos (by omega)]) (by omega) m6 m7 m1 m3
    rw [v5, w32_of (show _ ≤ a - 1 by omega) (by omega)]
    refine Mw.ex (C_joins t5) ⟨fun z => h77 (Or.inl (Bool.eq_false_iff.mpr (fun y => by rw [if_pos y] at z; omega))), fun z => ?_⟩
    have j1 : jnB t (a - 1) = true := Classical.byContradiction (fun y => z (if_neg y))
    rw [v5]
    refine Mw.ex (C_joins t5) ⟨fun y => h77 (Or.inr ?_), fun y => ?_⟩
    · have : ¬ jnB t a = true := fun x => by rw [if_pos x] at y; omega
      unfold jnB at this
      rw [decide_eq_true (show 0 ≤ a ∧ a < t.1 by omega), Bool.true_and] at this
      have h := Bool.eq_false_iff.mpr this
      rw [Bool.or_eq_false_iff] at h
      exact h
    · have j2 : jnB t a = true := Classical.byContradiction (fun x => y (if_neg x))
      have elx : lxT t a = a := by
        unfold jnB at j2
        rw [decide_eq_true (show 0 ≤ a ∧ a < t.1 by omega), Bool.true_and, Bool.or_eq_true] at j2
        unfold lxT
        by_cases l : isL (t.2 a) = true
        · have k1 : kdT t a = 1 := by unfold kdT; rw [if_pos an, if_pos l]
          rw [if_pos k1, if_pos j1]
        · have d := j2.resolve_left l
          have k2 : kdT t a = 2 := by unfold kdT; rw [if_pos an, if_neg l, if_pos d]
          rw [k2, if_neg (by decide), if_pos rfl, if_pos j1]
      refine (C_failHere).imp (fun _ s11 h11 => ⟨?_, f5.tr h11.2.2.2.2⟩)
      obtain ⟨m1, m2, m3, m4, m5⟩ := h11
      have := m1 v6
      exact bad s11 a elx (by omega) this.1 (by rw [this.2]; exact v4) m3 m4
  · have an : a = t.1 := by
      have : ¬ a < t.1 := fun z => by rw [hr, if_pos z] at q; omega
      omega
    have k0 : kdT t a = 0 := by unfold kdT; rw [if_neg (by omega)]
    refine good s12 ?_ ?_ ?_ ?_ ?_ ?_ ?_ ?_
    · unfold lxT; rw [k0]; rfl
    · rw [e12, ups_k _ (by decide)]; exact v6
    · rw [e12, ups_k _ (by decide)]; exact v7
    · rw [e12, ups_k _ (by decide)]; exact v4
    · rw [e12, ups_k _ (by decide), v5]; unfold ndT; rw [k0]; rfl
    · rw [e12, ups_eq, k0]
    · rw [e12, ups_k _ (by decide), v2]; unfold vlT; rw [k0]; rfl
    · rw [e12, ups_k _ (by decide), v3]; unfold wdT; rw [k0]; rfl
/-- advance, in every state -/
def avS (t : Tp) (st : Int × Int) : Int × Int := if st.1 = 0 then avT t st.2 else st
theorem C_adv {st : Int × Int} (ht : CTp s t.1 t.2) (h : CRd s t st) : Mw g (e + 3) M_X6_advance [(15, 47)] s (fun _ s' => CRd s' t (avS t st) ∧ Fz s s') := by
  unfold avS
  by_cases z : st.1 = 0
  · rw [if_pos z]
    obtain ⟨a1, a2, a3, a4, a5, a6, a7⟩ := h.1 z
    have nd := nd_le a3.2
    exact C_advance ht a1 a2 a6 (by omega) nd.2.1
  · rw [if_neg z]
    obtain ⟨b1, b2, b3, b4⟩ := h.2 z
    exact S_X6_advance ⟨fun q => by rw [b1] at q; exact absurd q z, fun _ => ⟨h, Fr.rf⟩⟩
/-- a fault here, in every state -/
def flS1 (k : Int) (st : Int × Int) : Int × Int := if st.1 = 0 then (k, st.2) else st
theorem C_fh {st : Int × Int} {k : Int} (h : CRd s t st) (k0 : k ≠ 0) : Mw g (e + 2) M_X6_failHere [(15, 47), (0, k)] s (fun _ s' => CRd s' t (flS1 k st) ∧ Fz s s') := by
  refine (C_failHere).imp (fun _ s' h' => ?_)
  obtain ⟨m1, m2, m3, m4, m5⟩ := h'
  unfold flS1
  by_cases z : st.1 = 0
  · rw [if_pos z]
    obtain ⟨a1, a2, a3, a4, a5, a6, a7⟩ := h.1 z
    have := m1 a1
    exact ⟨⟨fun y => absurd y k0, fun _ => ⟨this.1, this.2.trans a5, m3, m4⟩⟩, m5⟩
  · rw [if_neg z]
    obtain ⟨b1, b2, b3, b4⟩ := h.2 z
    have := m2 (by rw [b1]; exact z)
    exact ⟨⟨fun y => absurd y z, fun _ => ⟨this.1.trans b1, this.2.trans b2, m3, m4⟩⟩, m5⟩
end TOK
