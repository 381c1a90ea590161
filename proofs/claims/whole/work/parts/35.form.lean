/-! formulas: how they are worked; the class's Formula.value -/
def partsN (st : Int) : Int := if st < 20 then (if st = 13 then 1 else if st = 14 then 3 else 2) else 0
def flS (a b : Int) : Int := if (¬ (a < 0 ↔ b < 0)) ∧ Int.tmod a b ≠ 0 then Int.tdiv a b - 1 else Int.tdiv a b
def pairS (st a b : Int) : Int :=
  if st = 1 then a + b else if st = 2 then a - b else if st = 3 then a * b else if st = 4 then (if b = 0 then 0 else flS a b) else if st = 5 then (if b = 0 then 0 else a - b * flS a b) else
  if st = 6 then min a b else if st = 7 then max a b else if st = 8 then (if a < b then 1 else 0) else if st = 9 then (if b < a then 1 else 0) else if st = 10 then (if a = b then 1 else 0) else
  if st = 11 then lAnd a b else lOr a b
def clampS (x : Int) : Int := max (-1000000) (min 1000000 x)
def newS (st : Int) (F V : Int → Int) (f : Int) : Int :=
  if 40 ≤ st then st - 40 else if 20 ≤ st then F (st - 20) else if st = 14 then (if V f = 0 then V (f + 2) else V (f + 1)) else if st = 13 then 1 - V f else clampS (pairS st (V f) (V (f + 1)))
def evA (P F : Int → Int) : Nat → (Int → Int) × Int
  | 0 => (fun _ => 0, 0)
  | k + 1 => (fun i => if i = (evA P F k).2 - partsN (P k) then newS (P k) F (evA P F k).1 ((evA P F k).2 - partsN (P k)) else (evA P F k).1 i, (evA P F k).2 - partsN (P k) + 1)
def evS (P F : Int → Int) (n : Int) : Int := (evA P F n.toNat).1 0
/-- which values are known to be 0 or 1, and how many values wait -/
def newB (st : Int) (B : Int → Bool) (f : Int) : Bool :=
  if 40 ≤ st then decide (st ≤ 41) else if 20 ≤ st then false else if st = 14 then B (f + 1) && B (f + 2) else if st = 13 then B f else if st = 11 ∨ st = 12 then B f && B (f + 1) else decide (8 ≤ st)
def tpA (P : Int → Int) : Nat → (Int → Bool) × Int
  | 0 => (fun _ => false, 0)
  | k + 1 => (fun i => if i = (tpA P k).2 - partsN (P k) then newB (P k) (tpA P k).1 ((tpA P k).2 - partsN (P k)) else (tpA P k).1 i, (tpA P k).2 - partsN (P k) + 1)
def okP (P : Int → Int) (mx : Int) (k : Nat) : Prop :=
  0 ≤ (tpA P k).2 - partsN (P k) ∧ (tpA P k).2 - partsN (P k) < 90 ∧ (1 ≤ P k ∧ P k ≤ 14 ∨ 20 ≤ P k ∧ P k < mx ∨ 40 ≤ P k ∧ P k ≤ 10039) ∧ (P k = 14 → (tpA P k).1 ((tpA P k).2 - 3) = true) ∧ (P k = 11 ∨ P k = 12 → (tpA P k).1 ((tpA P k).2 - 2) = true ∧ (tpA P k).1 ((tpA P k).2 - 1) = true) ∧ (P k = 13 → (tpA P k).1 ((tpA P k).2 - 1) = true)
def WFp (P : Int → Int) (n mx : Int) : Prop := (0 ≤ n ∧ n ≤ 1600) ∧ (0 < n → (tpA P n.toNat).2 = 1) ∧ ∀ k : Nat, (k : Int) < n → okP P mx k
def Fbd (F : Int → Int) (mx : Int) : Prop := ∀ i, 0 ≤ i → i + 20 < mx → -1000000 ≤ F i ∧ F i ≤ 1000000
theorem evA_top (P F : Int → Int) : ∀ k : Nat, (evA P F k).2 = (tpA P k).2
  | 0 => rfl
  | k + 1 => by
    show (evA P F k).2 - partsN (P k) + 1 = (tpA P k).2 - partsN (P k) + 1
    rw [evA_top P F k]
theorem lCmp_nn {x : Int} : 0 ≤ lCmp x 0 ↔ 0 ≤ x := by
  unfold lCmp
  split
  · omega
  · split <;> omega
theorem lCmp_z {a b : Int} : lCmp a b = 0 ↔ a = b := by
  unfold lCmp
  split
  · omega
  · split <;> omega
theorem lCmp_ge {a b : Int} : 0 ≤ lCmp a b ↔ b ≤ a := by
  unfold lCmp
  split
  · omega
  · split <;> omega
theorem lCmp_le {a b : Int} : lCmp a b ≤ 0 ↔ a ≤ b := by
  unfold lCmp
  split
  · omega
  · split <;> omega
theorem lXor_neg {a b : Int} (ha : inL a) (hb : inL b) : lXor a b < 0 ↔ ¬ (a < 0 ↔ b < 0) := by
  have h : (i6 a ^^^ i6 b).toBitVec.msb = ((i6 a).toBitVec.msb ^^ (i6 b).toBitVec.msb) := by rw [Int64.toBitVec_xor, BitVec.msb_xor]
  rw [BitVec.msb_eq_toInt, BitVec.msb_eq_toInt, BitVec.msb_eq_toInt, Int64.toInt_toBitVec, Int64.toInt_toBitVec, Int64.toInt_toBitVec, i6_toid ha, i6_toid hb] at h
  unfold lXor
  have h2 := congrArg (fun x => x = true) h
  simp only [decide_eq_true_eq, eq_iff_iff] at h2
  rw [h2]
  by_cases h3 : a < 0 <;> by_cases h4 : b < 0 <;> simp [h3, h4]
theorem tdiv_bd {a b m : Int} (h1 : -m ≤ a) (h2 : a ≤ m) : -m ≤ Int.tdiv a b ∧ Int.tdiv a b ≤ m := by
  have h : (Int.tdiv a b).natAbs ≤ a.natAbs := by rw [Int.natAbs_tdiv]; exact Nat.div_le_self _ _
  omega
theorem tdiv_mul (a b : Int) : Int.tdiv a b * b = a - Int.tmod a b := by
  have := Int.tmod_add_tdiv_mul a b
  omega
theorem tmod_bd {a b m : Int} (h1 : -m ≤ a) (h2 : a ≤ m) : -m ≤ Int.tmod a b ∧ Int.tmod a b ≤ m := by
  have h : (Int.tmod a b).natAbs ≤ a.natAbs := by rw [Int.natAbs_tmod]; exact Nat.mod_le _ _
  omega
theorem tmod_lt {a b : Int} (hb : b ≠ 0) : (Int.tmod a b).natAbs < b.natAbs := by
  rw [Int.natAbs_tmod]
  exact Nat.mod_lt _ (by omega)
theorem fmS_bd {a b m : Int} (hb : b ≠ 0) (h1 : -m ≤ b) (h2 : b ≤ m) : -m ≤ a - b * flS a b ∧ a - b * flS a b ≤ m := by
  have h := tmod_lt (a := a) hb
  have e := tdiv_mul a b
  rw [Int.mul_comm] at e
  unfold flS
  split
  · rename_i q
    rw [Int.mul_sub, e, Int.mul_one]
    have s1 : 0 ≤ a → 0 ≤ Int.tmod a b := fun z => Int.tmod_nonneg b z
    have s2 : a < 0 → Int.tmod a b ≤ 0 := fun z => by
      have := Int.tmod_nonneg b (show 0 ≤ -a by omega)
      rw [Int.neg_tmod] at this
      omega
    have q1 := q.1
    by_cases ha : a < 0
    · have := s2 ha
      have : ¬ b < 0 := fun z => q1 ⟨fun _ => z, fun _ => ha⟩
      omega
    · have := s1 (by omega)
      have : b < 0 := Classical.byContradiction (fun z => q1 ⟨fun y => absurd y ha, fun y => absurd y z⟩)
      omega
  · rw [e]; omega
theorem flS_bd {a b m : Int} (h1 : -m ≤ a) (h2 : a ≤ m) : -m - 1 ≤ flS a b ∧ flS a b ≤ m := by
  have := tdiv_bd (b := b) h1 h2
  unfold flS
  split <;> omega
section FORM
variable {g : GT} {e : Nat} {s : Sg}
theorem C_partsOf {v : Int} : Mw g (e + 1) M_X2_partsOf [(0, v)] s (Ex (partsN v) s) := by
  refine S_X2_partsOf (fun _ => ?_)
  unfold partsN
  refine ⟨fun h => ⟨fun h1 => ⟨fun h2 => ⟨?_, rfl⟩, fun h2 => ⟨?_, rfl⟩⟩, fun h1 => ⟨?_, rfl⟩⟩, fun h => ⟨?_, rfl⟩⟩
  · rw [if_pos h, if_neg h1, if_neg h2]
  · rw [if_pos h, if_neg h1, if_pos h2]
  · rw [if_pos h, if_pos h1]
  · rw [if_neg h]
theorem C_floorDiv {a b : Int} (a1 : -1000000 ≤ a) (a2 : a ≤ 1000000) (b1 : -1000000 ≤ b) (b2 : b ≤ 1000000) (hb : b ≠ 0) : Mw g (e + 1) M_J9_floorDiv_f86c9 [(2, a), (2, b)] s (Ex (flS a b) s) := by
  refine S_J9_floorDiv_f86c9 (fun ha hbl => ⟨hb, ?_⟩)
  have d := tdiv_bd (b := b) (m := 1000000) a1 a2
  have m := tmod_bd (b := b) (m := 1000000) a1 a2
  have e := tdiv_mul a b
  rw [w64_of (by omega) (by omega), w64_of (show _ ≤ Int.tdiv a b * b by omega) (by omega), w64_of (show _ ≤ Int.tdiv a b - 1 by omega) (by omega), lCmp_nn, lCmp_z, e]
  have hx := lXor_neg ha hbl
  unfold flS
  refine ⟨fun h => ⟨?_, rfl⟩, fun h => ⟨fun h2 => ⟨?_, rfl⟩, fun h2 => ⟨?_, rfl⟩⟩⟩
  · rw [if_neg]; exact fun q => absurd (hx.mpr q.1) (by omega)
  · rw [if_neg]; exact fun q => q.2 (by omega)
  · rw [if_pos]; exact ⟨hx.mp (by omega), fun q => h2 (by omega)⟩
theorem C_floorMod {a b : Int} (a1 : -1000000 ≤ a) (a2 : a ≤ 1000000) (b1 : -1000000 ≤ b) (b2 : b ≤ 1000000) (hb : b ≠ 0) : Mw g (e + 1) M_J9_floorMod_f86c9 [(2, a), (2, b)] s (Ex (a - b * flS a b) s) := by
  refine S_J9_floorMod_f86c9 (fun ha hbl => ⟨hb, ?_⟩)
  have m := tmod_bd (b := b) (m := 1000000) a1 a2
  have e := tdiv_mul a b
  rw [w64_of (show _ ≤ Int.tmod a b + b by omega) (by omega), lCmp_nn, lCmp_z]
  have hx := lXor_neg ha hbl
  have e1 : a - b * Int.tdiv a b = Int.tmod a b := by rw [Int.mul_comm, e]; omega
  have e2 : a - b * (Int.tdiv a b - 1) = Int.tmod a b + b := by rw [Int.mul_sub, Int.mul_comm, e]; omega
  unfold flS
  refine ⟨fun h => ⟨?_, rfl⟩, fun h => ⟨fun h2 => ⟨?_, rfl⟩, fun h2 => ⟨?_, rfl⟩⟩⟩
  · rw [if_neg, e1]; exact fun q => absurd (hx.mpr q.1) (by omega)
  · rw [if_neg, e1]; exact fun q => q.2 h2
  · rw [if_pos, e2]; exact ⟨hx.mp (by omega), h2⟩
theorem mul_bd {a b : Int} (a1 : -1000000 ≤ a) (a2 : a ≤ 1000000) (b1 : -1000000 ≤ b) (b2 : b ≤ 1000000) : -1000000000000 ≤ a * b ∧ a * b ≤ 1000000000000 := by
  have h : (a * b).natAbs = a.natAbs * b.natAbs := Int.natAbs_mul a b
  have h2 : a.natAbs * b.natAbs ≤ 1000000 * 1000000 := Nat.mul_le_mul (by omega) (by omega)
  omega
theorem C_pair {st a b : Int} (h1 : 1 ≤ st) (h12 : st ≤ 12) (a1 : -1000000 ≤ a) (a2 : a ≤ 1000000) (b1 : -1000000 ≤ b) (b2 : b ≤ 1000000) : Mw g (e + 2) M_X2_pair [(0, st), (2, a), (2, b)] s (Ex (pairS st a b) s) := by
  have mb := mul_bd a1 a2 b1 b2
  refine S_X2_pair (fun _ _ _ => ?_)
  rw [w64_of (show _ ≤ a + b by omega) (by omega), w64_of (show _ ≤ a - b by omega) (by omega), w64_of (show _ ≤ a * b by omega) (by omega), lCmp_z, lCmp_z, lCmp_ge, lCmp_le]
  refine ⟨?_, ?_, ?_, ?_, ?_, ?_, ?_, ?_, ?_, ?_, ?_, ?_⟩
  · intro h; subst h; exact ⟨rfl, rfl⟩
  · intro h; subst h; exact ⟨rfl, rfl⟩
  · intro h; subst h; exact ⟨rfl, rfl⟩
  · intro h; subst h
    refine ⟨fun hb => ?_, fun hb => ⟨?_, rfl⟩⟩
    · refine Mw.ex (C_floorDiv a1 a2 b1 b2 hb) ⟨?_, rfl⟩
      simp [pairS, hb]
    · simp [pairS, hb]
  · intro h; subst h
    refine ⟨fun hb => ?_, fun hb => ⟨?_, rfl⟩⟩
    · refine Mw.ex (C_floorMod a1 a2 b1 b2 hb) ⟨?_, rfl⟩
      simp [pairS, hb]
    · simp [pairS, hb]
  · intro h; subst h; exact ⟨rfl, rfl⟩
  · intro h; subst h; exact ⟨rfl, rfl⟩
  · intro h; subst h
    refine ⟨fun hb => ⟨?_, rfl⟩, fun hb => ⟨?_, rfl⟩⟩
    · simp [pairS]; omega
    · simp [pairS]; omega
  · intro h; subst h
    refine ⟨fun hb => ⟨?_, rfl⟩, fun hb => ⟨?_, rfl⟩⟩
    · simp [pairS]; omega
    · simp [pairS]; omega
  · intro h; subst h
    refine ⟨fun hb => ⟨?_, rfl⟩, fun hb => ⟨?_, rfl⟩⟩
    · simp [pairS, hb]
    · simp [pairS, hb]
  · intro h; subst h; exact ⟨rfl, rfl⟩
  · intro h
    have : st = 12 := by omega
    subst this
    exact ⟨rfl, rfl⟩
end FORM
/-- the values that wait are small; those known to be 0 or 1 are so -/
theorem evA_bd {P F : Int → Int} {n mx : Int} (hP : WFp P n mx) (hm : mx ≤ 28) (hF : Fbd F mx) : ∀ k : Nat, (k : Int) ≤ n → 0 ≤ (tpA P k).2 ∧ ∀ i, 0 ≤ i → i < (tpA P k).2 → (-1000000 ≤ (evA P F k).1 i ∧ (evA P F k).1 i ≤ 1000000) ∧ ((tpA P k).1 i = true → (evA P F k).1 i = 0 ∨ (evA P F k).1 i = 1) := by
  intro k
  induction k with
  | zero => intro _; exact ⟨Int.le_refl 0, fun i i0 i1 => absurd i1 (by show ¬ i < 0; omega)⟩
  | succ k ih =>
    intro hk
    obtain ⟨t0, hi⟩ := ih (by omega)
    obtain ⟨o1, o2, o3, o4, o5, o6⟩ := hP.2.2 k (by omega)
    have et := evA_top P F k
    refine ⟨by show 0 ≤ (tpA P k).2 - partsN (P k) + 1; omega, fun i i0 i1 => ?_⟩
    have i1 : i < (tpA P k).2 - partsN (P k) + 1 := i1
    show (-1000000 ≤ (if i = (evA P F k).2 - partsN (P k) then newS (P k) F (evA P F k).1 ((evA P F k).2 - partsN (P k)) else (evA P F k).1 i) ∧ (if i = (evA P F k).2 - partsN (P k) then newS (P k) F (evA P F k).1 ((evA P F k).2 - partsN (P k)) else (evA P F k).1 i) ≤ 1000000) ∧ ((if i = (tpA P k).2 - partsN (P k) then newB (P k) (tpA P k).1 ((tpA P k).2 - partsN (P k)) else (tpA P k).1 i) = true → _)
    rw [et]
    show (-1000000 ≤ (if i = (tpA P k).2 - partsN (P k) then newS (P k) F (evA P F k).1 ((tpA P k).2 - partsN (P k)) else (evA P F k).1 i) ∧ (if i = (tpA P k).2 - partsN (P k) then newS (P k) F (evA P F k).1 ((tpA P k).2 - partsN (P k)) else (evA P F k).1 i) ≤ 1000000) ∧ ((if i = (tpA P k).2 - partsN (P k) then newB (P k) (tpA P k).1 ((tpA P k).2 - partsN (P k)) else (tpA P k).1 i) = true → (if i = (evA P F k).2 - partsN (P k) then newS (P k) F (evA P F k).1 ((evA P F k).2 - partsN (P k)) else (evA P F k).1 i) = 0 ∨ (if i = (evA P F k).2 - partsN (P k) then newS (P k) F (evA P F k).1 ((evA P F k).2 - partsN (P k)) else (evA P F k).1 i) = 1)
    rw [et]
    by_cases hf : i = (tpA P k).2 - partsN (P k)
    · rw [if_pos hf, if_pos hf]
      generalize hV : (evA P F k).1 = V at *
      generalize hB : (tpA P k).1 = B at *
      generalize hf2 : (tpA P k).2 - partsN (P k) = f at *
      unfold newS newB
      by_cases c1 : 40 ≤ P k
      · rw [if_pos c1, if_pos c1]
        refine ⟨by omega, fun h => ?_⟩
        simp only [decide_eq_true_eq] at h
        omega
      · rw [if_neg c1, if_neg c1]
        by_cases c2 : 20 ≤ P k
        · rw [if_pos c2, if_pos c2]
          exact ⟨hF _ (by omega) (by omega), fun h => by cases h⟩
        · rw [if_neg c2, if_neg c2]
          by_cases c3 : P k = 14
          · have hp : partsN (P k) = 3 := by rw [c3]; rfl
            rw [if_pos c3, if_pos c3]
            have v1 := hi (f + 1) (by omega) (by omega)
            have v2 := hi (f + 2) (by omega) (by omega)
            split
            · refine ⟨v2.1, fun h => v2.2 ?_⟩
              rw [Bool.and_eq_true] at h; exact h.2
            · refine ⟨v1.1, fun h => v1.2 ?_⟩
              rw [Bool.and_eq_true] at h; exact h.1
          · rw [if_neg c3, if_neg c3]
            by_cases c4 : P k = 13
            · have hp : partsN (P k) = 1 := by rw [c4]; rfl
              rw [if_pos c4, if_pos c4]
              have v0 := (hi f (by omega) (by omega)).2 (by rw [show f = (tpA P k).2 - 1 by omega]; exact o6 c4)
              exact ⟨by omega, fun h => by omega⟩
            · rw [if_neg c4, if_neg c4]
              have hp : partsN (P k) = 2 := by unfold partsN; rw [if_pos (by omega), if_neg c4, if_neg c3]
              have v0 := hi f (by omega) (by omega)
              have v1 := hi (f + 1) (by omega) (by omega)
              refine ⟨by unfold clampS; omega, fun h => ?_⟩
              by_cases c5 : P k = 11 ∨ P k = 12
              · rw [if_pos c5, Bool.and_eq_true] at h
                have u0 := v0.2 h.1
                have u1 := v1.2 h.2
                have m : clampS (pairS (P k) (V f) (V (f + 1))) = 0 ∨ clampS (pairS (P k) (V f) (V (f + 1))) = 1 := by
                  rcases c5 with c | c <;> rcases u0 with u | u <;> rcases u1 with u' | u' <;> rw [c, u, u'] <;> decide +kernel
                exact m
              · rw [if_neg c5] at h
                simp only [decide_eq_true_eq] at h
                rcases (show P k = 8 ∨ P k = 9 ∨ P k = 10 by omega) with c | c | c <;> rw [c] <;> unfold pairS clampS <;> simp <;> split <;> omega
    · rw [if_neg hf, if_neg hf]
      exact hi i i0 (by unfold partsN at *; split at i1 <;> (try split at i1) <;> (try split at i1) <;> omega)
