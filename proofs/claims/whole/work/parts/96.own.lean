/-! own words and names: both programs' codes -/
def owL : List (List Int) := [[8, 15, 13, 5], [20, 1, 12, 11], [23, 1, 18, 13], [3, 8, 9, 12, 4], [15, 6], [2, 15, 18, 14], [20, 23, 9, 14, 19], [6, 5, 21, 4], [23, 1, 12, 12], [23, 9, 4, 5], [8, 9, 7, 8], [7, 1, 9, 14, 19], [13, 1, 25], [18, 1, 9, 19, 5, 4], [20, 15], [23, 5, 9, 7, 8, 19], [6, 18, 15, 19, 20], [2, 9, 20, 5, 19], [1, 7, 5], [19, 20, 18, 15, 14, 7], [25, 5, 1, 18], [3, 15, 21, 18, 19, 5], [12, 5, 6, 20], [21, 14, 4, 5, 18], [9, 6], [15, 18], [1, 14, 4], [14, 15, 20], [1, 12, 12], [13, 9, 14], [13, 1, 24]]
def rcL : List Int := [1752132965, 1952541803, 2002874989, 426953501796, 28518, 1651470958, 500219604595, 1717925220, 2002873452, 2003395685, 1751738216, 444015930995, 7168377, 125762706564452, 29807, 131277443786867, 440006570868, 422676030835, 6383461, 126943973305959, 2036687218, 109330362954597, 1818584692, 504363246962, 26982, 28530, 6385252, 7237492, 6384748, 7170414, 7168376]
def lwS (k : Nat) : Nat → Int := fun i => (owL.getD k []).getD i 0
def lnS (k : Nat) : Nat := (owL.getD k []).length
def owB (k : Nat) : Bool := decide (1 ≤ lnS k ∧ lnS k ≤ 6) && ((List.range 6).all (fun i => decide (i < lnS k → 1 ≤ lwS k i ∧ lwS k i ≤ 26)) && (decide (kF (lwS k) (lnS k) = rcL.getD k 0) && decide (cF (lwS k) 6 = enC.getD k 0)))
theorem ow_chk : ∀ k : Nat, k < 31 → owB k = true := by decide +kernel
theorem enC_ne : ∀ k : Nat, k < 31 → ∀ j : Nat, j < 32 → k ≠ j → enC.getD k 0 ≠ enC.getD j 0 := by decide +kernel
theorem ow_n {k : Nat} (hk : k < 31) : isN (lwS k) (lnS k) ∧ kF (lwS k) (lnS k) = rcL.getD k 0 ∧ cF (lwS k) 6 = enC.getD k 0 := by
  have h := ow_chk k hk
  unfold owB at h
  rw [Bool.and_eq_true, Bool.and_eq_true, Bool.and_eq_true, decide_eq_true_eq, decide_eq_true_eq, decide_eq_true_eq, List.all_eq_true] at h
  obtain ⟨h1, h2, h3, h4⟩ := h
  refine ⟨⟨h1, fun i hi => ?_, fun i hi => ?_⟩, h3, h4⟩
  · have := h2 i (List.mem_range.mpr (by omega))
    rw [decide_eq_true_eq] at this
    exact this hi
  · unfold lwS
    rw [List.getD_eq_getElem?_getD, List.getElem?_eq_none (by unfold lnS at hi; exact hi)]
    rfl
theorem cF_inj {l l2 : Nat → Int} {L L2 : Nat} (h : isN l L) (h2 : isN l2 L2) : ∀ n : Nat, cF l n = cF l2 n → ∀ i, i < n → l i = l2 i := by
  intro n
  induction n with
  | zero => intro _ i hi; omega
  | succ n ih =>
    intro e i hi
    have a := cF_div h n
    have b := cF_div h2 n
    rw [e] at a
    by_cases z : i = n
    · rw [z, ← a.2, ← b.2]
    · exact ih (by rw [← a.1, ← b.1]) i (by omega)
theorem nm_l {l l2 : Nat → Int} {L L2 : Nat} (h : isN l L) (h2 : isN l2 L2) (e : ∀ i, i < 6 → l i = l2 i) : l = l2 ∧ L = L2 := by
  have ee : ∀ i, l i = l2 i := fun i => by
    by_cases z : i < 6
    · exact e i z
    · rw [h.2.2 i (by have := h.1; omega), h2.2.2 i (by have := h2.1; omega)]
  have el : L = L2 := by
    by_cases z : L < L2
    · have a := h.2.2 L (Nat.le_refl L)
      have b := (h2.2.1 L z).1
      rw [ee L] at a
      omega
    · by_cases y : L2 < L
      · have a := h2.2.2 L2 (Nat.le_refl L2)
        have b := (h.2.1 L2 y).1
        rw [ee L2] at b
        omega
      · omega
  exact ⟨funext ee, el⟩
theorem kF_inj {l l2 : Nat → Int} {L L2 : Nat} (h : isN l L) (h2 : isN l2 L2) : ∀ n m : Nat, n ≤ L → m ≤ L2 → kF l n = kF l2 m → n = m ∧ ∀ i, i < n → l i = l2 i := by
  intro n
  induction n with
  | zero =>
    intro m _ hm e
    cases m with
    | zero => exact ⟨rfl, fun i hi => by omega⟩
    | succ m =>
      exfalso
      have k := (kF_in h2 (n := m) (by have := h2.1; omega)).1
      have b := h2.b m
      have e : (0 : Int) = 256 * kF l2 m + (96 + l2 m) := e
      omega
  | succ n ih =>
    intro m hn hm e
    cases m with
    | zero =>
      exfalso
      have k := (kF_in h (n := n) (by have := h.1; omega)).1
      have b := h.b n
      have e : 256 * kF l n + (96 + l n) = (0 : Int) := e
      omega
    | succ m =>
      have a := kF_div h n
      have b := kF_div h2 m
      rw [e] at a
      have i := ih m (by omega) (by omega) (by rw [← a.1, ← b.1])
      refine ⟨by omega, fun j hj => ?_⟩
      by_cases z : j = n
      · have : n = m := i.1
        rw [z]
        have x := a.2
        rw [b.2, this] at x
        rw [this]
        omega
      · exact i.2 j (by omega)
/-- both codes tell names alike -/
theorem nm_iff {l l2 : Nat → Int} {L L2 : Nat} (h : isN l L) (h2 : isN l2 L2) : kF l L = kF l2 L2 ↔ cF l 6 = cF l2 6 := by
  constructor
  · intro e
    have i := kF_inj h h2 L L2 (Nat.le_refl L) (Nat.le_refl L2) e
    have := nm_l h h2 (fun j hj => by
      by_cases z : j < L
      · exact i.2 j z
      · rw [h.2.2 j (by omega), h2.2.2 j (by omega)])
    rw [this.1]
  · intro e
    have := nm_l h h2 (cF_inj h h2 6 e)
    rw [this.1, this.2]
theorem ow_iff {l : Nat → Int} {L k : Nat} (h : isN l L) (hk : k < 31) : kF l L = rcL.getD k 0 ↔ cF l 6 = enC.getD k 0 := by
  obtain ⟨a, b, c⟩ := ow_n hk
  rw [← b, ← c]
  exact nm_iff h a
theorem wl_in (v : Int) : ∀ n : Nat, n ≤ 32 → (wlF v n = 31 ∨ ∃ k : Nat, k < n ∧ wlF v n = k ∧ enC.getD k 0 = v) := by
  intro n
  induction n with
  | zero => intro _; left; rfl
  | succ n ih =>
    intro hn
    unfold wlF
    by_cases z : enC.getD n 0 = v
    · rw [if_pos z]; right; exact ⟨n, by omega, rfl, z⟩
    · rw [if_neg z]
      rcases ih (by omega) with y | ⟨k, k1, k2, k3⟩
      · left; exact y
      · right; exact ⟨k, by omega, k2, k3⟩
theorem wl_is {v : Int} {k : Nat} (hk : k < 31) (hv : enC.getD k 0 = v) : ∀ n : Nat, k < n → n ≤ 32 → wlF v n = k := by
  intro n
  induction n with
  | zero => intro h; omega
  | succ n ih =>
    intro h hn
    unfold wlF
    by_cases z : enC.getD n 0 = v
    · rw [if_pos z]
      by_cases y : k = n
      · rw [y]
      · exact absurd (hv.trans z.symm) (enC_ne k hk n (by omega) y)
    · rw [if_neg z]
      exact ih (by
        have : k ≠ n := fun y => z (y ▸ hv)
        omega) (by omega)
theorem wl_iff {v : Int} {k : Nat} (hk : k < 31) : wlF v 32 = k ↔ enC.getD k 0 = v := by
  constructor
  · intro z
    rcases wl_in v 32 (Nat.le_refl 32) with y | ⟨j, j1, j2, j3⟩
    · omega
    · have : j = k := by omega
      rw [← this]; exact j3
  · intro z
    exact wl_is hk z 32 (by omega) (Nat.le_refl 32)
theorem wl_bd (v : Int) : 0 ≤ wlF v 32 ∧ wlF v 32 ≤ 31 := by
  rcases wl_in v 32 (Nat.le_refl 32) with y | ⟨j, j1, j2, j3⟩ <;> omega
theorem wd_bd (t : Tp) (a : Int) : 0 ≤ wdT t a ∧ wdT t a ≤ 31 := by
  unfold wdT
  split
  · exact wl_bd _
  · omega
/-- what lex leaves of a word -/
theorem lx_L {t : Tp} {a : Int} (h1 : kdT t a = 1) (hx : lxT t a = -1) (a0 : 0 ≤ a) : lnL t a ≤ 6 := by
  unfold lxT at hx
  rw [if_pos h1] at hx
  split at hx
  · omega
  · split at hx <;> omega
theorem lx_D {t : Tp} {a : Int} (h1 : kdT t a = 2) (hx : lxT t a = -1) (a0 : 0 ≤ a) : lnD t a ≤ 4 := by
  unfold lxT at hx
  rw [h1, if_neg (by decide), if_pos rfl] at hx
  split at hx
  · omega
  · split at hx <;> omega
def sgT (t : Tp) (a c : Int) : Prop := kdT t a = 3 ∧ vlT t a = c
section OWN
variable {g : GT} {e : Nat} {s : Sg} {t : Tp} {a : Int}
theorem tk_n (ht : TpO t) (h : RTk s t a) (hx : lxT t a = -1) (h1 : kdT t a = 1) : isN (ltT t a) (lnL t a) ∧ s 92 7 = kF (ltT t a) (lnL t a) ∧ vlT t a = cF (ltT t a) 6 ∧ wdT t a = wlF (cF (ltT t a) 6) 32 := by
  have r := h.2.2.1
  refine ⟨lt_isN ht r.1 h1 (lx_L h1 hx r.1), h.2.2.2.2.2.2.2.1 hx h1, ?_, ?_⟩
  · unfold vlT; rw [if_pos h1]
  · unfold wdT vlT; rw [if_pos h1, if_pos h1]
theorem R_isSign {c : Int} (h : RTk s t a) (hx : lxT t a = -1) : Mw g (e + 1) M_X13_isSign [(21, 92), (0, c)] s (fun r s' => (sgT t a c → r = 1) ∧ (¬ sgT t a c → r = 0) ∧ s' = s) := by
  have h3 := h.2.2.2.2.2.1
  refine S_X13_isSign (fun _ => ?_)
  rw [h3]
  refine ⟨fun q => ⟨fun z => absurd z.1 q, fun _ => rfl, rfl⟩, fun q => ?_⟩
  rw [h.2.2.2.2.2.2.2.2 hx (Or.inr q)]
  exact ⟨fun q2 => ⟨fun z => absurd z.2 q2, fun _ => rfl, rfl⟩, fun q2 => ⟨fun _ => rfl, fun z => absurd ⟨q, q2⟩ z, rfl⟩⟩
theorem R_isWord {k : Nat} {w : Int} (ht : TpO t) (h : RTk s t a) (hx : lxT t a = -1) (hk : k < 31) (hw : rcL.getD k 0 = w) : Mw g (e + 1) M_X13_isWord [(21, 92), (2, w)] s (Ex (if wdT t a = k then 1 else 0) s) := by
  have h3 := h.2.2.2.2.2.1
  refine S_X13_isWord (fun _ => ?_)
  rw [h3]
  refine ⟨fun q => ⟨?_, rfl⟩, fun q => ?_⟩
  · rw [if_neg]; unfold wdT; rw [if_neg q]; omega
  · obtain ⟨n1, n2, n3, n4⟩ := tk_n ht h hx q
    rw [lCmp_z, n2, n4, ← hw]
    have iff : kF (ltT t a) (lnL t a) = rcL.getD k 0 ↔ wlF (cF (ltT t a) 6) 32 = k := (ow_iff n1 hk).trans ⟨fun z => (wl_iff hk).mpr z.symm, fun z => ((wl_iff hk).mp z).symm⟩
    refine ⟨fun q2 => ⟨?_, rfl⟩, fun q2 => ⟨?_, rfl⟩⟩
    · rw [if_neg (fun z => q2 (iff.mpr z))]
    · rw [if_pos (iff.mp q2)]
theorem R_isOwn {v : Int} (ht : TpO t) (h : RTk s t a) (hx : lxT t a = -1) (h1 : kdT t a = 1) (hv : s 92 7 = v) : Mw g (e + 1) M_X13_isOwn [(21, 92), (2, v)] s (Ex (if wdT t a = 31 then 0 else 1) s) := by
  obtain ⟨n1, n2, n3, n4⟩ := tk_n ht h hx h1
  have ev : v = kF (ltT t a) (lnL t a) := hv.symm.trans n2
  have yes : ∀ k : Nat, k < 31 → v = rcL.getD k 0 → Ex (if wdT t a = 31 then 0 else 1) s 1 s := fun k hk z => by
    have : wdT t a = k := by
      rw [n4]
      refine (wl_iff hk).mpr ?_
      rw [ev] at z
      exact ((ow_iff n1 hk).mp z).symm
    refine ⟨?_, rfl⟩
    rw [if_neg (by omega)]
  have no : (¬ v = 1752132965 ∧ ¬ v = 1952541803 ∧ ¬ v = 2002874989 ∧ ¬ v = 426953501796 ∧ ¬ v = 28518 ∧ ¬ v = 1651470958 ∧ ¬ v = 500219604595 ∧ ¬ v = 1717925220 ∧ ¬ v = 2002873452 ∧ ¬ v = 2003395685 ∧ ¬ v = 1751738216 ∧ ¬ v = 444015930995 ∧ ¬ v = 7168377 ∧ ¬ v = 125762706564452 ∧ ¬ v = 29807 ∧ ¬ v = 131277443786867 ∧ ¬ v = 440006570868 ∧ ¬ v = 422676030835 ∧ ¬ v = 6383461 ∧ ¬ v = 126943973305959 ∧ ¬ v = 2036687218 ∧ ¬ v = 109330362954597 ∧ ¬ v = 1818584692 ∧ ¬ v = 504363246962 ∧ ¬ v = 26982 ∧ ¬ v = 28530 ∧ ¬ v = 6385252 ∧ ¬ v = 7237492 ∧ ¬ v = 6384748 ∧ ¬ v = 7170414 ∧ ¬ v = 7168376) → Ex (if wdT t a = 31 then 0 else 1) s 0 s := fun z => by
    refine ⟨?_, rfl⟩
    rw [if_pos]
    rw [n4]
    rcases wl_in (cF (ltT t a) 6) 32 (Nat.le_refl 32) with y | ⟨j, j1, j2, j3⟩
    · exact y
    · by_cases j31 : j = 31
      · rw [j2, j31]; rfl
      · exfalso
        have hj : j < 31 := by omega
        have e1 : v = rcL.getD j 0 := by rw [ev]; exact (ow_iff n1 hj).mpr j3.symm
        have : ∀ k : Nat, k < 31 → ¬ v = rcL.getD k 0 := by
          obtain ⟨q0, q1, q2, q3, q4, q5, q6, q7, q8, q9, q10, q11, q12, q13, q14, q15, q16, q17, q18, q19, q20, q21, q22, q23, q24, q25, q26, q27, q28, q29, q30⟩ := z
          intro k hk
          rcases (show k = 0 ∨ k = 1 ∨ k = 2 ∨ k = 3 ∨ k = 4 ∨ k = 5 ∨ k = 6 ∨ k = 7 ∨ k = 8 ∨ k = 9 ∨ k = 10 ∨ k = 11 ∨ k = 12 ∨ k = 13 ∨ k = 14 ∨ k = 15 ∨ k = 16 ∨ k = 17 ∨ k = 18 ∨ k = 19 ∨ k = 20 ∨ k = 21 ∨ k = 22 ∨ k = 23 ∨ k = 24 ∨ k = 25 ∨ k = 26 ∨ k = 27 ∨ k = 28 ∨ k = 29 ∨ k = 30 by omega) with u | u | u | u | u | u | u | u | u | u | u | u | u | u | u | u | u | u | u | u | u | u | u | u | u | u | u | u | u | u | u <;> subst u <;> assumption
        exact this j hj e1
  refine S_X13_isOwn (fun _ => ?_)
  simp only [lCmp_z]
  exact ⟨fun z => yes 0 (by decide) z, fun z0 => ⟨fun z => yes 1 (by decide) z, fun z1 => ⟨fun z => yes 2 (by decide) z, fun z2 => ⟨fun z => yes 3 (by decide) z, fun z3 => ⟨fun z4 => ⟨fun z => yes 5 (by decide) z, fun z5 => ⟨fun z => yes 6 (by decide) z, fun z6 => ⟨fun z => yes 7 (by decide) z, fun z7 => ⟨fun z => yes 8 (by decide) z, fun z8 => ⟨fun z9 => ⟨fun z => yes 10 (by decide) z, fun z10 => ⟨fun z => yes 11 (by decide) z, fun z11 => ⟨fun z => yes 12 (by decide) z, fun z12 => ⟨fun z => yes 13 (by decide) z, fun z13 => ⟨fun z14 => ⟨fun z => yes 15 (by decide) z, fun z15 => ⟨fun z => yes 16 (by decide) z, fun z16 => ⟨fun z => yes 17 (by decide) z, fun z17 => ⟨fun z => yes 18 (by decide) z, fun z18 => ⟨fun z19 => ⟨fun z => yes 20 (by decide) z, fun z20 => ⟨fun z => yes 21 (by decide) z, fun z21 => ⟨fun z => yes 22 (by decide) z, fun z22 => ⟨fun z => yes 23 (by decide) z, fun z23 => ⟨fun z24 => ⟨fun z => yes 25 (by decide) z, fun z25 => ⟨fun z => yes 26 (by decide) z, fun z26 => ⟨fun z => yes 27 (by decide) z, fun z27 => ⟨fun z => yes 28 (by decide) z, fun z28 => ⟨fun z29 => ⟨fun z30 => no ⟨z0, z1, z2, z3, z4, z5, z6, z7, z8, z9, z10, z11, z12, z13, z14, z15, z16, z17, z18, z19, z20, z21, z22, z23, z24, z25, z26, z27, z28, z29, z30⟩, fun z => yes 30 (by decide) z⟩, fun z => yes 29 (by decide) z⟩⟩⟩⟩⟩, fun z => yes 24 (by decide) z⟩⟩⟩⟩⟩, fun z => yes 19 (by decide) z⟩⟩⟩⟩⟩, fun z => yes 14 (by decide) z⟩⟩⟩⟩⟩, fun z => yes 9 (by decide) z⟩⟩⟩⟩⟩, fun z => yes 4 (by decide) z⟩⟩⟩⟩⟩
end OWN
