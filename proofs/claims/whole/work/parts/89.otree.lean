/-! order: the tree of rows against the count of ways -/
/-- the digits of a code, d of them, to the base m -/
def prD (m : Nat) : Nat → Nat → Int → Int
  | 0, _, _ => 0
  | d + 1, P, i => if i = (d : Int) then ((P % m : Nat) : Int) else prD m d (P / m) i
def fU (D : Int → Int) : Nat → Int
  | 0 => 0
  | n + 1 => bOr (fU D n) (bShl 1 (D n))
def fwF (T : Tn) (A : Wd) (r : Int → Int) : Nat → Wd × Int
  | 0 => (A, 0)
  | n + 1 => (bldA T (fwF T A r n).1 (r n), (fwF T A r n).2 + b1S T (fwF T A r n).1 (r n))
def fuS (m : Nat) : Int := 2 ^ m - 1
def stp (T : Tn) (A : Wd) (m y : Nat) (st : OS) : OS := if fU (prD m m y) m = fuS m then lea (fwF T A (fun i => jhS T A (prD m m y i)) m).2 (fun i => jhS T A (prD m m y i)) st else st
/-- those on the shelf that are not used -/
def lfN (T : Tn) (A : Wd) (U c : Int) : Bool := pS T A c && !U.toNat.testBit (cntF c.toNat (pS T A)).toNat
theorem fldF_add : ∀ (b a : Nat) (f : Nat → OS → OS) (st : OS), fldF (a + b) f st = fldF b (fun x => f (a + x)) (fldF a f st) := by
  intro b
  induction b with
  | zero => intros; rfl
  | succ b ih =>
    intro a f st
    show f (a + b) (fldF (a + b) f st) = f (a + b) (fldF b (fun x => f (a + x)) (fldF a f st))
    rw [ih]
theorem fldF_mul : ∀ (a q : Nat) (f : Nat → OS → OS) (st : OS), fldF (a * q) f st = fldF a (fun j st => fldF q (fun x => f (j * q + x)) st) st := by
  intro a
  induction a with
  | zero => intro q f st; rw [Nat.zero_mul]; rfl
  | succ a ih =>
    intro q f st
    rw [Nat.succ_mul, fldF_add, ih]
    rfl
theorem prD_bd {m : Nat} (hm : 0 < m) : ∀ (d P : Nat) (i : Int), 0 ≤ prD m d P i ∧ prD m d P i < m := by
  intro d
  induction d with
  | zero => intro P i; exact ⟨Int.le_refl 0, by show (0 : Int) < m; omega⟩
  | succ d ih =>
    intro P i
    unfold prD
    have := Nat.mod_lt P hm
    split
    · omega
    · exact ih _ _
theorem prD_ch {m j : Nat} (hj : j < m) (d P : Nat) : prD m (d + 1) (P * m + j) = snB (prD m d P) d j := by
  funext i
  unfold prD snB
  have h1 : (P * m + j) / m = P := by
    rw [Nat.mul_comm, Nat.mul_add_div (by omega), Nat.div_eq_of_lt hj, Nat.add_zero]
  have h2 : (P * m + j) % m = j := by
    rw [Nat.mul_comm, Nat.mul_add_mod, Nat.mod_eq_of_lt hj]
  rw [h1, h2]
theorem fU_congr {D D2 : Int → Int} : ∀ n : Nat, (∀ i : Nat, i < n → D i = D2 i) → fU D n = fU D2 n := by
  intro n
  induction n with
  | zero => intro _; rfl
  | succ n ih =>
    intro h
    unfold fU
    rw [ih (fun i hi => h i (by omega)), h n (by omega)]
theorem fw_congr {T : Tn} {A : Wd} {r r2 : Int → Int} : ∀ n : Nat, (∀ i : Nat, i < n → r i = r2 i) → fwF T A r n = fwF T A r2 n := by
  intro n
  induction n with
  | zero => intro _; rfl
  | succ n ih =>
    intro h
    unfold fwF
    rw [ih (fun i hi => h i (by omega)), h n (by omega)]
theorem fU_bd {D : Int → Int} : ∀ n : Nat, (∀ i : Nat, i < n → 0 ≤ D i ∧ D i < 6) → 0 ≤ fU D n ∧ fU D n < 64 := by
  intro n
  induction n with
  | zero => intro _; exact ⟨Int.le_refl 0, by show (0 : Int) < 64; decide⟩
  | succ n ih =>
    intro h
    have i := ih (fun i hi => h i (by omega))
    have hd := h n (by omega)
    have b := bShl1 (k := D n) hd.1 (by omega)
    have p : 2 ^ (D n).toNat ≤ 2 ^ 5 := Nat.pow_le_pow_right (by omega) (by omega)
    have b64 : 0 ≤ bShl 1 (D n) ∧ bShl 1 (D n) < 64 := by
      rw [b]
      generalize 2 ^ (D n).toNat = z at p
      omega
    exact bOr_lt (n := 6) i.1 i.2 b64.1 b64.2 (by decide)
theorem fU_bit {D : Int → Int} {n : Nat} (h : ∀ i : Nat, i < n + 1 → 0 ≤ D i ∧ D i < 6) (j : Nat) : (fU D (n + 1)).toNat.testBit j = ((fU D n).toNat.testBit j || decide ((j : Int) = D n)) := by
  have i := fU_bd n (fun i hi => h i (by omega))
  have hd := h n (by omega)
  have b := bShl_8 (k := D n) hd.1 (by omega)
  show (bOr (fU D n) (bShl 1 (D n))).toNat.testBit j = _
  rw [bOr_bit i.1 (by omega) b.1 (by omega), bShl1_bit hd.1 (by omega)]
theorem fU_pop {D : Int → Int} {n : Nat} (h : ∀ i : Nat, i < n + 1 → 0 ≤ D i ∧ D i < 6) : ((fU D n).toNat.testBit (D n).toNat = true → fU D (n + 1) = fU D n) ∧ ((fU D n).toNat.testBit (D n).toNat = false → popF (fU D (n + 1)) = popF (fU D n) + 1) := by
  have i := fU_bd n (fun i hi => h i (by omega))
  have i2 := fU_bd (n + 1) h
  have hd := h n (by omega)
  refine ⟨fun z => eq_bits i2.1 i.1 (fun j => ?_), fun z => ?_⟩
  · rw [fU_bit h]
    by_cases y : (j : Int) = D n
    · have : j = (D n).toNat := by omega
      rw [this, z]; rfl
    · rw [decide_eq_false y, Bool.or_false]
  · exact pop_or i.1 (by omega) hd.1 (by omega) z
theorem fU_le {D : Int → Int} : ∀ n : Nat, (∀ i : Nat, i < n → 0 ≤ D i ∧ D i < 6) → popF (fU D n) ≤ n := by
  intro n
  induction n with
  | zero => intro _; show popF 0 ≤ 0; decide
  | succ n ih =>
    intro h
    have i := ih (fun i hi => h i (by omega))
    have p := fU_pop h
    cases z : (fU D n).toNat.testBit (D n).toNat with
    | true => rw [p.1 z]; omega
    | false => rw [p.2 z]; omega
theorem fu_b : ∀ m : Nat, m ≤ 6 → ∀ j : Nat, j < 8 → (fuS m).toNat.testBit j = decide (j < m) := by
  intro m hm
  rcases (show m = 0 ∨ m = 1 ∨ m = 2 ∨ m = 3 ∨ m = 4 ∨ m = 5 ∨ m = 6 by omega) with z | z | z | z | z | z | z <;> rw [z] <;> decide
theorem fu_p : ∀ m : Nat, m ≤ 6 → popF (fuS m) = m ∧ 0 ≤ fuS m ∧ fuS m < 64 := by
  intro m hm
  rcases (show m = 0 ∨ m = 1 ∨ m = 2 ∨ m = 3 ∨ m = 4 ∨ m = 5 ∨ m = 6 by omega) with z | z | z | z | z | z | z <;> rw [z] <;> decide
theorem fU_in {D : Int → Int} {m : Nat} : ∀ n : Nat, m ≤ 6 → (∀ i : Nat, i < n → 0 ≤ D i ∧ D i < m) → ∀ j : Nat, (fU D n).toNat.testBit j = true → j < m := by
  intro n
  induction n with
  | zero => intro _ _ j z; exact absurd z (by show ¬ (Nat.testBit (0 : Int).toNat j = true); simp)
  | succ n ih =>
    intro hm h j z
    have hd := h n (by omega)
    rw [fU_bit (fun i hi => by have := h i hi; omega)] at z
    rw [Bool.or_eq_true, decide_eq_true_eq] at z
    rcases z with y | y
    · exact ih hm (fun i hi => h i (by omega)) j y
    · omega
/-- all are used just when m of m are -/
theorem fu_iff {D : Int → Int} {m : Nat} (hm : m ≤ 6) (h : ∀ i : Nat, i < m → 0 ≤ D i ∧ D i < m) : fU D m = fuS m ↔ popF (fU D m) = m := by
  have fp := fu_p m hm
  have bd := fU_bd m (D := D) (fun i hi => by have := h i hi; omega)
  constructor
  · intro z; rw [z]; exact fp.1
  · intro z
    apply Classical.byContradiction
    intro y
    have sub : ∀ j, (fU D m).toNat.testBit j = true → (fuS m).toNat.testBit j = true := fun j hj => by
      have := fU_in m hm h j hj
      rw [fu_b m hm j (by omega)]
      exact decide_eq_true this
    have := (popN_sub 12 (fU D m).toNat (fuS m).toNat sub).2 (by show (fU D m).toNat < 4096; omega) (by show (fuS m).toNat < 4096; omega) (by omega)
    have a : popF (fU D m) = (popN 12 (fU D m).toNat : Nat) := rfl
    have b : popF (fuS m) = (popN 12 (fuS m).toNat : Nat) := rfl
    omega
section OTREE
variable {T : Tn} {A : Wd}
theorem reidx {U : Int} {G : Int → OS → OS} {st : OS} : ∀ N : Nat, N ≤ 8 → fldF N (fun c st => if lfN T A U c then G c st else st) st = fldF (cntF N (pS T A)).toNat (fun j st => if U.toNat.testBit j then st else G (jhS T A j) st) st := by
  intro N
  induction N with
  | zero => intro _; rfl
  | succ N ih =>
    intro hN
    have cb := cntF_le N (pS T A)
    show (if lfN T A U N then G N (fldF N _ st) else fldF N _ st) = _
    rw [ih (by omega)]
    cases hp : pS T A N with
    | true =>
      rw [cntF_s hp, show (cntF N (pS T A) + 1).toNat = (cntF N (pS T A)).toNat + 1 by omega]
      show _ = (if U.toNat.testBit (cntF N (pS T A)).toNat then fldF (cntF N (pS T A)).toNat _ st else G (jhS T A ((cntF N (pS T A)).toNat : Nat)) (fldF (cntF N (pS T A)).toNat _ st))
      rw [show (((cntF N (pS T A)).toNat : Nat) : Int) = cntF N (pS T A) by omega, sh_c (by omega) hp]
      unfold lfN
      rw [hp, Int.toNat_natCast]
      cases U.toNat.testBit (cntF N (pS T A)).toNat <;> rfl
    | false =>
      rw [cntF_n hp]
      unfold lfN
      rw [hp]
      rfl
theorem lfN_ch {U U2 : Int} {j : Nat} (hj : (j : Int) < omS T A) (hU : ∀ i : Nat, U2.toNat.testBit i = (U.toNat.testBit i || decide (i = j))) (c : Int) (c0 : 0 ≤ c) (c8 : c < 8) : (lfN T A U c && !(c == jhS T A j)) = lfN T A U2 c := by
  unfold lfN
  rw [hU]
  cases hp : pS T A c with
  | false => rfl
  | true =>
    have cb := cntF_le c.toNat (pS T A)
    have e : (c == jhS T A j) = decide ((cntF c.toNat (pS T A)).toNat = j) := by
      apply Bool.eq_iff_iff.mpr
      rw [beq_iff_eq, decide_eq_true_eq]
      constructor
      · intro z
        have := (sh_in (T := T) (A := A) (j := (j : Int)) (by omega) hj).2.2
        rw [← z] at this
        omega
      · intro z
        have := sh_c (T := T) (A := A) (c := c.toNat) (by omega) (by rw [show ((c.toNat : Nat) : Int) = c by omega]; exact hp)
        rw [show cntF c.toNat (pS T A) = (j : Int) by omega] at this
        omega
    rw [e]
    cases U.toNat.testBit (cntF c.toNat (pS T A)).toNat <;> cases decide ((cntF c.toNat (pS T A)).toNat = j) <;> rfl
theorem tree {m : Nat} (hm : m ≤ 6) (hmo : m = omS T A) : ∀ (k d P : Nat) (st : OS), d + k = m →
    fldF (m ^ k) (fun x => stp T A m (P * m ^ k + x)) st = if popF (fU (prD m d P) d) = d then ordF T k d (fun i => jhS T A (prD m d P i)) (fwF T A (fun i => jhS T A (prD m d P i)) d).1 (lfN T A (fU (prD m d P) d)) (fwF T A (fun i => jhS T A (prD m d P i)) d).2 st else st := by
  intro k
  induction k with
  | zero =>
    intro d P st hd
    have hd' : d = m := by omega
    subst hd'
    show stp T A d (P * d ^ 0 + 0) st = _
    rw [Nat.pow_zero, Nat.mul_one, Nat.add_zero]
    unfold stp
    have key : fU (prD d d P) d = fuS d ↔ popF (fU (prD d d P) d) = d := fu_iff hm (fun i hi => prD_bd (by omega) d P i)
    by_cases z : popF (fU (prD d d P) d) = d
    · rw [if_pos (key.mpr z), if_pos z]
      rfl
    · rw [if_neg (fun y => z (key.mp y)), if_neg z]
  | succ k ih =>
    intro d P st hd
    have m0 : 0 < m := by omega
    rw [Nat.pow_succ, Nat.mul_comm (m ^ k) m, fldF_mul]
    have bd : ∀ i : Nat, i < d → 0 ≤ prD m d P i ∧ prD m d P i < 6 := fun i _ => by have := prD_bd m0 d P i; omega
    have le := fU_le d bd
    have inner : ∀ j, j < m → ∀ st, fldF (m ^ k) (fun x => stp T A m (P * (m * m ^ k) + (j * m ^ k + x))) st =
        if popF (fU (prD m d P) d) = d ∧ (fU (prD m d P) d).toNat.testBit j = false then ordF T k (d + 1) (snB (fun i => jhS T A (prD m d P i)) d (jhS T A j)) (bldA T (fwF T A (fun i => jhS T A (prD m d P i)) d).1 (jhS T A j)) (fun x => lfN T A (fU (prD m d P) d) x && !(x == jhS T A j)) ((fwF T A (fun i => jhS T A (prD m d P i)) d).2 + b1S T (fwF T A (fun i => jhS T A (prD m d P i)) d).1 (jhS T A j)) st else st := by
      intro j hj st
      have e1 : (fun x => stp T A m (P * (m * m ^ k) + (j * m ^ k + x))) = (fun x => stp T A m ((P * m + j) * m ^ k + x)) := by
        funext x
        rw [Nat.add_mul, Nat.mul_assoc, Nat.add_assoc]
      rw [e1, ih (d + 1) (P * m + j) st (by omega), prD_ch hj]
      have sn : ∀ i : Nat, i < d → snB (prD m d P) d (j : Int) i = prD m d P i := fun i hi => by unfold snB; rw [if_neg (by omega)]
      have snd : snB (prD m d P) d (j : Int) d = j := by unfold snB; rw [if_pos rfl]
      have bd2 : ∀ i : Nat, i < d + 1 → 0 ≤ snB (prD m d P) d (j : Int) i ∧ snB (prD m d P) d (j : Int) i < 6 := fun i hi => by
        by_cases z : i = d
        · rw [z, snd]; omega
        · rw [sn i (by omega)]; exact bd i (by omega)
      have eU : fU (snB (prD m d P) d (j : Int)) d = fU (prD m d P) d := fU_congr d sn
      have pp := fU_pop bd2
      rw [eU, snd, Int.toNat_natCast] at pp
      have cond : popF (fU (snB (prD m d P) d (j : Int)) (d + 1)) = ((d + 1 : Nat) : Int) ↔ popF (fU (prD m d P) d) = d ∧ (fU (prD m d P) d).toNat.testBit j = false := by
        cases z : (fU (prD m d P) d).toNat.testBit j with
        | true =>
          rw [pp.1 z]
          constructor
          · intro y; omega
          · intro y; cases y.2
        | false =>
          rw [pp.2 z]
          constructor
          · intro y; exact ⟨by omega, rfl⟩
          · intro y; omega
      by_cases c : popF (fU (prD m d P) d) = d ∧ (fU (prD m d P) d).toNat.testBit j = false
      · rw [if_pos (cond.mpr c), if_pos c]
        have er : (fun i => jhS T A (snB (prD m d P) d (j : Int) i)) = snB (fun i => jhS T A (prD m d P i)) d (jhS T A j) := by
          funext i
          unfold snB
          split <;> rfl
        rw [er]
        have ew : fwF T A (snB (fun i => jhS T A (prD m d P i)) d (jhS T A j)) d = fwF T A (fun i => jhS T A (prD m d P i)) d := fw_congr d (fun i hi => by unfold snB; rw [if_neg (by omega)])
        have el : snB (fun i => jhS T A (prD m d P i)) d (jhS T A j) d = jhS T A j := by unfold snB; rw [if_pos rfl]
        have ef : fwF T A (snB (fun i => jhS T A (prD m d P i)) d (jhS T A j)) (d + 1) = (bldA T (fwF T A (fun i => jhS T A (prD m d P i)) d).1 (jhS T A j), (fwF T A (fun i => jhS T A (prD m d P i)) d).2 + b1S T (fwF T A (fun i => jhS T A (prD m d P i)) d).1 (jhS T A j)) := by
          show (bldA T (fwF T A _ d).1 (snB _ _ _ d), (fwF T A _ d).2 + b1S T (fwF T A _ d).1 (snB _ _ _ d)) = _
          rw [ew, el]
        rw [ef]
        refine ord_congr k (d + 1) _ _ _ _ _ st (fun x x0 x8 => ?_)
        refine (lfN_ch (by omega) (fun i => ?_) x x0 x8).symm
        rw [fU_bit bd2, eU, snd]
        congr 1
        apply Bool.eq_iff_iff.mpr
        rw [decide_eq_true_eq, decide_eq_true_eq]
        omega
      · rw [if_neg (fun y => c (cond.mp y)), if_neg c]
    rw [fldF_congr m inner]
    by_cases z : popF (fU (prD m d P) d) = d
    · rw [if_pos z]
      show _ = fldF 8 (fun c st => if lfN T A (fU (prD m d P) d) c then ordF T k (d + 1) (snB (fun i => jhS T A (prD m d P i)) d c) (bldA T (fwF T A (fun i => jhS T A (prD m d P i)) d).1 c) (fun x => lfN T A (fU (prD m d P) d) x && !(x == (c : Int))) ((fwF T A (fun i => jhS T A (prD m d P i)) d).2 + b1S T (fwF T A (fun i => jhS T A (prD m d P i)) d).1 c) st else st) st
      have rd := reidx (T := T) (A := A) (U := fU (prD m d P) d) (st := st) (G := fun c st => ordF T k (d + 1) (snB (fun i => jhS T A (prD m d P i)) d c) (bldA T (fwF T A (fun i => jhS T A (prD m d P i)) d).1 c) (fun x => lfN T A (fU (prD m d P) d) x && !(x == c)) ((fwF T A (fun i => jhS T A (prD m d P i)) d).2 + b1S T (fwF T A (fun i => jhS T A (prD m d P i)) d).1 c) st) 8 (Nat.le_refl 8)
      refine Eq.trans ?_ rd.symm
      have em : (cntF 8 (pS T A)).toNat = m := hmo.symm
      rw [em]
      refine fldF_congr m (fun j hj st => ?_)
      cases y : (fU (prD m d P) d).toNat.testBit j with
      | true => rw [if_neg (fun x => by cases x.2), if_pos rfl]
      | false => rw [if_pos ⟨z, rfl⟩, if_neg (by decide)]
    · rw [if_neg z]
      exact fldF_id m (fun j hj => by rw [if_neg (fun y => z y.1)])
theorem all_ways (hm : omS T A ≤ 6) (st : OS) : fldF (omS T A ^ omS T A) (stp T A (omS T A)) st = ordF T (omS T A) 0 (fun _ => jhS T A 0) A (pS T A) 0 st := by
  have := tree hm rfl (omS T A) 0 0 st (by omega)
  rw [Nat.zero_mul, if_pos (show popF (fU (prD (omS T A) 0 0) 0) = ((0 : Nat) : Int) from (by decide : popF 0 = 0))] at this
  have e : (fun x => stp T A (omS T A) (0 + x)) = stp T A (omS T A) := by funext x; rw [Nat.zero_add]
  rw [e] at this
  rw [this]
  refine ord_congr _ _ _ _ _ _ _ st (fun c c0 c8 => ?_)
  show (pS T A c && !(0 : Int).toNat.testBit _) = _
  simp
end OTREE
