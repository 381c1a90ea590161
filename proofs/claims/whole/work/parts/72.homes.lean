/-! homes of both programs: which year tells -/
def mxF : Nat → (Int → Int) → Int
  | 0, _ => 0
  | n + 1, f => max (mxF n f) (f n)
/-- a and o both fit and are alike -/
def lkS (H : Int) (f : Int → Int) (a o : Int) : Bool := H.toNat.testBit a.toNat && (H.toNat.testBit o.toNat && decide (f a = f o))
/-- most of the first n that are alike -/
def moF (n : Nat) (H : Int) (f : Int → Int) : Int := mxF n (fun a => cntF n (lkS H f a))
/-- the year that tells -/
def teF (mo : Nat → Int) : Nat → Nat → Int → Int → Int
  | 0, _, best, _ => best
  | j + 1, y, best, few => if mo y < few then teF mo j (y + 1) y (mo y) else teF mo j (y + 1) best few
theorem mxF_bd {m : Int} (m0 : 0 ≤ m) {f : Int → Int} : ∀ n : Nat, (∀ k : Nat, k < n → f k ≤ m) → 0 ≤ mxF n f ∧ mxF n f ≤ m := by
  intro n
  induction n with
  | zero => intro _; exact ⟨Int.le_refl 0, m0⟩
  | succ n ih =>
    intro h
    have i := ih (fun k hk => h k (by omega))
    have := h n (by omega)
    show 0 ≤ max (mxF n f) (f n) ∧ max (mxF n f) (f n) ≤ m
    omega
theorem mxF_congr {f f2 : Int → Int} : ∀ n : Nat, (∀ k : Nat, k < n → f k = f2 k) → mxF n f = mxF n f2 := by
  intro n
  induction n with
  | zero => intro _; rfl
  | succ n ih =>
    intro h
    show max _ _ = max _ _
    rw [ih (fun k hk => h k (by omega)), h n (by omega)]
theorem mxF_nn {f : Int → Int} (n : Nat) : 0 ≤ mxF n f := by
  induction n with
  | zero => exact Int.le_refl 0
  | succ n ih => show 0 ≤ max _ _; omega
theorem mxF_ext {f : Int → Int} {n : Nat} : ∀ j : Nat, (∀ k : Nat, n ≤ k → k < n + j → f k = 0) → mxF (n + j) f = mxF n f := by
  intro j
  induction j with
  | zero => intro _; rfl
  | succ j ih =>
    intro h
    have i := ih (fun k h1 h2 => h k h1 (by omega))
    have z := h (n + j) (by omega) (by omega)
    have := mxF_nn (f := f) n
    show max (mxF (n + j) f) (f ((n + j : Nat) : Int)) = _
    rw [i, z]
    omega
theorem cntF_ex2 {p : Int → Bool} {n : Nat} : ∀ j : Nat, (∀ k : Nat, n ≤ k → k < n + j → p k = false) → cntF (n + j) p = cntF n p := by
  intro j
  induction j with
  | zero => intro _; rfl
  | succ j ih =>
    intro h
    have i := ih (fun k h1 h2 => h k h1 (by omega))
    have z := h (n + j) (by omega) (by omega)
    show cntF (n + j) p + (if p ((n + j : Nat) : Int) = true then 1 else 0) = _
    rw [i, z]
    simp
theorem moF_6 {H : Int} {f : Int → Int} {n : Nat} (hn : n ≤ 6) (hH : ∀ k : Nat, n ≤ k → H.toNat.testBit k = false) : moF 6 H f = moF n H f := by
  obtain ⟨j, ej⟩ : ∃ j, 6 = n + j := ⟨6 - n, by omega⟩
  rw [ej]
  unfold moF
  rw [mxF_ext j (fun k h1 h2 => cntF_0 (fun o ho => by unfold lkS; rw [Int.toNat_natCast, hH k h1]; rfl))]
  refine mxF_congr n (fun k hk => cntF_ex2 j (fun o h1 h2 => ?_))
  unfold lkS
  rw [show ((o : Nat) : Int).toNat = o from Int.toNat_natCast o, hH o h1]
  simp
theorem moF_congr {H : Int} {f f2 : Int → Int} {n : Nat} (h : ∀ k : Nat, k < n → f k = f2 k) : moF n H f = moF n H f2 := by
  unfold moF
  refine mxF_congr n (fun k hk => cntF_congr (fun o ho => ?_))
  unfold lkS
  rw [h k hk, h o ho]
theorem moF_bd {H : Int} {f : Int → Int} {n : Nat} (hn : n ≤ 6) : 0 ≤ moF n H f ∧ moF n H f ≤ 6 :=
  mxF_bd (by decide) n (fun k _ => by have := (cntF_le n (lkS H f k)).2; show cntF n (lkS H f k) ≤ 6; omega)
theorem teF_few {mo : Nat → Int} {j y : Nat} {best a c : Int} (hj : 0 < j) (h1 : mo y < a) (h2 : mo y < c) : teF mo j y best a = teF mo j y best c := by
  obtain ⟨i, rfl⟩ : ∃ i, j = i + 1 := ⟨j - 1, by omega⟩
  show (if mo y < a then _ else _) = (if mo y < c then _ else _)
  rw [if_pos h1, if_pos h2]
/-- the answer of homes(1) -/
def hoT (T : Tn) (bo H : Int) : Int := if H = 0 then -1 else teF (fun y => moF (T 1 0).toNat H (fun h => sbS T bo h y)) (T 0 15 - T 0 14).toNat 1 (-1) 7
section HOMES
variable {g : GT} {e : Nat} {s : Sg} {tw b bo n u H : Int} {T : Tn} {A : Wd} {U : Int → Wd}
theorem cm_15 {Q : Int → Sg → Prop} {v1 : Int} {a : Nat} (h87 : s 87 0 = H) (H0 : 0 ≤ H) (H1 : H < 64) (a6 : a < 6) (hq : P_X7_mostAlike_4 g e Q s (max v1 (cntF 6 (lkS H (s 88) a))) ((a : Int) + 1)) :
    ∀ (j o : Nat), o + j = 6 → P_X7_mostAlike_15 g e Q s v1 a (cntF o (lkS H (s 88) a)) o := by
  intro j
  induction j with
  | zero =>
    intro o ho
    refine S_X7_mostAlike_15 ⟨fun _ => ?_, fun q => absurd (by omega) q⟩
    rw [w32_of (show _ ≤ (a : Int) + 1 by omega) (by omega), show o = 6 by omega]
    exact hq
  | succ j ih =>
    intro o ho
    have cb := cntF_le o (lkS H (s 88) a)
    have i := ih (o + 1) (by omega)
    have i0 : lkS H (s 88) a o = false → P_X7_mostAlike_15 g e Q s v1 a (w32 (cntF o (lkS H (s 88) a) + 0)) (w32 ((o : Int) + 1)) := fun z => by
      have ec : cntF (o + 1) (lkS H (s 88) a) = cntF o (lkS H (s 88) a) := by show cntF o _ + (if lkS H (s 88) a o = true then 1 else 0) = _; rw [z]; simp
      rw [ec] at i
      rw [Int.add_zero, w32_of (by omega) (by omega), w32_of (by omega) (by omega)]
      exact i
    have i1 : lkS H (s 88) a o = true → P_X7_mostAlike_15 g e Q s v1 a (w32 (cntF o (lkS H (s 88) a) + 1)) (w32 ((o : Int) + 1)) := fun z => by
      have ec : cntF (o + 1) (lkS H (s 88) a) = cntF o (lkS H (s 88) a) + 1 := by show cntF o _ + (if lkS H (s 88) a o = true then 1 else 0) = _; rw [z]; simp
      rw [ec] at i
      rw [w32_of (by omega) (by omega), w32_of (by omega) (by omega)]
      exact i
    have b49 : lkS H (s 88) a o = false → P_X7_mostAlike_49 g e Q s v1 a (cntF o (lkS H (s 88) a)) o := fun z => S_X7_mostAlike_49 (S_X7_mostAlike_50 ⟨fun _ => i0 z, fun y => absurd rfl y⟩)
    refine S_X7_mostAlike_15 ⟨fun q => by omega, fun _ => ?_⟩
    rw [h87, bAnd_bit H0 (by omega) (by omega) (by omega), bAnd_bit H0 (by omega) (by omega) (by omega)]
    refine ⟨fun q => b49 ?_, fun q => ⟨fun q2 => b49 ?_, fun q2 => S_X7_mostAlike_50 ⟨fun y => by omega, fun _ => ⟨⟨by omega, by omega⟩, ⟨by omega, by omega⟩, fun q3 => i0 ?_, fun q3 => i1 ?_⟩⟩⟩⟩
    · unfold lkS; rw [q]; rfl
    · unfold lkS; rw [q2]; simp
    · unfold lkS; rw [decide_eq_false q3]; simp
    · unfold lkS
      rw [Bool.not_eq_false] at q q2
      rw [q, q2, decide_eq_true q3]; rfl
theorem C_mostAlike (h87 : s 87 0 = H) (H0 : 0 ≤ H) (H1 : H < 64) : Mw g (e + 1) M_X7_mostAlike [(16, 87)] s (Ex (moF 6 H (s 88)) s) := by
  have lp : ∀ (j a : Nat), a + j = 6 → P_X7_mostAlike_4 g e (Ex (moF 6 H (s 88)) s) s (mxF a (fun a => cntF 6 (lkS H (s 88) a))) a := by
    intro j
    induction j with
    | zero =>
      intro a ha
      refine S_X7_mostAlike_4 ⟨fun _ => ?_, fun q => absurd (by omega) q⟩
      rw [show a = 6 by omega]
      exact ⟨rfl, rfl⟩
    | succ j ih =>
      intro a ha
      exact S_X7_mostAlike_4 ⟨fun q => by omega, fun _ => cm_15 h87 H0 H1 (by omega) (ih (a + 1) (by omega)) 6 0 (by omega)⟩
  exact S_X7_mostAlike (lp 6 0 (by omega))
end HOMES
