/-! props: which stones hold, propped; both programs -/
/-- how many lie from a spot on upwards, up to the first free or propped one -/
def abS (A : Wd) (p : Int) : Nat → Int → Int
  | 0, _ => 0
  | n + 1, k => if A 4 k = -1 ∨ p.toNat.testBit (A 4 k).toNat = true then 0 else 1 + abS A p n (k + 1)
/-- what lies at spot k is propped, or holds after a loss l -/
def hpK (T : Tn) (A : Wd) (l p k : Int) : Bool := A 4 k == -1 || (p.toNat.testBit (A 4 k).toNat || decide (abS A p (3 - k % 4).toNat (k + 1) * T 0 16 ≤ beaS T A (A 4 k) l))
def hpB (T : Tn) (A : Wd) (l w p : Int) : Bool := allF 16 (fun j => hpK T A l p (16 * w + j))
/-- the fewest, the least: from bits b on, n of them, ch so far -/
def fpF (f : Int → Bool) (S : Int) : Nat → Int → Int → Int
  | 0, _, ch => ch
  | n + 1, b, ch => if bAnd b (bXor S (-1)) = 0 ∧ popF b < popF ch ∧ f b = true then fpF f S n (b + 1) b else fpF f S n (b + 1) ch
def prS (T : Tn) (A : Wd) (w : Int) : Int := if 0 ≤ w ∧ w < T 1 2 then fpF (hpB T A (T 0 18) w) (stW T A w) 256 0 (stW T A w) else -1
theorem abS_bd (A : Wd) (p : Int) : ∀ (n : Nat) (k : Int), 0 ≤ abS A p n k ∧ abS A p n k ≤ n := by
  intro n
  induction n with
  | zero => intro k; exact ⟨Int.le_refl 0, Int.le_refl 0⟩
  | succ n ih =>
    intro k
    have i := ih (k + 1)
    unfold abS
    split <;> omega
theorem hpB_iff {T : Tn} {A : Wd} {l w p : Int} : hpB T A l w p = true ↔ ∀ k, 16 * w ≤ k → k < 16 * w + 16 → hpK T A l p k = true := by
  unfold hpB
  rw [allF_iff]
  constructor
  · intro h k k0 k1
    have := h (k - 16 * w).toNat (by omega)
    rw [show 16 * w + (((k - 16 * w).toNat : Nat) : Int) = k by omega] at this
    exact this
  · intro h k hk
    exact h _ (by omega) (by omega)
theorem hpB_no {T : Tn} {A : Wd} {l w p k : Int} (k0 : 16 * w ≤ k) (k1 : k < 16 * w + 16) (h : hpK T A l p k = false) : hpB T A l w p = false := by
  apply Bool.eq_false_iff.mpr
  intro q
  rw [hpB_iff.mp q k k0 k1] at h
  cases h
theorem stW_bd {T : Tn} {A : Wd} (hT : TOK T) (w : Int) : 0 ≤ stW T A w ∧ stW T A w < 256 := by
  have t8 := hT.2.1
  have := setF_lt (T 1 1).toNat (inW A w)
  unfold stW
  have h2 : (2 : Int) ^ (T 1 1).toNat ≤ 2 ^ 8 := by
    rw [pow2, pow2]
    have := Nat.pow_le_pow_right (show 0 < 2 by omega) (show (T 1 1).toNat ≤ 8 by omega)
    omega
  have h8 : (2 : Int) ^ 8 = 256 := by decide
  omega
section PROPS1
variable {g : GT} {e : Nat} {s : Sg} {T : Tn} {A : Wd} {tw w p : Int}
theorem ch_32 (hx : CX s 48 tw T A) (hW : WOK T A) (w0 : 0 ≤ w) (w1 : w < T 1 2) (p0 : 0 ≤ p) (p1 : p < 256) {Q : Int → Sg → Prop} {c : Int} (c0 : 0 ≤ c) (c4 : c < 4)
    (hn : (∀ j, 0 ≤ j → j < 4 → hpK T A (T 0 18) p (16 * w + 4 * c + j) = true) → P_X5_holdsPropped_2 g (e + 2) Q s 48 w p (c + 1)) (hq : ∀ j, 0 ≤ j → j < 4 → hpK T A (T 0 18) p (16 * w + 4 * c + j) = false → Q 0 s) :
    ∀ (n : Nat), n ≤ 4 → (∀ j : Int, n ≤ j → j < 4 → hpK T A (T 0 18) p (16 * w + 4 * c + j) = true) → P_X5_holdsPropped_32 g (e + 2) Q s 48 w p c (abS A p (4 - n) (16 * w + 4 * c + n)) ((n : Int) - 1) := by
  have hT := hx.ok
  have t2 := hT.2.2.1
  have tw16 := hT.2.2.2.2.2.2.2.2.2.2.1
  have t18 := hT.2.2.2.2.2.2.2.2.2.2.2.2
  intro n
  induction n with
  | zero =>
    intro _ hk
    refine S_X5_holdsPropped_32 ⟨fun _ => ?_, fun q => absurd (by omega) q⟩
    rw [w32_of (by omega) (by omega)]
    exact hn (fun j j0 j1 => hk j (by omega) j1)
  | succ n ih =>
    intro n4 hk
    have ab := abS_bd A p (4 - (n + 1)) (16 * w + 4 * c + ((n + 1 : Nat) : Int))
    have i := ih (by omega)
    rw [show 4 - n = (4 - (n + 1)) + 1 by omega] at i
    have er : (3 - (16 * w + 4 * c + (n : Int)) % 4).toNat = 4 - (n + 1) := by omega
    have eu : abS A p (4 - (n + 1) + 1) (16 * w + 4 * c + (n : Int)) = if A 4 (16 * w + 4 * c + (n : Int)) = -1 ∨ p.toNat.testBit (A 4 (16 * w + 4 * c + (n : Int))).toNat = true then 0 else 1 + abS A p (4 - (n + 1)) (16 * w + 4 * c + (n : Int) + 1) := rfl
    have ek : hpK T A (T 0 18) p (16 * w + 4 * c + (n : Int)) = (A 4 (16 * w + 4 * c + (n : Int)) == -1 || (p.toNat.testBit (A 4 (16 * w + 4 * c + (n : Int))).toNat || decide (abS A p (4 - (n + 1)) (16 * w + 4 * c + (n : Int) + 1) * T 0 16 ≤ beaS T A (A 4 (16 * w + 4 * c + (n : Int))) (T 0 18)))) := by unfold hpK; rw [er]
    have nx : hpK T A (T 0 18) p (16 * w + 4 * c + (n : Int)) = true → ∀ j : Int, n ≤ j → j < 4 → hpK T A (T 0 18) p (16 * w + 4 * c + j) = true := fun z j j0 j1 => by
      by_cases y : j = n
      · rw [y]; exact z
      · exact hk j (by omega) j1
    refine S_X5_holdsPropped_32 ⟨fun q => absurd q (by omega), fun _ => ?_⟩
    rw [show ((n + 1 : Nat) : Int) - 1 = (n : Int) by omega, w32_of (show _ ≤ (n : Int) + -1 by omega) (by omega), show (n : Int) + -1 = (n : Int) - 1 by omega]
    refine Mw.ex (C_spot w0 (by omega) c0 (by omega) (by omega) (by omega)) ⟨⟨by omega, by omega⟩, ?_⟩
    rw [hx.w4]
    refine ⟨fun z => ?_, fun z => ?_⟩
    · have k1 := i (nx (by rw [ek, z]; rfl))
      rw [eu, if_pos (Or.inl z)] at k1
      exact k1
    · obtain ⟨z1, z2, z3⟩ := (hW.2.1.2 (16 * w + 4 * c + n) (by omega) (by omega)).resolve_left z
      rw [bAnd_bit p0 (by omega) z1 (by omega)]
      refine ⟨fun y => ?_, fun y => ?_⟩
      · rw [hx.tp, hx.t0]
        refine Mw.ex (C_bears hx hW.2.1 z1 z2 t18.1 t18.2 (by rw [z3]; omega)) ?_
        rw [hx.tp, hx.t0]
        have m1 := Int.mul_nonneg ab.1 tw16.1
        have m2 := Int.mul_le_mul_of_nonneg_right (show abS A p (4 - (n + 1)) (16 * w + 4 * c + ((n + 1 : Nat) : Int)) ≤ 4 by omega) tw16.1
        rw [w32_of (show _ ≤ abS A p (4 - (n + 1)) (16 * w + 4 * c + ((n + 1 : Nat) : Int)) * T 0 16 by omega) (by omega), w32_of (show _ ≤ abS A p (4 - (n + 1)) (16 * w + 4 * c + ((n + 1 : Nat) : Int)) + 1 by omega) (by omega), show 16 * w + 4 * c + ((n + 1 : Nat) : Int) = 16 * w + 4 * c + (n : Int) + 1 by omega]
        refine ⟨fun x => ?_, fun x => hq n (by omega) (by omega) ?_⟩
        · have k1 := i (nx (by rw [ek, decide_eq_true x]; simp))
          rw [eu, if_neg (fun u => by rcases u with u | u; exact z u; rw [y] at u; cases u), Int.add_comm] at k1
          exact k1
        · rw [ek, decide_eq_false x, y]
          simp [z]
      · have y2 : p.toNat.testBit (A 4 (16 * w + 4 * c + (n : Int))).toNat = true := by
          cases hb : p.toNat.testBit (A 4 (16 * w + 4 * c + (n : Int))).toNat with
          | true => rfl
          | false => exact absurd hb y
        have k1 := i (nx (by rw [ek, y2]; simp))
        rw [eu, if_pos (Or.inr y2)] at k1
        exact k1
theorem ch_2 (hx : CX s 48 tw T A) (hW : WOK T A) (w0 : 0 ≤ w) (w1 : w < T 1 2) (p0 : 0 ≤ p) (p1 : p < 256) :
    ∀ (m : Nat) (c : Int), 0 ≤ c → c + m = T 11 w → (∀ j, 0 ≤ j → j < 4 * c → hpK T A (T 0 18) p (16 * w + j) = true) → P_X5_holdsPropped_2 g (e + 2) (Ex (if hpB T A (T 0 18) w p then 1 else 0) s) s 48 w p c := by
  have hT := hx.ok
  have t2 := hT.2.2.1
  have tw11 := (hT.2.2.2.2.2.2.2.1 w w0 w1).1
  have free : ∀ k, 16 * w ≤ k → k < 16 * w + 16 → A 5 (k / 4) ≤ k % 4 → A 4 k = -1 := fun k k0 k1 h => by
    have := (hW.2.2.1 (k / 4) (by omega) (by omega)).2.2 (k % 4) (by omega) (by omega)
    rw [show 4 * (k / 4) + k % 4 = k by omega] at this
    exact this.mpr h
  have hfr : ∀ k, A 4 k = -1 → hpK T A (T 0 18) p k = true := fun k z => by unfold hpK; rw [z]; rfl
  intro m
  induction m with
  | zero =>
    intro c c0 hc hk
    refine S_X5_holdsPropped_2 ⟨⟨by omega, by omega⟩, ?_⟩
    rw [hx.tp, hx.t11]
    refine ⟨fun _ => ⟨?_, rfl⟩, fun q => absurd (by omega) q⟩
    rw [if_pos]
    refine hpB_iff.mpr (fun k k0 k1 => ?_)
    by_cases z : k < 16 * w + 4 * c
    · have := hk (k - 16 * w) (by omega) (by omega)
      rw [show 16 * w + (k - 16 * w) = k by omega] at this
      exact this
    · have h0 := height_0 hW (q := k / 4) (by omega) (by omega) (by rw [show k / 4 / 4 = w by omega]; omega)
      exact hfr k (free k k0 k1 (by omega))
  | succ m ih =>
    intro c c0 hc hk
    refine S_X5_holdsPropped_2 ⟨⟨by omega, by omega⟩, ?_⟩
    rw [hx.tp, hx.t11, hx.w5, w32_of (show _ ≤ w * 4 by omega) (by omega), w32_of (show _ ≤ w * 4 + c by omega) (by omega)]
    have hh := hW.2.2.1 (w * 4 + c) (by omega) (by omega)
    refine ⟨fun q => absurd q (by omega), fun _ => ⟨⟨by omega, by omega⟩, ?_⟩⟩
    rw [w32_of (show _ ≤ A 5 (w * 4 + c) - 1 by omega) (by omega)]
    have := ch_32 (g := g) (e := e) (Q := Ex (if hpB T A (T 0 18) w p then 1 else 0) s) hx hW w0 w1 p0 p1 c0 (by omega) (fun z => ih (c + 1) (by omega) (by omega) (fun j j0 j1 => ?_)) (fun j j0 j1 z => ⟨?_, rfl⟩) (A 5 (w * 4 + c)).toNat (by omega) (fun j j0 j1 => ?_)
    · rw [show (((A 5 (w * 4 + c)).toNat : Nat) : Int) = A 5 (w * 4 + c) by omega] at this
      have ab0 : abS A p (4 - (A 5 (w * 4 + c)).toNat) (16 * w + 4 * c + A 5 (w * 4 + c)) = 0 := by
        by_cases z : A 5 (w * 4 + c) = 4
        · rw [z]; rfl
        · obtain ⟨r, hr⟩ : ∃ r, 4 - (A 5 (w * 4 + c)).toNat = r + 1 := ⟨3 - (A 5 (w * 4 + c)).toNat, by omega⟩
          rw [hr]
          unfold abS
          rw [if_pos (Or.inl (free _ (by omega) (by omega) (by rw [show (16 * w + 4 * c + A 5 (w * 4 + c)) / 4 = w * 4 + c by omega]; omega)))]
      rw [ab0] at this
      exact this
    · by_cases y : j < 4 * c
      · exact hk j j0 y
      · have := z (j - 4 * c) (by omega) (by omega)
        rw [show 16 * w + 4 * c + (j - 4 * c) = 16 * w + j by omega] at this
        exact this
    · rw [hpB_no (k := 16 * w + 4 * c + j) (by omega) (by omega) z]
      rfl
    · exact hfr _ (free _ (by omega) (by omega) (by rw [show (16 * w + 4 * c + j) / 4 = w * 4 + c by omega]; omega))
theorem C_holdsPropped (hx : CX s 48 tw T A) (hW : WOK T A) (w0 : 0 ≤ w) (w1 : w < T 1 2) (p0 : 0 ≤ p) (p1 : p < 256) : Mw g (e + 3) M_X5_holdsPropped [(19, 48), (0, w), (0, p)] s (Ex (if hpB T A (T 0 18) w p then 1 else 0) s) := by
  have tw11 := (hx.ok.2.2.2.2.2.2.2.1 w w0 w1).1
  exact S_X5_holdsPropped (fun _ _ _ => ch_2 hx hW w0 w1 p0 p1 (T 11 w).toNat 0 (by decide) (by omega) (fun j j0 j1 => by omega))
theorem cp_77 (hx : CX s 48 tw T A) (hW : WOK T A) (w0 : 0 ≤ w) (w1 : w < T 1 2) {S : Int} :
    ∀ (n : Nat) (b ch : Int), 0 ≤ b → b + n = 256 → 0 ≤ ch → ch < 256 → P_X5_fewestProps_77 g (e + 3) (Ex (fpF (hpB T A (T 0 18) w) S n b ch) s) s 48 w S ch b := by
  intro n
  induction n with
  | zero =>
    intro b ch b0 hb c0 c1
    exact S_X5_fewestProps_77 ⟨fun _ => ⟨rfl, rfl⟩, fun q => absurd (by omega) q⟩
  | succ n ih =>
    intro b ch b0 hb c0 c1
    refine S_X5_fewestProps_77 ⟨fun q => absurd q (by omega), fun _ => Mw.ex (C_bitCount b0 (by omega)) (Mw.ex (C_bitCount c0 (by omega)) ?_)⟩
    have no : ¬ (bAnd b (bXor S (-1)) = 0 ∧ popF b < popF ch ∧ hpB T A (T 0 18) w b = true) → P_X5_fewestProps_77 g (e + 3) (Ex (fpF (hpB T A (T 0 18) w) S (n + 1) b ch) s) s 48 w S ch (w32 (b + 1)) := fun z => by
      unfold fpF
      rw [if_neg z, w32_of (by omega) (by omega)]
      exact ih (b + 1) ch (by omega) (by omega) c0 c1
    refine ⟨fun q => S_X5_fewestProps_103 ⟨fun q2 => no (fun z => q2 z.1), fun q2 => ⟨fun _ => no (fun z => by omega), fun y => absurd rfl y⟩⟩, fun q => S_X5_fewestProps_103 ⟨fun q2 => no (fun z => q2 z.1), fun q2 => ⟨fun y => by omega, fun _ => Mw.ex (C_holdsPropped hx hW w0 w1 b0 (by omega)) ⟨fun q3 => no (fun z => by rw [z.2.2, if_pos rfl] at q3; omega), fun q3 => ?_⟩⟩⟩⟩
    have q4 : hpB T A (T 0 18) w b = true := Classical.byContradiction (fun z => q3 (if_neg z))
    unfold fpF
    rw [if_pos ⟨q2, by omega, q4⟩, w32_of (by omega) (by omega)]
    exact ih (b + 1) b (by omega) (by omega) b0 (by omega)
theorem C_props (h8 : s 1 8 = tw) (hx : CX s 48 tw T A) (hW : WOK T A) : Mw g (e + 5) M_X12_props [(20, 1), (0, w)] s (Ex (prS T A w) s) := by
  have t8 := hx.ok.2.1
  have sb := stW_bd (A := A) hx.ok w
  refine S_X12_props (fun _ => Mw.ex (C_isWall h8 hx) ⟨fun q => ⟨?_, rfl⟩, fun q => ?_⟩)
  · unfold prS
    rw [if_neg (fun z => by rw [if_pos z] at q; omega)]
  · have hw : 0 ≤ w ∧ w < T 1 2 := Classical.byContradiction (fun z => q (if_neg z))
    refine Mw.ex (S_X5_fewestProps (fun _ _ => cp_5 (e := e + 2) hx hW (cp_77 hx hW hw.1 hw.2 256 0 (stW T A w) (by decide) (by decide) sb.1 sb.2) (T 1 1).toNat 0 (by omega))) ⟨?_, rfl⟩
    unfold prS
    rw [if_pos hw]
end PROPS1
