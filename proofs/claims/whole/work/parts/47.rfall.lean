/-! the reference: has2, bits, takesDown, falls -/
/-- what a drop does does not hang on the counts -/
theorem bShl_in {a b : Int} : inR (bShl a b) := toI_in _
theorem dropL_w : ∀ (n : Nat) (A : Wd) (w f k : Int), inR w → (dropL n (A, w, f) k).1 = (dropL n (A, 0, 0) k).1 ∧ (dropL n (A, w, f) k).2.1 = bOr w (dropL n (A, 0, 0) k).2.1 := by
  intro n
  induction n with
  | zero => intro A w f k hw; exact ⟨rfl, (bOr_0 hw).symm⟩
  | succ n ih =>
    intro A w f k hw
    unfold dropL drop1
    by_cases h : A 4 k = -1
    · simp only [h, if_true]
      exact ih A w f (k + 1) hw
    · simp only [h, if_false]
      have i1 := ih (keepA (liftA A (A 4 k)) (A 4 k) (k / 16) 0) (bOr w (bShl 1 (A 4 k))) (w32 (f + 1)) (k + 1) bOr_in
      have i2 := ih (keepA (liftA A (A 4 k)) (A 4 k) (k / 16) 0) (bOr 0 (bShl 1 (A 4 k))) (w32 (0 + 1)) (k + 1) bOr_in
      refine ⟨i1.1.trans i2.1.symm, ?_⟩
      rw [i1.2, i2.2, bOr_0l bShl_in, bOr_as]
theorem dropX_w (X : WX) (p : Int) (hw : inR X.2.1) : (dropX X p).1 = (dropX (X.1, 0, 0) p).1 ∧ (dropX X p).2.1 = bOr X.2.1 (dropX (X.1, 0, 0) p).2.1 := dropL_w _ X.1 X.2.1 X.2.2 p hw
theorem dropL_snoc : ∀ (n : Nat) (X : WX) (k : Int), dropL (n + 1) X k = drop1 (dropL n X k) (k + n) := by
  intro n
  induction n with
  | zero => intro X k; show drop1 X k = drop1 X (k + 0); rw [Int.add_zero]
  | succ n ih =>
    intro X k
    show dropL (n + 1) (drop1 X k) (k + 1) = _
    rw [ih (drop1 X k) (k + 1), show k + 1 + (n : Int) = k + ((n + 1 : Nat) : Int) by omega]
    rfl
theorem dropL_bit {q : Int} (hq : 0 ≤ q) (hq2 : q < 16) : ∀ (n : Nat) (k : Int) (X : WX), 4 * q ≤ k → k + n ≤ 4 * q + 4 → WI0 X.1 → (∀ j, k ≤ j → j < k + n → X.1 4 j ≠ -1) → 0 ≤ X.2.1 → X.2.1 < 256 →
    (0 ≤ (dropL n X k).2.1 ∧ (dropL n X k).2.1 < 256) ∧ ∀ j : Nat, j < 8 → (dropL n X k).2.1.toNat.testBit j = (X.2.1.toNat.testBit j || decide (k ≤ X.1 3 j ∧ X.1 3 j < k + n)) := by
  intro n
  induction n with
  | zero =>
    intro k X k1 k2 hI hl w0 w1
    refine ⟨⟨w0, w1⟩, fun j hj => ?_⟩
    show X.2.1.toNat.testBit j = _
    rw [show decide (k ≤ X.1 3 j ∧ X.1 3 j < k + ((0 : Nat) : Int)) = false by simp, Bool.or_false]
  | succ n ih =>
    intro k X k1 k2 hI hl w0 w1
    have h := hl k (by omega) (by omega)
    obtain ⟨c0, c8, cp⟩ := (hI.2 k (by omega) (by omega)).resolve_left h
    have e3 : ∀ j, keepA (liftA X.1 (X.1 4 k)) (X.1 4 k) (k / 16) 0 3 j = if j = X.1 4 k then -1 else X.1 3 j := fun j => by rw [keepA_at _ _ _ _ (by decide) (by decide), liftA_3]
    have e4 : ∀ j, j ≠ k → keepA (liftA X.1 (X.1 4 k)) (X.1 4 k) (k / 16) 0 4 j = X.1 4 j := fun j hj => by
      rw [keepA_at _ _ _ _ (by decide) (by decide), liftA_4, cp, if_neg (fun z => hj z.2)]
    have sb : 0 ≤ bShl 1 (X.1 4 k) ∧ bShl 1 (X.1 4 k) < 256 := by
      rw [bShl1 c0 (by omega)]
      have : 2 ^ (X.1 4 k).toNat ≤ 2 ^ 7 := Nat.pow_le_pow_right (by omega) (by omega)
      exact ⟨Int.natCast_nonneg _, by omega⟩
    have ob := bOr_lt (n := 8) w0 w1 sb.1 sb.2 (by decide)
    have hi := ih (k + 1) (keepA (liftA X.1 (X.1 4 k)) (X.1 4 k) (k / 16) 0, bOr X.2.1 (bShl 1 (X.1 4 k)), w32 (X.2.2 + 1)) (by omega) (by omega) (keepA_I (liftA_I hI c0 c8)) (fun j j1 j2 => by
      show keepA (liftA X.1 (X.1 4 k)) (X.1 4 k) (k / 16) 0 4 j ≠ -1
      rw [e4 j (by omega)]
      exact hl j (by omega) (by omega)) ob.1 ob.2
    unfold dropL drop1
    rw [if_neg h]
    refine ⟨hi.1, fun j hj => ?_⟩
    rw [hi.2 j hj]
    show ((bOr X.2.1 (bShl 1 (X.1 4 k))).toNat.testBit j || decide (k + 1 ≤ keepA (liftA X.1 (X.1 4 k)) (X.1 4 k) (k / 16) 0 3 j ∧ keepA (liftA X.1 (X.1 4 k)) (X.1 4 k) (k / 16) 0 3 j < k + 1 + n)) = _
    rw [e3, bOr_bit w0 (by omega) sb.1 (by omega), bShl1_bit c0 (by omega), Bool.or_assoc]
    congr 1
    by_cases z : (j : Int) = X.1 4 k
    · rw [if_pos z, z, cp]
      simp
      omega
    · rw [if_neg z]
      have : X.1 3 j ≠ k := by
        intro y
        rcases hI.1 j (by omega) (by omega) with u | ⟨_, _, u⟩
        · omega
        · rw [y] at u; exact z u.symm
      simp only [z, decide_false, Bool.false_or]
      congr 1
      apply propext
      omega
theorem dropX_bit {T : Tn} {A : Wd} {p : Int} (hW : WOK T A) (p0 : 0 ≤ p) (p1 : p < 64) (hl : A 4 p ≠ -1) : (0 ≤ (dropX (A, 0, 0) p).2.1 ∧ (dropX (A, 0, 0) p).2.1 < 256) ∧ ∀ j : Nat, j < 8 → (dropX (A, 0, 0) p).2.1.toNat.testBit j = decide (p ≤ A 3 j ∧ A 3 j / 4 = p / 4) := by
  have hh := hW.2.2.1 (p / 4) (by omega) (by omega)
  have hlt : p % 4 < A 5 (p / 4) := by
    have := hh.2.2 (p % 4) (by omega) (by omega)
    rw [show 4 * (p / 4) + p % 4 = p by omega] at this
    have : ¬ A 5 (p / 4) ≤ p % 4 := fun z => hl (this.mpr z)
    omega
  have hn : ((A 5 (p / 4) - p % 4).toNat : Int) = A 5 (p / 4) - p % 4 := by omega
  obtain ⟨d1, d2⟩ := dropL_bit (q := p / 4) (by omega) (by omega) (A 5 (p / 4) - p % 4).toNat p (A, 0, 0) (by omega) (by omega) hW.2.1 (fun j j1 j2 => by
    have := hh.2.2 (j - 4 * (p / 4)) (by omega) (by omega)
    rw [show 4 * (p / 4) + (j - 4 * (p / 4)) = j by omega] at this
    intro z
    have := this.mp z
    omega) (Int.le_refl 0) (by show (0 : Int) < 256; decide)
  refine ⟨d1, fun j hj => ?_⟩
  show (dropL (A 5 (p / 4) - p % 4).toNat (A, 0, 0) p).2.1.toNat.testBit j = _
  rw [d2 j hj]
  show ((0 : Int).toNat.testBit j || decide (p ≤ A 3 j ∧ A 3 j < p + ((A 5 (p / 4) - p % 4).toNat : Nat))) = _
  rw [show (0 : Int).toNat = 0 from rfl, Nat.zero_testBit, Bool.false_or]
  congr 1
  apply propext
  rcases hW.2.1.1 j (by omega) (by omega) with z | ⟨z1, z2, z3⟩
  · omega
  · constructor
    · intro q; omega
    · rintro ⟨q1, q2⟩
      have := hh.2.2 (A 3 j % 4) (by omega) (by omega)
      rw [show 4 * (p / 4) + A 3 j % 4 = A 3 j by omega] at this
      have : ¬ A 5 (p / 4) ≤ A 3 j % 4 := fun y => by have := this.mpr y; rw [z3] at this; omega
      omega
section RFALL
variable {g : GT} {e : Nat} {s : Sg} {v b : Int} {T : Tn} {A : Wd} {K : Prop}
theorem R_has2 {a k : Int} (ha : 0 ≤ a) (ha2 : a < 2147483648) (hk : 0 ≤ k) (hk2 : k < 32) : Mw g (e + 1) M_X13_has2 [(0, a), (0, k)] s (Ex (if a.toNat.testBit k.toNat then 1 else 0) s) := by
  refine S_X13_has2 (fun _ _ => ?_)
  rw [bShr_bit ha ha2 hk hk2]
  cases a.toNat.testBit k.toNat
  · exact ⟨fun _ => ⟨rfl, rfl⟩, fun q => by simp at q⟩
  · exact ⟨fun q => absurd rfl q, fun _ => ⟨rfl, rfl⟩⟩
theorem bits_down {Q : Int → Sg → Prop} : ∀ (n a : Nat) (x : Int), a ≤ n → a < 1024 → 0 ≤ x → x + popF a ≤ 20 → Q (x + popF a) s → P_X13_bits_4 g e Q s x a := by
  intro n
  induction n with
  | zero =>
    intro a x ha h1 x0 x1 hQ
    have : a = 0 := by omega
    subst this
    refine S_X13_bits_4 ⟨fun _ => ?_, fun q => absurd rfl q⟩
    have e0 : popF ((0 : Nat) : Int) = 0 := by decide
    rw [e0, Int.add_zero] at hQ
    exact hQ
  | succ n ih =>
    intro a x ha h1 x0 x1 hQ
    refine S_X13_bits_4 ⟨fun q => ?_, fun q => ?_⟩
    · have : a = 0 := by omega
      subst this
      have e0 : popF ((0 : Nat) : Int) = 0 := by decide
      rw [e0, Int.add_zero] at hQ
      exact hQ
    · obtain ⟨k1, k2, k3⟩ := bt_kern a h1 (by omega)
      have p1 := popF_le a h1
      rw [w32_of (show _ ≤ (a : Int) - 1 by omega) (by omega), w32_of (show _ ≤ x + 1 by omega) (by omega)]
      have := ih (bAnd a (a - 1)).toNat (x + 1) (by omega) (by omega) (by omega)
      rw [show (((bAnd a (a - 1)).toNat : Nat) : Int) = bAnd a (a - 1) by omega] at this
      exact this (by omega) (by rw [k3] at hQ; rw [show x + 1 + popF (bAnd a (a - 1)) = x + (popF (bAnd a (a - 1)) + 1) by omega]; exact hQ)
theorem R_bits {a : Int} (h0 : 0 ≤ a) (h1 : a < 1024) : Mw g (e + 1) M_X13_bits [(0, a)] s (Ex (popF a) s) := by
  refine S_X13_bits (fun _ => ?_)
  have p1 := popF_le a.toNat (by omega)
  have := bits_down (g := g) (e := e) (s := s) (Q := Ex (popF a) s) a.toNat a.toNat 0 (by omega) (by omega) (by decide) (by omega)
  rw [show ((a.toNat : Nat) : Int) = a by omega, Int.zero_add] at this
  exact this ⟨rfl, rfl⟩
/-- those of a set come off their places -/
def cleA (A : Wd) (S o : Int) : Wd := fun a k => if a = 3 ∧ k < o ∧ S.toNat.testBit k.toNat = true then -1 else A a k
theorem clear_loop {S : Int} {Q : Int → Sg → Prop} (S0 : 0 ≤ S) (S1 : S < 256) (hQ : ∀ s' : Sg, RX s' v b T (cleA A S (T 1 1)) → Fm v s s' → s' 129 = s 129 → s' 130 = s 130 → Q S s') : ∀ (n : Nat) (o : Int) (s0 : Sg), 0 ≤ o → o + n = T 1 1 → RX s0 v b T (cleA A S o) → Fm v s s0 → s0 129 = s 129 → s0 130 = s 130 →
    P_X13_takesDown_80 g (e + 1) Q s0 v S o := by
  intro n
  induction n with
  | zero =>
    intro o s0 o0 ho hx hf h9 h0
    have hb := hx.b2
    refine S_X13_takesDown_80 ?_
    rw [hx.bk, hx.nc]
    refine ⟨⟨by omega, by omega⟩, fun _ => hQ s0 ?_ hf h9 h0, fun q => absurd (by omega) q⟩
    rw [show T 1 1 = o by omega]
    exact hx
  | succ n ih =>
    intro o s0 o0 ho hx hf h9 h0
    have hb := hx.b2
    have b8 := hx.ok.2.1
    have hv := hx.2.1
    refine S_X13_takesDown_80 ?_
    rw [hx.bk, hx.nc, w32_of (show _ ≤ 8 * v by omega) (by omega), w32_of (show _ ≤ 8 * v + o by omega) (by omega), w32_of (show _ ≤ o + 1 by omega) (by omega)]
    refine ⟨⟨by omega, by omega⟩, fun q => by omega, fun _ => Mw.ex (R_has2 S0 (by omega) o0 (by omega)) ⟨fun q => ?_, fun q => ?_⟩⟩
    · have hbit : S.toNat.testBit o.toNat = true := by
        cases z : S.toNat.testBit o.toNat
        · rw [z] at q; simp at q
        · rfl
      refine ⟨⟨by omega, by omega⟩, fun s3 e3 => ⟨⟨by omega, by omega⟩, fun s4 e4 => ⟨⟨by omega, by omega⟩, fun s5 e5 => ih (o + 1) s5 (by omega) (by omega) ?_ ?_ ?_ ?_⟩⟩⟩
      · have at5 : ∀ a, a ≠ 126 → a ≠ 127 → a ≠ 128 → s5 a = s0 a := fun a a1 a2 a3 => by rw [e5, ups_at _ a3, e4, ups_at _ a2, e3, ups_at _ a1]
        have f5 : Fm v s0 s5 := by rw [e5, e4, e3]; exact ((Fm.up (by omega)).tr (Fm.up (by omega))).tr (Fm.up (by omega))
        refine ⟨hx.1.fv f5, hv, ?_, ?_, ?_, fun c c0 c1 => ?_⟩
        · rw [at5 122 (by decide) (by decide) (by decide)]; exact hx.2.2.1
        · rw [at5 123 (by decide) (by decide) (by decide)]; exact hx.2.2.2.1
        · rw [at5 129 (by decide) (by decide) (by decide)]; exact hx.2.2.2.2.1
        · obtain ⟨x1, x2, x3, x4, x5⟩ := hx.c c0 c1
          rw [at5 124 (by decide) (by decide) (by decide), at5 125 (by decide) (by decide) (by decide)]
          have e1 : cleA A S (o + 1) 1 c = cleA A S o 1 c := rfl
          have e2 : cleA A S (o + 1) 2 c = cleA A S o 2 c := rfl
          refine ⟨x1, x2, ?_⟩
          by_cases z : c = o
          · have e3' : cleA A S (o + 1) 3 c = -1 := by unfold cleA; rw [if_pos ⟨rfl, by omega, by rw [z]; exact hbit⟩]
            rw [e3', z]
            refine ⟨?_, ?_, ?_⟩
            · rw [e5, ups_o _ (by decide), e4, ups_o _ (by decide), e3, ups_eq]; rfl
            · rw [e5, ups_o _ (by decide), e4, ups_eq]; rfl
            · rw [e5, ups_eq]; rfl
          · have e3' : cleA A S (o + 1) 3 c = cleA A S o 3 c := by
              unfold cleA
              by_cases y : c < o ∧ S.toNat.testBit c.toNat = true
              · rw [if_pos ⟨rfl, by omega, y.2⟩, if_pos ⟨rfl, y⟩]
              · rw [if_neg (fun u => y ⟨by omega, u.2.2⟩), if_neg (fun u => y u.2)]
            rw [e3']
            refine ⟨?_, ?_, ?_⟩
            · rw [e5, ups_o _ (by decide), e4, ups_o _ (by decide), e3, ups_k _ (by omega)]; exact x3
            · rw [e5, ups_o _ (by decide), e4, ups_k _ (by omega), e3, ups_o _ (by decide)]; exact x4
            · rw [e5, ups_k _ (by omega), e4, ups_o _ (by decide), e3, ups_o _ (by decide)]; exact x5
      · rw [e5, e4, e3]; exact hf.tr (((Fm.up (by omega)).tr (Fm.up (by omega))).tr (Fm.up (by omega)))
      · rw [e5, ups_at _ (by decide), e4, ups_at _ (by decide), e3, ups_at _ (by decide)]; exact h9
      · rw [e5, ups_at _ (by decide), e4, ups_at _ (by decide), e3, ups_at _ (by decide)]; exact h0
    · have hbit : S.toNat.testBit o.toNat = false := by
        cases z : S.toNat.testBit o.toNat
        · rfl
        · rw [z] at q; simp at q
      have ec : cleA A S (o + 1) = cleA A S o := by
        funext a k
        unfold cleA
        by_cases y : a = 3 ∧ k < o ∧ S.toNat.testBit k.toNat = true
        · rw [if_pos y, if_pos ⟨y.1, by omega, y.2.2⟩]
        · rw [if_neg y, if_neg]
          rintro ⟨u1, u2, u3⟩
          by_cases u : k = o
          · rw [u, hbit] at u3; cases u3
          · exact y ⟨u1, by omega, u3⟩
      exact ih (o + 1) s0 (by omega) (by omega) (by rw [ec]; exact hx) hf h9 h0
theorem down_loop {p : Int} (hW : WOK T A) (p0 : 0 ≤ p) (p1 : p < 64) (hl : A 4 p ≠ -1) (hw4 : p / 16 < 4) : ∀ (n i : Nat) (s0 : Sg), ((i + n : Nat) : Int) = A 5 (p / 4) - p % 4 → RX s0 v b T A → (K → RK s0 v (dropL i (A, 0, 0) p).1) → Fm v s s0 →
    P_X13_takesDown_26 g (e + 2) (fun r s' => r = (dropX (A, 0, 0) p).2.1 ∧ RZ K s' v b T (dropX (A, 0, 0) p).1 ∧ Fm v s s') s0 v (p / 16) (p / 4 % 4) (dropL i (A, 0, 0) p).2.1 (p % 4 + i) := by
  have hh := hW.2.2.1 (p / 4) (by omega) (by omega)
  have lie : ∀ j, p % 4 ≤ j → j < A 5 (p / 4) → A 4 (4 * (p / 4) + j) ≠ -1 := fun j j0 j1 z => by
    have := (hh.2.2 j (by omega) (by omega)).mp z
    omega
  intro n
  induction n with
  | zero =>
    intro i s0 hi hx hk hf
    have b8 := hx.ok.2.1
    have ei : dropL i (A, 0, 0) p = dropX (A, 0, 0) p := by
      unfold dropX
      show dropL i (A, 0, 0) p = dropL (A 5 (p / 4) - p % 4).toNat (A, 0, 0) p
      rw [show (A 5 (p / 4) - p % 4).toNat = i by omega]
    rw [ei] at hk ⊢
    obtain ⟨d1, d2⟩ := dropX_bit hW p0 p1 hl
    obtain ⟨q1, q2, q3, q4, q5, q6, q7⟩ := dropX_spec (X := (A, 0, 0)) hW p0 p1 hl
    have fin : P_X13_takesDown_80 g (e + 2) (fun r s' => r = (dropX (A, 0, 0) p).2.1 ∧ RZ K s' v b T (dropX (A, 0, 0) p).1 ∧ Fm v s s') s0 v (dropX (A, 0, 0) p).2.1 0 := by
      have hx0 : RX s0 v b T (cleA A (dropX (A, 0, 0) p).2.1 0) := by
        refine ⟨hx.1, hx.2.1, hx.2.2.eq rfl rfl (fun c c0 c1 => ⟨rfl, rfl, ?_⟩)⟩
        unfold cleA
        rw [if_neg (by omega)]
      refine clear_loop (s := s0) (A := A) d1.1 d1.2 (fun s' h1 h2 h3 h4 => ⟨rfl, ⟨⟨h1.1, h1.2.1, h1.2.2.eq ?_ ?_ (fun c c0 c1 => ⟨?_, ?_, ?_⟩)⟩, fun k => ?_⟩, hf.tr h2⟩) (T 1 1).toNat 0 s0 (by decide) (by omega) hx0 Fm.rf rfl rfl
      · exact q5 1 (by decide)
      · exact q5 2 (by decide)
      · rw [q3]; rfl
      · rw [q4]; rfl
      · rw [q2 c c0 (by omega)]
        unfold cleA
        have hb := d2 c.toNat (by omega)
        rw [show ((c.toNat : Nat) : Int) = c by omega] at hb
        by_cases z : p ≤ A 3 c ∧ A 3 c / 4 = p / 4
        · rw [if_pos z, if_pos ⟨rfl, c1, by rw [hb]; exact decide_eq_true z⟩]
        · rw [if_neg z, if_neg]
          rintro ⟨_, _, u⟩
          rw [hb] at u
          exact z (of_decide_eq_true u)
      · have hr := hk k
        unfold RK at hr ⊢
        rw [h3, h4]
        exact hr
    refine S_X13_takesDown_26 ⟨fun _ => fin, fun q => Mw.ex (R_lies hx hW (by omega) hw4) ?_⟩
    have e1 : liS A (p / 16) (p / 4 % 4) (p % 4 + i) = -1 := by
      unfold liS
      rw [if_pos (by omega), show 16 * (p / 16) + 4 * (p / 4 % 4) + (p % 4 + (i : Int)) = 4 * (p / 4) + (p % 4 + i) by omega]
      exact (hh.2.2 _ (by omega) (by omega)).mpr (by omega)
    rw [e1]
    exact ⟨fun z => absurd rfl z, fun _ => fin⟩
  | succ n ih =>
    intro i s0 hi hx hk hf
    have b8 := hx.ok.2.1
    have hv := hx.2.1
    have hy := hW.1.1
    have el : liS A (p / 16) (p / 4 % 4) (p % 4 + i) = A 4 (p + i) := by
      unfold liS
      rw [if_pos (by omega), show 16 * (p / 16) + 4 * (p / 4 % 4) + (p % 4 + (i : Int)) = p + i by omega]
    have hne := lie (p % 4 + i) (by omega) (by omega)
    rw [show 4 * (p / 4) + (p % 4 + (i : Int)) = p + i by omega] at hne
    obtain ⟨c0, c8, cp⟩ := (hW.2.1.2 (p + i) (by omega) (by omega)).resolve_left hne
    refine S_X13_takesDown_26 ⟨fun q => by omega, fun q => Mw.ex (R_lies hx hW (by omega) hw4) ?_⟩
    rw [el, w32_of (by omega) (by omega)]
    refine ⟨fun _ => ?_, fun z => absurd z hne⟩
    refine (R_writesDown hv.1 hv.2 hx.2.2.2.2.1 (by rw [hx.2.2.1]; exact hy) ⟨c0, c8⟩ ⟨by omega, hw4⟩ ⟨by decide, by decide⟩).imp (fun _ s4 h4 => ?_)
    obtain ⟨w1, w2, w3, w4⟩ := h4
    have hs := dropL_snoc i (A, 0, 0) p
    obtain ⟨_, _, i3, _, _, _, i7, _⟩ := dropL_spec (q := p / 4) (by omega) (by omega) i p (A, 0, 0) (by omega) (by omega) hW.2.1 (fun j j1 j2 => by
      have := lie (j - 4 * (p / 4)) (by omega) (by omega)
      rw [show 4 * (p / 4) + (j - 4 * (p / 4)) = j by omega] at this
      exact this)
    have e4 : (dropL i (A, 0, 0) p).1 4 (p + i) = A 4 (p + i) := by rw [i3, if_neg (by omega)]
    have ed : dropL (i + 1) (A, 0, 0) p = (keepA (liftA (dropL i (A, 0, 0) p).1 (A 4 (p + i))) (A 4 (p + i)) ((p + i) / 16) 0, bOr (dropL i (A, 0, 0) p).2.1 (bShl 1 (A 4 (p + i))), w32 ((dropL i (A, 0, 0) p).2.2 + 1)) := by
      rw [hs]
      unfold drop1
      rw [e4, if_neg hne]
    have hx4 : RX s4 v b T A := by
      refine ⟨hx.1.fv w1, hv, ?_, ?_, w3, fun c cc0 cc1 => ?_⟩
      · rw [w2 122 (by decide) (by decide)]; exact hx.2.2.1
      · rw [w2 123 (by decide) (by decide)]; exact hx.2.2.2.1
      · rw [w2 124 (by decide) (by decide), w2 125 (by decide) (by decide), w2 126 (by decide) (by decide), w2 127 (by decide) (by decide), w2 128 (by decide) (by decide)]
        exact hx.c cc0 cc1
    have := ih (i + 1) s4 (by omega) hx4 (fun k => ?_) (hf.tr w1)
    · rw [ed] at this
      rw [show p % 4 + ((i + 1 : Nat) : Int) = p % 4 + i + 1 by omega] at this
      exact this
    · rw [ed]
      have hr := w4 (liftA (dropL i (A, 0, 0) p).1 (A 4 (p + i))) (by rw [liftA_0, i7 1 (by decide), hx.2.2.1]) ((hk k).eq (by rw [liftA_0]) (by rw [liftA_6]))
      rw [show (p + (i : Int)) / 16 = p / 16 by omega]
      exact hr
theorem R_takesDown {c : Int} (h : RZ K s v b T A) (hW : WOK T A) (c0 : 0 ≤ c) (c1 : c < T 1 1) (h3 : A 3 c ≠ -1) : Mw g (e + 3) M_X13_takesDown [(21, 92), (0, v), (0, c)] s (fun r s' => r = (dropX (A, 0, 0) (A 3 c)).2.1 ∧ RZ K s' v b T (dropX (A, 0, 0) (A 3 c)).1 ∧ Fm v s s') := by
  have b8 := h.1.ok.2.1
  obtain ⟨⟨p0, p1⟩, p2, p3, p4, p5⟩ := pl_ok hW c0 (by omega) h3
  have hl : A 4 (A 3 c) ≠ -1 := by rw [p2]; omega
  have hh := hW.2.2.1 (A 3 c / 4) (by omega) (by omega)
  have hlt : A 3 c % 4 < A 5 (A 3 c / 4) := by
    have := hh.2.2 (A 3 c % 4) (by omega) (by omega)
    rw [show 4 * (A 3 c / 4) + A 3 c % 4 = A 3 c by omega] at this
    have : ¬ A 5 (A 3 c / 4) ≤ A 3 c % 4 := fun z => hl (this.mpr z)
    omega
  refine S_X13_takesDown (fun _ _ => Mw.ex (R_inWall h.1 c0 c1) (Mw.ex (R_column h.1 c0 c1) (Mw.ex (R_course h.1 c0 c1) ?_)))
  rw [p3, p4, p5]
  have := down_loop (g := g) (e := e) (s := s) (v := v) (b := b) (K := K) hW p0 p1 hl (by omega) (A 5 (A 3 c / 4) - A 3 c % 4).toNat 0 s (by omega) h.1 h.2 Fm.rf
  rw [show A 3 c % 4 + ((0 : Nat) : Int) = A 3 c % 4 by omega] at this
  exact this
end RFALL
