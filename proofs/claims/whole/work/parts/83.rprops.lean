/-! props of the reference; the two loops over sets give the same -/
theorem popN_sub : ∀ (f x y : Nat), (∀ j, x.testBit j = true → y.testBit j = true) → popN f x ≤ popN f y ∧ (x < 2 ^ f → y < 2 ^ f → x ≠ y → popN f x < popN f y) := by
  intro f
  induction f with
  | zero => intro x y _; exact ⟨Nat.le_refl _, fun h1 h2 h3 => by omega⟩
  | succ f ih =>
    intro x y h
    have i := ih (x / 2) (y / 2) (fun j hj => by rw [← Nat.testBit_succ] at hj ⊢; exact h (j + 1) hj)
    have h0 : x % 2 ≤ y % 2 := by
      have := h 0
      simp only [Nat.testBit_zero, decide_eq_true_eq] at this
      omega
    unfold popN
    refine ⟨by omega, fun h1 h2 h3 => ?_⟩
    rw [Nat.pow_succ] at h1 h2
    by_cases z : x / 2 = y / 2
    · rw [z]; omega
    · have := i.2 (by omega) (by omega) z
      omega
theorem sub_bit {a S : Int} (a0 : 0 ≤ a) (a1 : a < 256) (S0 : 0 ≤ S) (S1 : S < 256) (h : bAnd a (bXor S (-1)) = 0) : a ≤ S ∧ (a ≠ S → popF a < popF S) := by
  have hb := (bAndN_bit a0 (by omega) S0 (by omega)).2
  rw [h] at hb
  have hs : ∀ j, a.toNat.testBit j = true → S.toNat.testBit j = true := fun j hj => by
    have := hb j
    rw [hj] at this
    simp only [Int.toNat_zero, Nat.zero_testBit, Bool.true_and] at this
    cases hS : S.toNat.testBit j with
    | true => rfl
    | false => rw [hS] at this; cases this
  refine ⟨?_, fun hne => ?_⟩
  · have e : a.toNat &&& S.toNat = a.toNat := by
      apply Nat.eq_of_testBit_eq
      intro i
      rw [Nat.testBit_and]
      cases hi : a.toNat.testBit i with
      | true => rw [hs i hi]; rfl
      | false => rfl
    have := Nat.and_le_right (n := a.toNat) (m := S.toNat)
    omega
  · have := (popN_sub 12 a.toNat S.toNat hs).2 (by show a.toNat < 4096; omega) (by show S.toNat < 4096; omega) (by omega)
    unfold popF
    omega
/-- the reference's loop: n sets left, b the next, bt the best so far -/
def fpR (f : Int → Bool) (S : Int) : Nat → Int → Int → Int
  | 0, _, bt => bt
  | n + 1, b, bt => if bAnd b (bXor S (-1)) = 0 ∧ (bt = -1 ∨ popF b < popF bt) ∧ f b = true then fpR f S n (b + 1) b else fpR f S n (b + 1) bt
theorem fpF_end {f : Int → Bool} {S : Int} (S0 : 0 ≤ S) (S1 : S < 256) : ∀ (n : Nat) (b ch : Int), S < b → b + n ≤ 256 → fpF f S n b ch = ch := by
  intro n
  induction n with
  | zero => intros; rfl
  | succ n ih =>
    intro b ch hb hn
    unfold fpF
    rw [if_neg (fun z => by have := (sub_bit (a := b) (by omega) (by omega) S0 S1 z.1).1; omega)]
    exact ih (b + 1) ch (by omega) (by omega)
theorem fp_eq {f : Int → Bool} {S : Int} (S0 : 0 ≤ S) (S1 : S < 256) (hf : f S = true) : ∀ (n : Nat) (b bt : Int) (m : Nat), 0 ≤ b → b + n = S + 1 → m + b = 256 → (bt = -1 ∨ (0 ≤ bt ∧ bt < b ∧ bAnd bt (bXor S (-1)) = 0)) → (n = 0 → bt ≠ -1) →
    fpR f S n b bt = fpF f S m b (if bt = -1 then S else bt) := by
  intro n
  induction n with
  | zero =>
    intro b bt m b0 hb hm ht h0
    rw [fpF_end S0 S1 m b _ (by omega) (by omega), if_neg (h0 rfl)]
    rfl
  | succ n ih =>
    intro b bt m b0 hb hm ht h0
    obtain ⟨m, rfl⟩ : ∃ k, m = k + 1 := ⟨m - 1, by omega⟩
    unfold fpR fpF
    by_cases hs : bAnd b (bXor S (-1)) = 0
    · have sb := sub_bit b0 (by omega) S0 S1 hs
      by_cases hbS : b = S
      · by_cases t : bt = -1
        · rw [if_pos ⟨hs, Or.inl t, by rw [hbS]; exact hf⟩, if_pos t, if_neg (fun z => by rw [hbS] at z; omega)]
          rw [ih (b + 1) b m (by omega) (by omega) (by omega) (Or.inr ⟨b0, by omega, hs⟩) (fun _ => by omega), if_neg (by omega), hbS]
        · have tb := ht.resolve_left t
          have sb2 := (sub_bit tb.1 (by omega) S0 S1 tb.2.2).2 (by omega)
          rw [if_neg (fun z => by rcases z.2.1 with y | y; exact t y; rw [hbS] at y; omega), if_neg t, if_neg (fun z => by rw [hbS] at z; omega)]
          rw [ih (b + 1) bt m (by omega) (by omega) (by omega) (Or.inr ⟨tb.1, by omega, tb.2.2⟩) (fun _ => t), if_neg t]
      · have pS := sb.2 hbS
        by_cases c : (bt = -1 ∨ popF b < popF bt) ∧ f b = true
        · rw [if_pos ⟨hs, c⟩, if_pos ⟨hs, by split; exact pS; rename_i t; exact c.1.resolve_left t, c.2⟩]
          rw [ih (b + 1) b m (by omega) (by omega) (by omega) (Or.inr ⟨b0, by omega, hs⟩) (fun _ => by omega), if_neg (by omega)]
        · rw [if_neg (fun z => c z.2), if_neg (fun z => c ⟨by by_cases t : bt = -1; exact Or.inl t; rw [if_neg t] at z; exact Or.inr z.2.1, z.2.2⟩)]
          exact ih (b + 1) bt m (by omega) (by omega) (by omega) (by rcases ht with t | t; exact Or.inl t; exact Or.inr ⟨t.1, by omega, t.2.2⟩) (fun z => by omega)
    · rw [if_neg (fun z => hs z.1), if_neg (fun z => hs z.1)]
      refine ih (b + 1) bt m (by omega) (by omega) (by omega) (by rcases ht with t | t; exact Or.inl t; exact Or.inr ⟨t.1, by omega, t.2.2⟩) (fun z => ?_)
      exfalso
      have hbS : b = S := by omega
      apply hs
      rw [hbS]
      have hb2 := bAndN_bit S0 (by omega) S0 (by omega)
      exact eq_bits hb2.1.1 (Int.le_refl 0) (fun j => by rw [hb2.2 j]; simp)
theorem freF_2 {T : Tn} : ∀ (n : Nat) (c : Int) (A : Wd), (∀ a, a ≠ 2 → freF T n c A a = A a) ∧ ∀ k, freF T n c A 2 k = if (c ≤ k ∧ k < c + n) ∧ A 3 k ≠ -1 then max 0 (A 2 k - T 0 18) else A 2 k := by
  intro n
  induction n with
  | zero => intro c A; exact ⟨fun _ _ => rfl, fun k => by rw [if_neg (fun z => by omega)]; rfl⟩
  | succ n ih =>
    intro c A
    obtain ⟨i1, i2⟩ := ih (c + 1) (fre1 T A c)
    have f1 : ∀ a, a ≠ 2 → fre1 T A c a = A a := fun a ha => by unfold fre1; split; rfl; exact ups_at _ ha
    have f2 : ∀ k, fre1 T A c 2 k = if k = c ∧ A 3 c ≠ -1 then max 0 (A 2 k - T 0 18) else A 2 k := fun k => by
      unfold fre1
      by_cases z : A 3 c = -1
      · rw [if_pos z, if_neg (fun y => y.2 z)]
      · rw [if_neg z]
        by_cases y : k = c
        · rw [y, ups_eq, if_pos ⟨rfl, z⟩]
        · rw [ups_k _ y, if_neg (fun x => y x.1)]
    refine ⟨fun a ha => (i1 a ha).trans (f1 a ha), fun k => (i2 k).trans ?_⟩
    rw [f1 3 (by decide), f2 k]
    by_cases z : k = c
    · rw [if_neg (fun y => by omega)]
      by_cases y : A 3 c = -1
      · rw [if_neg (fun x => x.2 y), if_neg (fun x => x.2 (by rw [z]; exact y))]
      · rw [if_pos ⟨z, y⟩, if_pos ⟨by omega, by rw [z]; exact y⟩]
    · rw [if_neg (show ¬ (k = c ∧ A 3 c ≠ -1) from fun y => z y.1)]
      by_cases y : (c + 1 ≤ k ∧ k < c + 1 + (n : Int)) ∧ A 3 k ≠ -1
      · rw [if_pos y, if_pos ⟨by omega, y.2⟩]
      · rw [if_neg y, if_neg (fun x => y ⟨by omega, x.2⟩)]
section RPROPS
variable {g : GT} {e : Nat} {s : Sg} {T : Tn} {A : Wd} {b w p : Int}
theorem hp_free (hT : TOK T) (hW : WOK T A) : hpB T (freF T (T 1 1).toNat 0 A) 0 w p = hpB T A (T 0 18) w p ∨ ¬ (0 ≤ w ∧ w < 4) := by
  by_cases hw : 0 ≤ w ∧ w < 4
  · left
    obtain ⟨f1, f2⟩ := freF_2 (T := T) (T 1 1).toNat 0 A
    have t8 := hT.2.1
    unfold hpB
    refine allF_congr (fun j hj => ?_)
    have ea : ∀ (n : Nat) (k : Int), abS (freF T (T 1 1).toNat 0 A) p n k = abS A p n k := by
      intro n
      induction n with
      | zero => intro k; rfl
      | succ n ih => intro k; unfold abS; rw [f1 4 (by decide), ih]
    unfold hpK
    rw [ea, f1 4 (by decide)]
    rcases hW.2.1.2 (16 * w + (j : Int)) (by omega) (by omega) with z | ⟨z1, z2, z3⟩
    · rw [z]; rfl
    · have hc := (hW.2.2.2 _ z1 z2 (by rw [z3]; omega)).1
      have t18 := hT.2.2.2.2.2.2.2.2.2.2.2.2
      have bs := (hW.1.2.2.2.1 _ z1 z2).2
      have eb : beaS T (freF T (T 1 1).toNat 0 A) (A 4 (16 * w + (j : Int))) 0 = beaS T A (A 4 (16 * w + (j : Int))) (T 0 18) := by
        unfold beaS nearS
        rw [f1 3 (by decide), f2, if_pos (show (0 ≤ A 4 (16 * w + (j : Int)) ∧ A 4 (16 * w + (j : Int)) < 0 + ((T 1 1).toNat : Int)) ∧ A 3 (A 4 (16 * w + (j : Int))) ≠ -1 from ⟨⟨z1, by omega⟩, by rw [z3]; omega⟩)]
        rw [show max 0 (max 0 (A 2 (A 4 (16 * w + (j : Int))) - T 0 18) - 0) = max 0 (A 2 (A 4 (16 * w + (j : Int))) - T 0 18) by omega]
      rw [eb]
  · exact Or.inr hw
theorem hp_all (hT : TOK T) (hW : WOK T A) (w0 : 0 ≤ w) (w4 : w < 4) {l : Int} : hpB T A l w (stW T A w) = true := by
  have t8 := hT.2.1
  refine hpB_iff.mpr (fun k k0 k1 => ?_)
  unfold hpK
  rcases hW.2.1.2 k (by omega) (by omega) with z | ⟨z1, z2, z3⟩
  · rw [z]; rfl
  · have hc := (hW.2.2.2 _ z1 z2 (by rw [z3]; omega)).1
    have hb : (stW T A w).toNat.testBit (A 4 k).toNat = true := by
      have := setF_bit (T 1 1).toNat (inW A w) (A 4 k).toNat
      unfold bitF at this
      unfold stW
      rw [this, show (((A 4 k).toNat : Nat) : Int) = A 4 k by omega]
      unfold inW
      rw [z3]
      simp only [Bool.and_eq_true, decide_eq_true_eq]
      omega
    rw [hb]
    simp
theorem st_eq (hT : TOK T) (hW : WOK T A) (w0 : 0 ≤ w) : wstS T A w = stW T A w := by
  have t8 := hT.2.1
  unfold wstS stW
  refine setF_congr (fun c hc => ?_)
  unfold waP inW
  rcases hW.2.1.1 c (by omega) (by omega) with z | z
  · rw [if_pos z]; simp [z]; omega
  · rw [if_neg (by omega)]
    have : A 3 c ≠ -1 := by omega
    simp [this]
    apply Bool.eq_iff_iff.mpr
    simp
theorem rp_49 (hx : RX s 1 b T A) (hW : WOK T A) (w0 : 0 ≤ w) (w4 : w < 4) (p0 : 0 ≤ p) (p1 : p < 256) {Q : Int → Sg → Prop} {c : Int} (c0 : 0 ≤ c) (c1 : c < T 1 1) (h3 : A 3 c ≠ -1) (hw : A 3 c / 16 = w) {X : Int}
    (hq : P_X13_areHeld_98 g (e + 2) Q s w p c X) : ∀ (n : Nat) (r v : Int), r + n = 4 → 0 ≤ r → 0 ≤ v → v ≤ r → X = v + abS A p n (16 * w + 4 * (A 3 c / 4 % 4) + r) → P_X13_areHeld_49 g (e + 2) Q s w p c v r := by
  have t8 := hx.ok.2.1
  obtain ⟨⟨q0, q1⟩, q2, q3, q4, q5⟩ := pl_ok hW c0 (by omega) h3
  intro n
  induction n with
  | zero =>
    intro r v hr r0 v0 v1 hX
    refine S_X13_areHeld_49 ⟨fun _ => ?_, fun q => absurd (by omega) q⟩
    have : X = v := by rw [hX]; show v + 0 = v; omega
    rw [← this]; exact hq
  | succ n ih =>
    intro r v hr r0 v0 v1 hX
    unfold abS at hX
    refine S_X13_areHeld_49 ⟨fun q => by omega, fun _ => Mw.ex (R_column hx c0 c1) ?_⟩
    rw [q4]
    refine Mw.ex (R_lies hx hW w0 w4) ?_
    have el : liS A w (A 3 c / 4 % 4) r = A 4 (16 * w + 4 * (A 3 c / 4 % 4) + r) := by unfold liS; rw [if_pos (by omega)]
    rw [el]
    refine ⟨fun z => ?_, fun z => ?_⟩
    · rw [if_pos (Or.inl z)] at hX
      have : X = v := by omega
      rw [← this]; exact hq
    · obtain ⟨z1, z2, z3⟩ := (hW.2.1.2 (16 * w + 4 * (A 3 c / 4 % 4) + r) (by omega) (by omega)).resolve_left z
      refine Mw.ex (R_has2 p0 (by omega) z1 (by omega)) ⟨fun y => ?_, fun y => ?_⟩
      · have y2 : ¬ p.toNat.testBit (A 4 (16 * w + 4 * (A 3 c / 4 % 4) + r)).toNat = true := fun x => by rw [if_pos x] at y; omega
        rw [if_neg (fun x => by rcases x with x | x; exact z x; exact y2 x)] at hX
        rw [w32_of (show _ ≤ v + 1 by omega) (by omega), w32_of (show _ ≤ r + 1 by omega) (by omega)]
        refine ih (r + 1) (v + 1) (by omega) (by omega) (by omega) (by omega) ?_
        rw [show 16 * w + 4 * (A 3 c / 4 % 4) + (r + 1) = 16 * w + 4 * (A 3 c / 4 % 4) + r + 1 by omega]
        omega
      · have y2 : p.toNat.testBit (A 4 (16 * w + 4 * (A 3 c / 4 % 4) + r)).toNat = true := Classical.byContradiction (fun x => y (if_neg x))
        rw [if_pos (Or.inr y2)] at hX
        have : X = v := by omega
        rw [← this]; exact hq
theorem rp_2 (hx : RX s 1 b T A) (hW : WOK T A) (w0 : 0 ≤ w) (w4 : w < 4) (p0 : 0 ≤ p) (p1 : p < 256) :
    ∀ (n : Nat) (c : Int), 0 ≤ c → c + n = T 1 1 → (∀ k, 0 ≤ k → k < c → A 3 k ≠ -1 → A 3 k / 16 = w → hpK T A 0 p (A 3 k) = true) → P_X13_areHeld_2 g (e + 2) (Ex (if hpB T A 0 w p then 1 else 0) s) s w p c := by
  have t8 := hx.ok.2.1
  have b2 := hx.b2
  have tw16 := hx.ok.2.2.2.2.2.2.2.2.2.2.1
  intro n
  induction n with
  | zero =>
    intro c c0 hc hk
    refine S_X13_areHeld_2 ?_
    rw [hx.bk, hx.nc]
    refine ⟨⟨by omega, by omega⟩, fun _ => ⟨?_, rfl⟩, fun q => absurd (by omega) q⟩
    rw [if_pos]
    refine hpB_iff.mpr (fun k k0 k1 => ?_)
    rcases hW.2.1.2 k (by omega) (by omega) with z | ⟨z1, z2, z3⟩
    · unfold hpK; rw [z]; rfl
    · have hc2 := (hW.2.2.2 _ z1 z2 (by rw [z3]; omega)).1
      have := hk (A 4 k) z1 (by omega) (by rw [z3]; omega) (by rw [z3]; omega)
      rw [z3] at this
      exact this
  | succ n ih =>
    intro c c0 hc hk
    have nx : (A 3 c ≠ -1 → A 3 c / 16 = w → hpK T A 0 p (A 3 c) = true) → P_X13_areHeld_2 g (e + 2) (Ex (if hpB T A 0 w p then 1 else 0) s) s w p (c + 1) := fun h => ih (c + 1) (by omega) (by omega) (fun k k0 k1 k3 k4 => by
      by_cases y : k = c
      · rw [y] at k3 k4 ⊢; exact h k3 k4
      · exact hk k k0 (by omega) k3 k4)
    refine S_X13_areHeld_2 ?_
    rw [hx.bk, hx.nc, w32_of (show _ ≤ c + 1 by omega) (by omega)]
    refine ⟨⟨by omega, by omega⟩, fun q => by omega, fun _ => Mw.ex (R_inWall hx c0 (by omega)) ⟨fun z => nx (fun h3 h4 => ?_), fun z => ?_⟩⟩
    · exfalso; apply z; unfold waP; rw [if_neg h3]; exact h4
    · have h3 : A 3 c ≠ -1 := fun y => by unfold waP at z; rw [if_pos y] at z; omega
      obtain ⟨⟨q0, q1⟩, q2, q3, q4, q5⟩ := pl_ok hW c0 (by omega) h3
      have hw : A 3 c / 16 = w := by rw [q3] at z; exact z
      refine Mw.ex (R_has2 p0 (by omega) c0 (by omega)) ⟨fun y => ?_, fun y => nx (fun _ _ => ?_)⟩
      · have y2 : p.toNat.testBit c.toNat = false := by
          cases hb : p.toNat.testBit c.toNat with
          | true => rw [if_pos hb] at y; omega
          | false => rfl
        refine Mw.ex (R_course hx c0 (by omega)) ?_
        rw [q5, w32_of (show _ ≤ A 3 c % 4 + 1 by omega) (by omega)]
        have ab := abS_bd A p (3 - A 3 c % 4).toNat (A 3 c + 1)
        refine rp_49 hx hW w0 w4 p0 p1 c0 (by omega) h3 hw (X := abS A p (3 - A 3 c % 4).toNat (A 3 c + 1)) (S_X13_areHeld_98 (Mw.ex (R_bears hx hW c0 (by omega) h3) (Mw.ex (R_toldOf hx.1 (by decide) (by decide)) ?_))) (3 - A 3 c % 4).toNat (A 3 c % 4 + 1) 0 (by omega) (by omega) (by omega) (by omega) ?_
        · rw [show (14 : Int) + 2 = 16 from rfl]
          have m1 := Int.mul_nonneg ab.1 tw16.1
          have m2 := Int.mul_le_mul_of_nonneg_right (show abS A p (3 - A 3 c % 4).toNat (A 3 c + 1) ≤ 4 by omega) tw16.1
          rw [w32_of (show _ ≤ abS A p (3 - A 3 c % 4).toNat (A 3 c + 1) * T 0 16 by omega) (by omega), w32_of (show _ ≤ c + 1 by omega) (by omega)]
          refine ⟨fun x => nx (fun _ _ => ?_), fun x => ⟨?_, rfl⟩⟩
          · unfold hpK
            rw [q2, decide_eq_true x]
            simp
          · rw [hpB_no (k := A 3 c) (by omega) (by omega)]
            · rfl
            · unfold hpK
              rw [q2, decide_eq_false x, y2]
              simp
              omega
        · rw [show 16 * w + 4 * (A 3 c / 4 % 4) + (A 3 c % 4 + 1) = A 3 c + 1 by omega]
          omega
      · have y2 : p.toNat.testBit c.toNat = true := Classical.byContradiction (fun x => y (if_neg x))
        unfold hpK
        rw [q2, y2]
        simp
theorem R_areHeld (hx : RX s 1 b T A) (hW : WOK T A) (w0 : 0 ≤ w) (w4 : w < 4) (p0 : 0 ≤ p) (p1 : p < 256) : Mw g (e + 3) M_X13_areHeld [(21, 92), (0, w), (0, p)] s (Ex (if hpB T A 0 w p then 1 else 0) s) := by
  have t8 := hx.ok.2.1
  exact S_X13_areHeld (fun _ _ => rp_2 hx hW w0 w4 p0 p1 (T 1 1).toNat 0 (by decide) (by omega) (fun k k0 k1 => by omega))
theorem rp_32 (hx : RX s 1 b T A) (hW : WOK T A) (w0 : 0 ≤ w) (w4 : w < 4) {S : Int} (S0 : 0 ≤ S) (S1 : S < 256) :
    ∀ (n : Nat) (k bt : Int), 0 ≤ k → k + n = S + 1 → -1 ≤ bt → bt < 256 → P_X13_props_32 g (e + 3) (Ex (fpR (hpB T A 0 w) S n k bt) s) s w S bt k := by
  intro n
  induction n with
  | zero =>
    intro k bt k0 hk t0 t1
    exact S_X13_props_32 ⟨fun _ => ⟨rfl, rfl⟩, fun q => absurd (by omega) q⟩
  | succ n ih =>
    intro k bt k0 hk t0 t1
    have no : ¬ (bAnd k (bXor S (-1)) = 0 ∧ (bt = -1 ∨ popF k < popF bt) ∧ hpB T A 0 w k = true) → P_X13_props_32 g (e + 3) (Ex (fpR (hpB T A 0 w) S (n + 1) k bt) s) s w S bt (w32 (k + 1)) := fun z => by
      unfold fpR
      rw [if_neg z, w32_of (by omega) (by omega)]
      exact ih (k + 1) bt (by omega) (by omega) t0 t1
    have go : bAnd k (bXor S (-1)) = 0 → (bt = -1 ∨ popF k < popF bt) → P_X13_props_67 g (e + 3) (Ex (fpR (hpB T A 0 w) S (n + 1) k bt) s) s w S bt k := fun z1 z2 => by
      refine S_X13_props_67 (Mw.ex (R_areHeld hx hW w0 w4 k0 (by omega)) ⟨fun q3 => no (fun z => by rw [z.2.2, if_pos rfl] at q3; omega), fun q3 => ?_⟩)
      have q4 : hpB T A 0 w k = true := Classical.byContradiction (fun z => q3 (if_neg z))
      unfold fpR
      rw [if_pos ⟨z1, z2, q4⟩, w32_of (by omega) (by omega)]
      exact ih (k + 1) k (by omega) (by omega) (by omega) (by omega)
    refine S_X13_props_32 ⟨fun q => absurd q (by omega), fun _ => ⟨fun q2 => no (fun z => q2 z.1), fun q2 => ⟨fun q3 => go q2 (Or.inl q3), fun q3 => Mw.ex (R_bits k0 (by omega)) (Mw.ex (R_bits (by omega) (by omega)) ⟨fun q4 => go q2 (Or.inr q4), fun q4 => no (fun z => by rcases z.2.1 with y | y; exact q3 y; exact q4 y)⟩)⟩⟩⟩
theorem R_props (hx : RX s 0 b T A) (hW : WOK T A) : Mw g (e + 4) M_X13_props [(21, 92), (0, w)] s (fun r s' => r = prS T A w ∧ Fp 1 s s') := by
  have hT := hx.ok
  have t2 := hT.2.2.1
  refine S_X13_props (fun _ => Mw.ex (R_isWall hx.1) ⟨fun q => ?_, fun q => ⟨?_, Fp.rf⟩⟩)
  · have hw : 0 ≤ w ∧ w < T 1 2 := Classical.byContradiction (fun z => q (if_neg z))
    have sb := stW_bd (A := A) hT w
    refine (R_try hx).imp (fun _ s4 h4 => (R_freezes h4.1 hW).imp (fun _ s6 h6 => ?_))
    have x0 : RX s6 0 b T A := (hx.fo h4.2 (by decide) (by decide)).fo h6.2 (by decide) (by decide)
    refine Mw.ex (R_stonesIn x0) ?_
    rw [st_eq hT hW hw.1]
    have wk := freF_ok hT (T 1 1).toNat 0 A (by decide) (by have := hT.2.1; omega) hW
    refine Wp.imp (rp_32 h6.1.1 wk hw.1 (by omega) sb.1 sb.2 (stW T A w + 1).toNat 0 (-1) (by decide) (by omega) (by decide) (by decide)) (fun r s' z => ?_)
    obtain ⟨z1, z2⟩ := z
    refine ⟨?_, by rw [z2]; exact Fp.of (h4.2.tr h6.2)⟩
    have ef : hpB T (freF T (T 1 1).toNat 0 A) 0 w = hpB T A (T 0 18) w := by
      funext x
      exact (hp_free hT hW).resolve_right (fun y => y ⟨hw.1, by omega⟩)
    rw [z1, ef, fp_eq sb.1 sb.2 (hp_all hT hW hw.1 (by omega)) (stW T A w + 1).toNat 0 (-1) 256 (by decide) (by omega) (by decide) (Or.inl rfl) (fun z => by omega), if_pos rfl]
    unfold prS
    rw [if_pos hw]
  · unfold prS
    rw [if_neg (fun z => by rw [if_pos z] at q; omega)]
end RPROPS
