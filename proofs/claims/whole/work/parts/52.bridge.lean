/-! the class's year and the reference's are one; how many fell -/
def popB (w c : Nat) : Bool := Nat.testBit w c || popF (bOr w (bShl 1 c)) == popF w + 1
theorem pop_chk : ∀ w : Nat, w < 256 → ∀ c : Nat, c < 8 → popB w c = true := by decide +kernel
theorem pop_or {w c : Int} (w0 : 0 ≤ w) (w1 : w < 256) (c0 : 0 ≤ c) (c8 : c < 8) (hb : w.toNat.testBit c.toNat = false) : popF (bOr w (bShl 1 c)) = popF w + 1 := by
  have h := pop_chk w.toNat (by omega) c.toNat (by omega)
  unfold popB at h
  rw [hb, Bool.false_or, beq_iff_eq, show ((w.toNat : Nat) : Int) = w by omega, show ((c.toNat : Nat) : Int) = c by omega] at h
  exact h
section BRIDGE
variable {T : Tn} {A : Wd}
theorem preA_R {fr : Int} (hy : A 0 1 ≤ 998) : preA T fr A = preR T fr A := by
  have e : yeaA (raiF T (T 1 1).toNat 0 A) = yeR (raiF T (T 1 1).toNat 0 A) := by
    unfold yeaA yeR
    rw [raiF_0, show min 999 (A 0 1 + 1) = A 0 1 + 1 by omega]
  unfold preA preR
  rw [e]
theorem in0 : inR 0 := ⟨by decide, by decide⟩
theorem falY_R {fr f : Int} (hy : A 0 1 ≤ 998) (hT : TOK T) (hW : WOK T A) : (falY T fr A f).1 = (falR T fr A).1 ∧ (falY T fr A f).2.1 = (falR T fr A).2.1 := by
  unfold falY falR
  rw [preA_R hy]
  obtain ⟨h1, h2⟩ := fallX_w (T := T) 8 (preR T fr A, 0, f) in0
  refine ⟨h1, ?_⟩
  rw [h2]
  have := fallX_bd hT 8 (preR T fr A, 0, 0) (preR_ok hT hW (by omega)) (Int.le_refl 0) (by show (0 : Int) < 256; decide)
  exact bOr_0l (a := (fallX T 8 (preR T fr A, 0, 0)).2.1) ⟨by omega, by omega⟩
theorem bluF_b {w : Int} : ∀ (n : Nat) (c : Int) (A : Wd) (x y : Int), 0 ≤ x → 0 ≤ y → x + n ≤ 1000000 → y + n ≤ 1000000 → (bluF T w n c (A, x)).1 = (bluF T w n c (A, y)).1 ∧ (bluF T w n c (A, x)).2 - x = (bluF T w n c (A, y)).2 - y ∧ x ≤ (bluF T w n c (A, x)).2 ∧ (bluF T w n c (A, x)).2 ≤ x + n := by
  intro n
  induction n with
  | zero => intro c A x y x0 y0 hx hy; exact ⟨rfl, by show x - x = y - y; omega, Int.le_refl _, by show x ≤ x + 0; omega⟩
  | succ n ih =>
    intro c A x y x0 y0 hx hy
    unfold bluF blu1
    by_cases h : whS T A c = 2 ∧ bAnd w (bShl 1 c) = 0
    · simp only [h, and_self, if_true]
      by_cases h2 : bldW T A c = -1
      · simp only [h2, if_true]
        have := ih (c + 1) (bldA T A c) x y x0 y0 (by omega) (by omega)
        exact ⟨this.1, this.2.1, this.2.2.1, by omega⟩
      · simp only [h2, if_false]
        rw [w32_of (show _ ≤ x + 1 by omega) (by omega), w32_of (show _ ≤ y + 1 by omega) (by omega)]
        have := ih (c + 1) (bldA T A c) (x + 1) (y + 1) (by omega) (by omega) (by omega) (by omega)
        exact ⟨this.1, by omega, by omega, by omega⟩
    · simp only [h, if_false]
      have := ih (c + 1) A x y x0 y0 (by omega) (by omega)
      exact ⟨this.1, this.2.1, this.2.2.1, by omega⟩
theorem pasA_R {fr f b : Int} (hy : A 0 1 ≤ 998) (hT : TOK T) (hW : WOK T A) (b0 : 0 ≤ b) (b1 : b ≤ 900000) : (pasA T fr A f b).1 = (pasR T fr A).1 ∧ (pasA T fr A f b).2 = b + (pasR T fr A).2 ∧ 0 ≤ (pasR T fr A).2 ∧ (pasR T fr A).2 ≤ 8 := by
  have b8 := hT.2.1
  obtain ⟨h1, h2⟩ := falY_R (fr := fr) (f := f) hy hT hW
  unfold pasA pasR
  rw [h1, h2]
  have i := bluF_b (T := T) (w := (falR T fr A).2.1) (T 1 1).toNat 0 (falR T fr A).1 b 0 b0 (by decide) (by omega) (by omega)
  have i0 := bluF_b (T := T) (w := (falR T fr A).2.1) (T 1 1).toNat 0 (falR T fr A).1 0 0 (by decide) (by decide) (by omega) (by omega)
  exact ⟨i.1, by omega, by omega, by omega⟩
/-- those that wait are not built in; their number is told -/
def Wq (A : Wd) (w : Int) : Prop := (0 ≤ w ∧ w < 256) ∧ ∀ c, 0 ≤ c → c < 8 → A 3 c ≠ -1 → w.toNat.testBit c.toNat = false
theorem dropL_pop {q : Int} (hq : 0 ≤ q) (hq2 : q < 16) : ∀ (n : Nat) (k : Int) (X : WX), 4 * q ≤ k → k + n ≤ 4 * q + 4 → WI0 X.1 → (∀ j, k ≤ j → j < k + n → X.1 4 j ≠ -1) → Wq X.1 X.2.1 → 0 ≤ X.2.2 → X.2.2 + n ≤ 1000000 →
    Wq (dropL n X k).1 (dropL n X k).2.1 ∧ (dropL n X k).2.2 - X.2.2 = popF (dropL n X k).2.1 - popF X.2.1 ∧ (dropL n X k).2.2 = X.2.2 + n := by
  intro n
  induction n with
  | zero => intro k X k1 k2 hI hl hw f0 f1; exact ⟨hw, by show X.2.2 - X.2.2 = popF X.2.1 - popF X.2.1; omega, by show X.2.2 = X.2.2 + 0; omega⟩
  | succ n ih =>
    intro k X k1 k2 hI hl hw f0 f1
    have h := hl k (by omega) (by omega)
    obtain ⟨c0, c8, cp⟩ := (hI.2 k (by omega) (by omega)).resolve_left h
    have e3 : ∀ j, keepA (liftA X.1 (X.1 4 k)) (X.1 4 k) (k / 16) 0 3 j = if j = X.1 4 k then -1 else X.1 3 j := fun j => by rw [keepA_at _ _ _ _ (by decide) (by decide), liftA_3]
    have e4 : ∀ j, j ≠ k → keepA (liftA X.1 (X.1 4 k)) (X.1 4 k) (k / 16) 0 4 j = X.1 4 j := fun j hj => by
      rw [keepA_at _ _ _ _ (by decide) (by decide), liftA_4, cp, if_neg (fun z => hj z.2)]
    have sb := bShl_8 c0 c8
    have ob := bOr_lt (n := 8) hw.1.1 hw.1.2 sb.1 sb.2 (by decide)
    have hp := pop_or hw.1.1 hw.1.2 c0 c8 (hw.2 _ c0 c8 (by rw [cp]; omega))
    have hi := ih (k + 1) (keepA (liftA X.1 (X.1 4 k)) (X.1 4 k) (k / 16) 0, bOr X.2.1 (bShl 1 (X.1 4 k)), w32 (X.2.2 + 1)) (by omega) (by omega) (keepA_I (liftA_I hI c0 c8)) (fun j j1 j2 => by
      show keepA (liftA X.1 (X.1 4 k)) (X.1 4 k) (k / 16) 0 4 j ≠ -1
      rw [e4 j (by omega)]
      exact hl j (by omega) (by omega)) ⟨ob, fun c cc0 cc8 hc => by
        dsimp only at hc ⊢
        rw [e3] at hc
        split at hc
        · exact absurd rfl hc
        · rename_i z
          have w2 := hw.1.2
          rw [bOr_bit hw.1.1 (by omega) sb.1 (by omega), bShl1_bit c0 (by omega), hw.2 c cc0 cc8 hc]
          simp
          omega⟩ (by show 0 ≤ w32 (X.2.2 + 1); rw [w32_of (by omega) (by omega)]; omega) (by show w32 (X.2.2 + 1) + n ≤ 1000000; rw [w32_of (by omega) (by omega)]; omega)
    unfold dropL drop1
    rw [if_neg h]
    obtain ⟨i1, i2, i3⟩ := hi
    refine ⟨i1, ?_, ?_⟩
    · have e : (keepA (liftA X.1 (X.1 4 k)) (X.1 4 k) (k / 16) 0, bOr X.2.1 (bShl 1 (X.1 4 k)), w32 (X.2.2 + 1)).2.2 = X.2.2 + 1 := w32_of (by omega) (by omega)
      rw [e] at i2
      show _ = _ - popF X.2.1
      dsimp only at i2
      rw [hp] at i2
      omega
    · rw [i3]
      show w32 (X.2.2 + 1) + n = _
      rw [w32_of (by omega) (by omega)]
      omega
theorem dropX_pop {X : WX} {p : Int} (hW : WOK T X.1) (p0 : 0 ≤ p) (p1 : p < 64) (hl : X.1 4 p ≠ -1) (hw : Wq X.1 X.2.1) (f0 : 0 ≤ X.2.2) (f1 : X.2.2 ≤ 900000) :
    Wq (dropX X p).1 (dropX X p).2.1 ∧ (dropX X p).2.2 - X.2.2 = popF (dropX X p).2.1 - popF X.2.1 ∧ X.2.2 ≤ (dropX X p).2.2 ∧ (dropX X p).2.2 ≤ X.2.2 + 4 := by
  have hh := hW.2.2.1 (p / 4) (by omega) (by omega)
  have hlt : p % 4 < X.1 5 (p / 4) := by
    have := hh.2.2 (p % 4) (by omega) (by omega)
    rw [show 4 * (p / 4) + p % 4 = p by omega] at this
    have : ¬ X.1 5 (p / 4) ≤ p % 4 := fun z => hl (this.mpr z)
    omega
  have := dropL_pop (q := p / 4) (by omega) (by omega) (X.1 5 (p / 4) - p % 4).toNat p X (by omega) (by omega) hW.2.1 (fun j j1 j2 => by
    have := hh.2.2 (j - 4 * (p / 4)) (by omega) (by omega)
    rw [show 4 * (p / 4) + (j - 4 * (p / 4)) = j by omega] at this
    intro z
    have := this.mp z
    omega) hw f0 (by omega)
  unfold dropX
  exact ⟨this.1, this.2.1, by omega, by omega⟩
theorem fallX_pop (hT : TOK T) : ∀ (m : Nat) (X : WX), WOK T X.1 → Wq X.1 X.2.1 → 0 ≤ X.2.2 → X.2.2 + 4 * m ≤ 900000 →
    Wq (fallX T m X).1 (fallX T m X).2.1 ∧ (fallX T m X).2.2 - X.2.2 = popF (fallX T m X).2.1 - popF X.2.1 ∧ X.2.2 ≤ (fallX T m X).2.2 := by
  intro m
  induction m with
  | zero => intro X _ hw f0 f1; exact ⟨hw, by show X.2.2 - X.2.2 = popF X.2.1 - popF X.2.1; omega, Int.le_refl _⟩
  | succ m ih =>
    intro X hW hw f0 f1
    unfold fallX
    split
    · exact ⟨hw, by omega, Int.le_refl _⟩
    · rename_i h
      obtain ⟨z1, z2, z3⟩ := loo_in hT h
      obtain ⟨d1, d2, d3, d4⟩ := dropX_pop hW z1 z2 z3 hw f0 (by omega)
      obtain ⟨i1, i2, i3⟩ := ih _ (dropX_spec hW z1 z2 z3).1 d1 (by omega) (by omega)
      exact ⟨i1, by omega, by omega⟩
theorem falY_pop {fr f : Int} (hy : A 0 1 ≤ 998) (hT : TOK T) (hW : WOK T A) (f0 : 0 ≤ f) (f1 : f ≤ 800000) : (falY T fr A f).2.2 = f + popF (falR T fr A).2.1 := by
  have h := fallX_pop hT 8 (preA T fr A, 0, f) (preA_ok hT hW) ⟨⟨Int.le_refl 0, by show (0 : Int) < 256; decide⟩, fun c _ _ _ => by show Nat.testBit 0 _ = _; exact Nat.zero_testBit _⟩ f0 (by show f + 4 * ((8 : Nat) : Int) ≤ 900000; omega)
  have h2 := (falY_R (fr := fr) (f := f) hy hT hW).2
  unfold falY at h2 ⊢
  have e0 : popF 0 = 0 := by decide
  rw [← h2]
  have := h.2.1
  dsimp only at this
  omega
end BRIDGE
