/-! who comes down; when built in first; the class's firstBuilt, comingDown, strongestHome -/
/-- those of X that came down since A0, and the set that is told -/
def SB (A0 : Wd) (X : WX) : Prop := (0 ≤ X.2.1 ∧ X.2.1 < 256) ∧ ∀ c : Nat, c < 8 → (X.1 3 c = A0 3 c ∨ X.1 3 c = -1) ∧ X.2.1.toNat.testBit c = decide (A0 3 c ≠ -1 ∧ X.1 3 c = -1)
def dwnX (T : Tn) (A : Wd) (c : Int) : WX := fallX T 8 (dropX (A, 0, 0) (A 3 c))
section DOWN
variable {T : Tn} {A : Wd}
theorem SB.st (f : Int) : SB A (A, 0, f) := by
  refine ⟨⟨Int.le_refl 0, by show (0 : Int) < 256; decide⟩, fun c _ => ⟨Or.inl rfl, ?_⟩⟩
  show Nat.testBit 0 c = decide (A 3 c ≠ -1 ∧ A 3 c = -1)
  rw [Nat.zero_testBit]
  symm
  apply decide_eq_false
  intro q
  exact q.1 q.2
theorem SB.drop {X : WX} {p : Int} (h : SB A X) (hW : WOK T X.1) (p0 : 0 ≤ p) (p1 : p < 64) (hl : X.1 4 p ≠ -1) : SB A (dropX X p) := by
  obtain ⟨⟨w0, w1⟩, hb⟩ := h
  obtain ⟨d1, d2⟩ := dropX_w X p ⟨by omega, by omega⟩
  obtain ⟨db, dt⟩ := dropX_bit (A := X.1) hW p0 p1 hl
  have hs := (dropX_spec hW p0 p1 hl).2.1
  have ob := bOr_lt (n := 8) w0 w1 db.1 db.2 (by decide)
  refine ⟨by rw [d2]; exact ob, fun c hc => ?_⟩
  obtain ⟨b1, b2⟩ := hb c hc
  rw [hs c (by omega) (by omega), d2, bOr_bit w0 (by omega) db.1 (by omega), b2, dt c hc]
  by_cases z : p ≤ X.1 3 c ∧ X.1 3 c / 4 = p / 4
  · rw [if_pos z]
    refine ⟨Or.inr rfl, ?_⟩
    have : A 3 c ≠ -1 := by
      rcases b1 with y | y
      · rw [← y]; omega
      · omega
    rw [decide_eq_true z, Bool.or_true]
    exact (decide_eq_true ⟨this, rfl⟩).symm
  · rw [if_neg z]
    refine ⟨b1, ?_⟩
    rw [decide_eq_false z, Bool.or_false]
theorem SB.fall (hT : TOK T) : ∀ (m : Nat) (X : WX), SB A X → WOK T X.1 → SB A (fallX T m X) := by
  intro m
  induction m with
  | zero => intro X h _; exact h
  | succ m ih =>
    intro X h hW
    unfold fallX
    split
    · exact h
    · rename_i hn
      obtain ⟨z1, z2, z3⟩ := loo_in hT hn
      exact ih _ (h.drop hW z1 z2 z3) (dropX_spec hW z1 z2 z3).1
theorem built_lie (hW : WOK T A) {c : Int} (c0 : 0 ≤ c) (c8 : c < 8) (h3 : A 3 c ≠ -1) : (0 ≤ A 3 c ∧ A 3 c < 64) ∧ A 4 (A 3 c) ≠ -1 := by
  obtain ⟨p0, p1, p2⟩ := (hW.2.1.1 c c0 c8).resolve_left h3
  exact ⟨⟨p0, p1⟩, by rw [p2]; omega⟩
theorem dwnX_sb (hT : TOK T) (hW : WOK T A) {c : Int} (c0 : 0 ≤ c) (c8 : c < 8) (h3 : A 3 c ≠ -1) : SB A (dwnX T A c) ∧ WOK T (dwnX T A c).1 := by
  obtain ⟨⟨p0, p1⟩, hl⟩ := built_lie hW c0 c8 h3
  have d := (dropX_spec (X := (A, 0, 0)) hW p0 p1 hl).1
  exact ⟨SB.fall hT 8 _ ((SB.st 0).drop (T := T) hW p0 p1 hl) d, fallX_ok 8 _ hT d⟩
theorem wh3 (c : Int) : (whS T A c == 3) = decide (A 3 c ≠ -1) := by
  unfold whS
  by_cases z : A 3 c = -1
  · rw [if_pos z]
    simp only [z, ne_eq, not_true_eq_false, decide_false]
    split
    · rfl
    · split <;> rfl
  · rw [if_neg z]
    simp [z]
theorem bits3 (c : Nat) : (bitsS T A 3).toNat.testBit c = (decide (c < (T 1 1).toNat) && decide (A 3 c ≠ -1)) := by
  have := setF_bit (T 1 1).toNat (fun c => whS T A c == 3) c
  unfold bitF at this
  unfold bitsS
  rw [this, wh3]
/-- the class's way to tell who came down -/
theorem down_eq {B : Wd} (hT : TOK T) (hB : WOK T B) (he : ∀ k, 0 ≤ k → k < 8 → B 3 k = A 3 k) {X : WX} (h : SB B X) : bAnd (bitsS T A 3) (bXor (bitsS T X.1 3) (-1)) = X.2.1 := by
  have b8 := hT.2.1
  have a := bits_bd (T := T) (A := A) hT 3
  have x := bits_bd (T := T) (A := X.1) hT 3
  obtain ⟨⟨n1, n2⟩, nb⟩ := bAndN_bit a.1 (show bitsS T A 3 < 2147483648 by omega) x.1 (show bitsS T X.1 3 < 2147483648 by omega)
  obtain ⟨⟨w0, w1⟩, hb⟩ := h
  refine eq_bits n1 w0 (fun j => ?_)
  rw [nb, bits3, bits3]
  by_cases hj : j < 8
  · rw [(hb j hj).2, he j (by omega) (by omega)] 
    by_cases hn : j < (T 1 1).toNat
    · simp only [hn, decide_true, Bool.true_and]
      rw [← he j (by omega) (by omega)]
      by_cases y1 : B 3 j = -1 <;> by_cases y2 : X.1 3 j = -1 <;> simp [y1, y2]
    · have : A 3 j = -1 := Classical.byContradiction (fun z => by
        rw [← he j (by omega) (by omega)] at z
        have := (hB.2.2.2 j (by omega) (by omega) z).1
        omega)
      simp [hn, this]
  · rw [bit_hi (n := 8) w0 w1 (by omega)]
    have : ¬ j < (T 1 1).toNat := by omega
    simp [this]
variable {g : GT} {e : Nat} {s : Sg} {tw : Int}
theorem C_comingDown {c : Int} (hx : CX s 48 tw T A) (hW : WOK T A) (c0 : 0 ≤ c) (c1 : c < T 1 1) (h3 : A 3 c ≠ -1) : Mw g (e + 6) M_X5_comingDown [(14, 55), (19, 48), (0, c)] s (fun r s' => ∃ B, WEe A B 0 ∧ r = (dwnX T B c).2.1 ∧ Fr (Jw 58) s s') := by
  have hT := hx.ok
  have b8 := hT.2.1
  have a02 := hW.1.2.1
  refine S_X5_comingDown (fun _ _ => (C_copy hx (Or.inr rfl) (by decide)).imp (fun _ s2 h2 => ?_))
  obtain ⟨B, h2a, h2b, h2c, h2d⟩ := h2
  have hB := hW.weq h2b (by omega) hT.2.1.2
  have e3 : ∀ k, 0 ≤ k → k < 8 → B 3 k = A 3 k := fun k k0 k1 => (h2b.2.2.1 k k0 k1).2.2
  have hb3 : B 3 c ≠ -1 := by rw [e3 c c0 (by omega)]; exact h3
  refine (C_pullOut h2a hB c0 (by omega) hb3).imp (fun _ s4 h4 => ?_)
  have f4 : Fr (Jw 58) s s4 := (h2d.wk (fun o ho => Or.inl ho)).tr h4.2
  have x4 : CX s4 48 tw T A := by
    obtain ⟨q1, q2, q3, q4, q5, q6, q7⟩ := hx
    have nj : ∀ o, (48 ≤ o ∧ o ≤ 54) → ¬ Jw 58 o := fun o ho q => by
      rcases q with y | y
      · omega
      · unfold Jk at y; omega
    refine ⟨q1, q2, ?_, q4.fr f4 (fun o o1 o2 o3 q => ?_), q5.fr f4 (fun o o1 o2 => nj o (by omega)), q6, q7⟩
    · rw [f4 48 (nj 48 (by omega))]; exact q3
    · unfold isT at q2
      rcases q with y | y
      · omega
      · unfold Jk at y; omega
  refine Mw.ex (C_bitsAt x4) (Mw.ex (C_bitsAt h4.1.1) ⟨B, ⟨h2b.1, by rw [bOr_0 ⟨by omega, by omega⟩]; exact h2b.2.1, h2c, h2b.2.2.1, h2b.2.2.2.1, h2b.2.2.2.2⟩, ?_, f4⟩)
  exact down_eq hT hB e3 (dwnX_sb hT hB c0 (by omega) hb3).1
theorem CX.o58 {s2 : Sg} (hx : CX s 48 tw T A) (f : Fr (Jw 58) s s2) : CX s2 48 tw T A := by
  obtain ⟨q1, q2, q3, q4, q5, q6, q7⟩ := hx
  have nj : ∀ o, (48 ≤ o ∧ o ≤ 54) → ¬ Jw 58 o := fun o ho q => by
    rcases q with y | y
    · omega
    · unfold Jk at y; omega
  refine ⟨q1, q2, ?_, q4.fr f (fun o o1 o2 o3 q => ?_), q5.fr f (fun o o1 o2 => nj o (by omega)), q6, q7⟩
  · rw [f 48 (nj 48 (by omega))]; exact q3
  · unfold isT at q2
    rcases q with y | y
    · omega
    · unfold Jk at y; omega
theorem fb_loop {c : Int} (hx : CX s 48 tw T A) (hF : TF T) (c0 : 0 ≤ c) (c1 : c < T 1 1) (hy : 0 ≤ A 0 1 ∧ A 0 1 ≤ 999) : ∀ (n : Nat) (k : Int) (s0 : Sg) (X : WX) (b : Int), k + n = 62 → 0 ≤ k → CZ s0 58 tw T X b → WOK T X.1 → (A 0 1 + k ≤ 999 → X.1 0 1 = A 0 1 + k) → (0 ≤ X.2.2 ∧ X.2.2 + 10 * n ≤ 100000) → (0 ≤ b ∧ b + 8 * n ≤ 100000) → Fr (Jw 58) s s0 →
    ∀ Y : Wd, (A 0 1 + k ≤ 999 → Y = X.1) → P_X5_firstBuilt_10 g (e + 6) (fun r s' => r = fbF T c (A 0 1) n k Y ∧ Fr (Jw 58) s s') s0 48 c k := by
  intro n
  have hT := hx.ok
  have b8 := hT.2.1
  induction n with
  | zero =>
    intro k s0 X b hk k0 h58 hW hyk hf hb fr Y hY
    exact S_X5_firstBuilt_10 ⟨fun _ => ⟨rfl, fr⟩, fun q => absurd (by omega) q⟩
  | succ n ih =>
    intro k s0 X b hk k0 h58 hW hyk hf hb fr Y hY
    have x0 := hx.o58 fr
    refine S_X5_firstBuilt_10 ?_
    rw [x0.y, show (61 : Int) = 58 + 3 by decide, h58.1.w3]
    by_cases k60 : 60 < k
    · refine ⟨fun _ => ⟨?_, fr⟩, fun q => absurd k60 q⟩
      unfold fbF; rw [if_pos (Or.inl k60)]
    rw [w32_of (show _ ≤ A 0 1 + k by omega) (by omega), w32_of (show _ ≤ k + 1 by omega) (by omega)]
    by_cases k9 : 999 < A 0 1 + k
    · refine ⟨fun q => absurd q k60, fun _ => ⟨fun _ => ⟨?_, fr⟩, fun q => absurd k9 q⟩⟩
      unfold fbF; rw [if_pos (Or.inr k9)]
    have hXY : Y = X.1 := hY (by omega)
    have hyX := hyk (by omega)
    refine ⟨fun q => absurd q k60, fun _ => ⟨fun q => absurd q k9, fun _ => ⟨⟨c0, by omega⟩, fun h3 => ?_, fun h3 => ⟨?_, fr⟩⟩⟩⟩
    · refine (C_passYear h58 hF hW).imp (fun _ s2 h2 => ?_)
      have e1 : fbF T c (A 0 1) (n + 1) k Y = fbF T c (A 0 1) n (k + 1) (pasR T 0 Y).1 := by
        show (if 60 < k ∨ 999 < A 0 1 + k then (-1 : Int) else if Y 3 c ≠ -1 then k else _) = _
        rw [if_neg (by omega), if_neg (by rw [hXY]; exact fun q => q h3)]
      rw [e1]
      refine ih (k + 1) s2 _ _ (by omega) (by omega) h2.1 (pasA_ok hT hW) ?_ ?_ ?_ (fr.tr h2.2) (pasR T 0 Y).1 ?_
      · intro q
        show (pasA T 0 X.1 X.2.2 b).1 0 1 = _
        rw [(pasA_R (by omega) hT hW hb.1 (by omega)).1, (pasR_y hT hW (by omega)).1]; omega
      · show 0 ≤ (falY T 0 X.1 X.2.2).2.2 ∧ (falY T 0 X.1 X.2.2).2.2 + 10 * n ≤ 100000
        have h := fallX_pop hT 8 (preA T 0 X.1, 0, X.2.2) (preA_ok (fr := 0) hT hW) ⟨⟨Int.le_refl 0, by show (0 : Int) < 256; decide⟩, fun c _ _ _ => by show Nat.testBit 0 _ = _; exact Nat.zero_testBit _⟩ hf.1 (by show X.2.2 + 4 * ((8 : Nat) : Int) ≤ 900000; omega)
        have e0 : popF 0 = 0 := by decide
        have pb := popF_bd h.1.1.1 (by have := h.1.1.2; omega)
        have h2' := h.2.1
        dsimp only at h2'
        unfold falY
        omega
      · have b1 := bluF_b (T := T) (w := (falY T 0 X.1 X.2.2).2.1) (T 1 1).toNat 0 (falY T 0 X.1 X.2.2).1 b 0 hb.1 (by decide) (by omega) (by omega)
        show 0 ≤ (bluF T (falY T 0 X.1 X.2.2).2.1 (T 1 1).toNat 0 ((falY T 0 X.1 X.2.2).1, b)).2 ∧ (bluF T (falY T 0 X.1 X.2.2).2.1 (T 1 1).toNat 0 ((falY T 0 X.1 X.2.2).1, b)).2 + 8 * n ≤ 100000
        omega
      · intro q
        show (pasR T 0 Y).1 = (pasA T 0 X.1 X.2.2 b).1
        rw [hXY, (pasA_R (by omega) hT hW hb.1 (by omega)).1]
    · show k = (if 60 < k ∨ 999 < A 0 1 + k then (-1 : Int) else if Y 3 c ≠ -1 then k else _)
      rw [if_neg (by omega), if_pos (by rw [hXY]; exact h3)]
theorem C_firstBuilt {c : Int} (hx : CX s 48 tw T A) (hW : WOK T A) (hF : TF T) (c0 : 0 ≤ c) (c1 : c < T 1 1) (hy : A 0 1 ≤ 999) : Mw g (e + 7) M_X5_firstBuilt [(14, 55), (19, 48), (0, c)] s (fun r s' => ∃ B, WEe A B 0 ∧ r = fbF T c (A 0 1) 62 0 B ∧ Fr (Jw 58) s s') := by
  have hT := hx.ok
  have a02 := hW.1.2.1
  have a01 := hW.1.1
  refine S_X5_firstBuilt (fun _ _ => (C_copy hx (Or.inr rfl) (by decide)).imp (fun _ s2 h2 => ?_))
  obtain ⟨B, h2a, h2b, h2c, h2d⟩ := h2
  have hB := hW.weq h2b (by omega) hT.2.1.2
  have := fb_loop (g := g) (e := e) (s := s) hx hF c0 c1 ⟨a01.1, hy⟩ 62 0 s2 (B, 0, 0) 0 (by decide) (by decide) h2a hB (fun _ => by show B 0 1 = _; rw [h2b.1, Int.add_zero]) ⟨Int.le_refl 0, by show (0 : Int) + 10 * 62 ≤ 100000; decide⟩ (by decide) (h2d.wk (fun o ho => Or.inl ho)) B (fun _ => rfl)
  refine Wp.imp this (fun r s' h => ⟨B, ⟨h2b.1, by rw [bOr_0 ⟨by omega, by omega⟩]; exact h2b.2.1, h2c, h2b.2.2.1, h2b.2.2.2.1, h2b.2.2.2.2⟩, h.1, h.2⟩)
end DOWN
