/-! years ahead: words; the class's goAhead, firstBuilt, comingDown -/
theorem Wp.imp {g : GT} {d : Nat} {M : MI} {Q Q2 : Int → Sg → Prop} {pc : Nat} {ls st : List AV} {σ : Sg} (h : Wp g d M Q pc ls st σ) (hq : ∀ r σ2, Q r σ2 → Q2 r σ2) : Wp g d M Q2 pc ls st σ := by
  intro p e s m args below meth c H locs lsA C S R L vl vs T hT X
  obtain ⟨t, a1, o, b1, b2, ⟨⟨r, σ2, c1, c2, c3, c4⟩, c5⟩, b3⟩ := h p e s m args below meth c H locs lsA C S R L vl vs T hT X
  exact ⟨t, a1, o, b1, b2, ⟨⟨r, σ2, c1, c2, hq r σ2 c3, c4⟩, c5⟩, b3⟩
theorem bAndN_bit {a b : Int} (ha : 0 ≤ a) (ha2 : a < 2147483648) (hb : 0 ≤ b) (hb2 : b < 2147483648) : (0 ≤ bAnd a (bXor b (-1)) ∧ bAnd a (bXor b (-1)) ≤ a) ∧ ∀ j : Nat, (bAnd a (bXor b (-1))).toNat.testBit j = (a.toNat.testBit j && !b.toNat.testBit j) := by
  have e1 : i3 (bXor b (-1)) = i3 b ^^^ i3 (-1) := by unfold bXor; rw [i3_to]
  have em : (i3 (-1)).toBitVec.toNat = 4294967295 := by decide +kernel
  have hn : (i3 a &&& i3 (bXor b (-1))).toBitVec.toNat = a.toNat &&& (b.toNat ^^^ 4294967295) := by
    rw [e1, Int32.toBitVec_and, Int32.toBitVec_xor, BitVec.toNat_and, BitVec.toNat_xor, em, bv_i3 ha, bv_i3 hb, bv_ofN (by omega), bv_ofN (by omega)]
  have hle : a.toNat &&& (b.toNat ^^^ 4294967295) ≤ a.toNat := Nat.and_le_left
  have hv : bAnd a (bXor b (-1)) = ((a.toNat &&& (b.toNat ^^^ 4294967295) : Nat) : Int) := by
    unfold bAnd
    exact bv_toI hn (by omega)
  rw [hv]
  refine ⟨⟨Int.natCast_nonneg _, by omega⟩, fun j => ?_⟩
  rw [Int.toNat_natCast, Nat.testBit_and, Nat.testBit_xor, show (4294967295 : Nat) = 2 ^ 32 - 1 by decide, Nat.testBit_two_pow_sub_one]
  by_cases hj : j < 32
  · simp [hj]
  · have : a.toNat.testBit j = false := Nat.testBit_lt_two_pow (Nat.lt_of_lt_of_le (show a.toNat < 2 ^ 31 by omega) (Nat.pow_le_pow_right (by omega) (by omega)))
    simp [this]
theorem eq_bits {a b : Int} (ha : 0 ≤ a) (hb : 0 ≤ b) (h : ∀ j : Nat, a.toNat.testBit j = b.toNat.testBit j) : a = b := by
  have := Nat.eq_of_testBit_eq h
  omega
theorem bit_hi {a : Int} {n j : Nat} (ha : 0 ≤ a) (h : a < 2 ^ n) (hj : n ≤ j) : a.toNat.testBit j = false := by
  refine Nat.testBit_lt_two_pow (Nat.lt_of_lt_of_le (m := 2 ^ n) ?_ (Nat.pow_le_pow_right (by omega) hj))
  have e2 : (2 : Int) ^ n = ((2 ^ n : Nat) : Int) := by simp
  rw [e2] at h
  omega
/-- n years ahead -/
def aheA (T : Tn) : Nat → Wd → Wd
  | 0, A => A
  | n + 1, A => aheA T n (pasR T 0 A).1
def aheF (T : Tn) : Nat → Wd → Int
  | 0, _ => 0
  | n + 1, A => popF (falR T 0 A).2.1 + aheF T n (pasR T 0 A).1
/-- behind how many years child c is built in first; y the year now -/
def fbF (T : Tn) (c y : Int) : Nat → Int → Wd → Int
  | 0, _, _ => -1
  | n + 1, k, A => if 60 < k ∨ 999 < y + k then -1 else if A 3 c ≠ -1 then k else fbF T c y n (k + 1) (pasR T 0 A).1
section AHEAD
variable {T : Tn} {A : Wd}
theorem freF_0 : ∀ (n : Nat) (c : Int) (A : Wd), freF T n c A 0 = A 0 := by
  intro n
  induction n with
  | zero => intro c A; rfl
  | succ n ih =>
    intro c A
    show freF T n (c + 1) (fre1 T A c) 0 = _
    rw [ih]
    unfold fre1
    split
    · rfl
    · exact ups_at _ (by decide)
theorem fallX_0 (hT : TOK T) : ∀ (m : Nat) (X : WX), WOK T X.1 → ∀ j, j ≠ 9 → (fallX T m X).1 0 j = X.1 0 j := by
  intro m
  induction m with
  | zero => intro X _ j _; rfl
  | succ m ih =>
    intro X hW j hj
    unfold fallX
    split
    · rfl
    · rename_i h
      obtain ⟨z1, z2, z3⟩ := loo_in hT h
      obtain ⟨d1, d2, d3, d4, d5, d6, d7⟩ := dropX_spec hW z1 z2 z3
      rw [ih _ d1 j hj, d5 j hj]
theorem bldA_0 {c j : Int} (hj : j ≠ 9) : bldA T A c 0 j = A 0 j := by
  unfold bldA
  split
  · rfl
  · rw [keepA_01 _ _ _ _ hj, putA_0]
theorem bluF_0 {w : Int} : ∀ (n : Nat) (c : Int) (Y : Wd × Int) (j : Int), j ≠ 9 → (bluF T w n c Y).1 0 j = Y.1 0 j := by
  intro n
  induction n with
  | zero => intro c Y j _; rfl
  | succ n ih =>
    intro c Y j hj
    show (bluF T w n (c + 1) (blu1 T w Y c)).1 0 j = _
    rw [ih _ _ _ hj]
    unfold blu1
    split
    · exact bldA_0 hj
    · rfl
theorem pasR_y {fr : Int} (hT : TOK T) (hW : WOK T A) (hy : A 0 1 ≤ 999) : (pasR T fr A).1 0 1 = A 0 1 + 1 ∧ (pasR T fr A).1 0 2 = A 0 2 := by
  have hp := preR_ok (fr := fr) hT hW hy
  have e : ∀ j, j ≠ 9 → (pasR T fr A).1 0 j = preR T fr A 0 j := fun j hj => by
    unfold pasR
    rw [bluF_0 _ _ _ _ hj]
    exact fallX_0 hT 8 _ hp j hj
  have y1 : preR T fr A 0 1 = A 0 1 + 1 := by
    unfold preR
    split
    · unfold yeR; rw [ups_eq, raiF_0]
    · rw [freF_0]; unfold yeR; rw [ups_eq, raiF_0]
  have y2 : preR T fr A 0 2 = A 0 2 := by
    unfold preR
    split
    · unfold yeR; rw [ups_k _ (by decide), raiF_0]
    · rw [freF_0]; unfold yeR; rw [ups_k _ (by decide), raiF_0]
  exact ⟨by rw [e 1 (by decide), y1], by rw [e 2 (by decide), y2]⟩
theorem pasR_ok {fr : Int} (hT : TOK T) (hW : WOK T A) (hy : A 0 1 ≤ 999) : WOK T (pasR T fr A).1 := by
  have b8 := hT.2.1
  exact bluF_ok hT _ _ _ (by omega) (by omega) (fallX_ok 8 _ hT (preR_ok hT hW hy))
theorem popF_bd {a : Int} (h0 : 0 ≤ a) (h1 : a < 1024) : 0 ≤ popF a ∧ popF a ≤ 10 := by
  have := popF_le a.toNat (by omega)
  rw [show ((a.toNat : Nat) : Int) = a by omega] at this
  exact this
theorem falR_bd {fr : Int} (hT : TOK T) (hW : WOK T A) (hy : A 0 1 ≤ 999) : 0 ≤ (falR T fr A).2.1 ∧ (falR T fr A).2.1 < 256 :=
  fallX_bd hT 8 (preR T fr A, 0, 0) (preR_ok hT hW hy) (Int.le_refl 0) (by show (0 : Int) < 256; decide)
theorem aheF_bd (hT : TOK T) : ∀ (n : Nat) (A : Wd), WOK T A → A 0 1 + n ≤ 1000 → 0 ≤ aheF T n A ∧ aheF T n A ≤ 10 * n := by
  intro n
  induction n with
  | zero => intro A _ _; exact ⟨Int.le_refl 0, by show (0 : Int) ≤ 10 * 0; omega⟩
  | succ n ih =>
    intro A hW hy
    have fb := falR_bd (fr := 0) hT hW (by omega)
    have pb := popF_bd fb.1 (by omega)
    have := ih _ (pasR_ok (fr := 0) hT hW (by omega)) (by rw [(pasR_y hT hW (by omega)).1]; omega)
    show 0 ≤ popF (falR T 0 A).2.1 + aheF T n (pasR T 0 A).1 ∧ popF (falR T 0 A).2.1 + aheF T n (pasR T 0 A).1 ≤ 10 * ((n + 1 : Nat) : Int)
    omega
theorem bits_bd (hT : TOK T) (w : Int) : 0 ≤ bitsS T A w ∧ bitsS T A w < 256 := by
  have b8 := hT.2.1
  have h := setF_lt (T 1 1).toNat (fun c => whS T A c == w)
  have h2 : 2 ^ (T 1 1).toNat ≤ 2 ^ 8 := Nat.pow_le_pow_right (by omega) (by omega)
  have e2 := pow2 (T 1 1).toNat
  unfold bitsS
  omega
variable {g : GT} {e : Nat} {s : Sg} {tw : Int}
theorem goahead_loop {n : Int} {Q : Int → Sg → Prop} (hF : TF T) (n60 : n ≤ 1000) : ∀ (m : Nat) (k : Int) (s0 : Sg) (X : WX) (b : Int), k + m = n → 0 ≤ k → CZ s0 58 tw T X b → WOK T X.1 → X.1 0 1 + m ≤ 999 → (0 ≤ X.2.2 ∧ X.2.2 + 10 * m ≤ 100000) → (0 ≤ b ∧ b + 8 * m ≤ 100000) →
    (∀ (s' : Sg) (X' : WX) (b' : Int), CZ s' 58 tw T X' b' → WOK T X'.1 → Fr (Jw 58) s0 s' → X'.1 = aheA T m X.1 → X'.2.2 = X.2.2 + aheF T m X.1 → Q (popF (bitsS T X'.1 3)) s') → P_X5_goAhead_24 g (e + 6) Q s0 n k := by
  intro m
  induction m with
  | zero =>
    intro k s0 X b hk k0 hx hW hy hf hb hQ
    have bb := bits_bd (A := X.1) hx.1.ok 3
    refine S_X5_goAhead_24 ⟨fun _ => Mw.ex (C_bitsAt hx.1) (Mw.ex (C_bitCount bb.1 (by omega)) (hQ s0 X b hx hW Fr.rf rfl ?_)), fun q => absurd (by omega) q⟩
    show X.2.2 = X.2.2 + 0
    omega
  | succ m ih =>
    intro k s0 X b hk k0 hx hW hy hf hb hQ
    have hT := hx.1.ok
    have y0 := hW.1.1
    refine S_X5_goAhead_24 ⟨fun q => by omega, fun _ => (C_passYear hx hF hW).imp (fun _ s6 h6 => ?_)⟩
    rw [w32_of (by omega) (by omega)]
    obtain ⟨p1, p2, p3, p4⟩ := pasA_R (fr := 0) (f := X.2.2) (b := b) (by omega) hT hW hb.1 (by omega)
    have pf := falY_pop (fr := 0) (f := X.2.2) (by omega) hT hW hf.1 (by omega)
    have fb := falR_bd (fr := 0) hT hW (by omega)
    have pb := popF_bd fb.1 (by omega)
    have py := pasR_y (fr := 0) hT hW (by omega)
    refine ih (k + 1) s6 _ _ (by omega) (by omega) h6.1 ?_ ?_ ?_ ?_ ?_
    · show WOK T (pasA T 0 X.1 X.2.2 b).1
      exact pasA_ok hT hW
    · show (pasA T 0 X.1 X.2.2 b).1 0 1 + m ≤ 999
      rw [p1, py.1]; omega
    · show 0 ≤ (falY T 0 X.1 X.2.2).2.2 ∧ (falY T 0 X.1 X.2.2).2.2 + 10 * m ≤ 100000
      omega
    · omega
    · intro s' X' b' c1 c2 c3 c4 c5
      refine hQ s' X' b' c1 c2 (h6.2.tr c3) ?_ ?_
      · rw [c4]
        show aheA T m (pasA T 0 X.1 X.2.2 b).1 = aheA T m (pasR T 0 X.1).1
        rw [p1]
      · rw [c5]
        show (falY T 0 X.1 X.2.2).2.2 + aheF T m (pasA T 0 X.1 X.2.2 b).1 = X.2.2 + (popF (falR T 0 X.1).2.1 + aheF T m (pasR T 0 X.1).1)
        rw [pf, p1]
        omega
/-- the world tried: as A, with more feuds ended -/
def WEe (A B : Wd) (en : Int) : Prop := B 0 1 = A 0 1 ∧ B 0 2 = bOr (A 0 2) en ∧ B 0 9 = 0 ∧ (∀ k, 0 ≤ k → k < 8 → B 1 k = A 1 k ∧ B 2 k = A 2 k ∧ B 3 k = A 3 k) ∧ (∀ k, 0 ≤ k → k < 64 → B 4 k = A 4 k) ∧ (∀ k, 0 ≤ k → k < 16 → B 5 k = A 5 k)
theorem WEe.ok {B : Wd} {en : Int} (hT : TOK T) (h : WEe A B en) (hW : WOK T A) (he : 0 ≤ bOr (A 0 2) en ∧ bOr (A 0 2) en < 1024) : WOK T B := by
  obtain ⟨e1, e2, e3, e4, e5, e6⟩ := h
  have hC : WEq A (ups B 0 2 (A 0 2)) := ⟨by rw [ups_k _ (by decide)]; exact e1, by rw [ups_eq], fun k k0 k1 => by rw [ups_at _ (by decide), ups_at _ (by decide), ups_at _ (by decide)]; exact e4 k k0 k1, fun k k0 k1 => by rw [ups_at _ (by decide)]; exact e5 k k0 k1, fun k k0 k1 => by rw [ups_at _ (by decide)]; exact e6 k k0 k1⟩
  have hK := hW.weq hC (by rw [ups_k _ (by decide), e3]; omega) hT.2.1.2
  obtain ⟨⟨n1, n2, n3, n4, n5⟩, hI, hH⟩ := hK
  rw [ups_k _ (by decide)] at n1
  rw [ups_at _ (by decide), ups_at _ (by decide)] at n4
  rw [ups_at _ (by decide)] at n5
  refine ⟨⟨n1, by rw [e2]; exact he, by rw [e3]; omega, n4, n5⟩, hI.eq (ups_at _ (by decide)).symm (ups_at _ (by decide)).symm, ?_⟩
  unfold WH at hH ⊢
  rw [ups_at B (show (5 : Int) ≠ 0 by decide), ups_at B (show (4 : Int) ≠ 0 by decide), ups_at B (show (3 : Int) ≠ 0 by decide)] at hH
  refine ⟨hH.1, fun c c0 c8 hc => ?_⟩
  have := hH.2 c c0 c8 hc
  unfold ageS at this ⊢
  rw [ups_k _ (by decide)] at this
  exact this
theorem C_goAhead {n en : Int} (hx : CX s 48 tw T A) (hW : WOK T A) (hF : TF T) (n0 : 0 ≤ n) (hn : A 0 1 + n ≤ 999) (e0 : 0 ≤ en) (e1 : en < 1024) : Mw g (e + 7) M_X5_goAhead [(14, 55), (19, 48), (0, n), (0, en)] s (fun r s' => ∃ (B : Wd) (X : WX) (b' : Int), WEe A B en ∧ CZ s' 58 tw T X b' ∧ WOK T X.1 ∧ X.1 = aheA T n.toNat B ∧ X.2.2 = aheF T n.toNat B ∧ r = popF (bitsS T X.1 3) ∧ Fr (Jw 58) s s') := by
  have a02 := hW.1.2.1
  have a01 := hW.1.1
  have ob := bOr_lt (n := 10) a02.1 a02.2 e0 e1 (by decide)
  refine S_X5_goAhead (fun _ _ _ => (C_copy hx (Or.inr rfl) (by decide)).imp (fun _ s2 h2 s3 e3 => ?_))
  obtain ⟨B, h2a, h2b, h2c, h2d⟩ := h2
  have hB := hW.weq h2b (by omega) hx.ok.2.1.2
  have eB : B 0 2 = A 0 2 := h2b.2.1
  rw [show s2 58 2 = B 0 2 from h2a.1.en, eB] at e3
  have hE : WEe A (ups B 0 2 (bOr (A 0 2) en)) en := ⟨by rw [ups_k _ (by decide)]; exact h2b.1, by rw [ups_eq], by rw [ups_k _ (by decide)]; exact h2c, fun k k0 k1 => by rw [ups_at _ (by decide), ups_at _ (by decide), ups_at _ (by decide)]; exact h2b.2.2.1 k k0 k1, fun k k0 k1 => by rw [ups_at _ (by decide)]; exact h2b.2.2.2.1 k k0 k1, fun k k0 k1 => by rw [ups_at _ (by decide)]; exact h2b.2.2.2.2 k k0 k1⟩
  have hO := hE.ok hx.ok hW ob
  have x3 : CZ s3 58 tw T (ups B 0 2 (bOr (A 0 2) en), 0, 0) 0 := by
    obtain ⟨q1, q2, q3, q4⟩ := h2a
    rw [e3]
    exact ⟨q1.up0 (by decide) hO.1, by rw [ups_k _ (by decide)]; exact q2, by rw [ups_k _ (by decide)]; exact q3, by rw [ups_k _ (by decide)]; exact q4⟩
  have f3 : Fr (Jw 58) s s3 := by
    rw [e3]
    exact (h2d.wk (fun o ho => Or.inl ho)).tr (Fr.up Jw_0)
  refine goahead_loop hF (by omega) n.toNat 0 s3 _ 0 (by omega) (by decide) x3 hO ?_ ?_ ?_ ?_
  · show ups B 0 2 (bOr (A 0 2) en) 0 1 + (n.toNat : Int) ≤ 999
    rw [hE.1]; omega
  · show (0 : Int) ≤ 0 ∧ 0 + 10 * (n.toNat : Int) ≤ 100000
    omega
  · omega
  · intro s' X' b' c1 c2 c3 c4 c5
    refine ⟨_, X', b', hE, c1, c2, c4, ?_, rfl, f3.tr c3⟩
    rw [c5]
    exact Int.zero_add _
end AHEAD
