/-! the reference: feuding, tells, goesInto, isBuilt -/
def feB (a b c : Nat) : Bool := a == b || (((bAnd ((2 : Int) ^ a + 2 ^ b) (bShl 1 c) == 0) == !(c == a || c == b)) && ((!(c == a) || bAnd ((2 : Int) ^ a + 2 ^ b) (bXor (bShl 1 c) (-1)) == bShl 1 b) && (!(c == b) || bAnd ((2 : Int) ^ a + 2 ^ b) (bXor (bShl 1 c) (-1)) == bShl 1 a)))
theorem fe_chk : ∀ a : Nat, a < 8 → ∀ b : Nat, b < 8 → ∀ c : Nat, c < 8 → feB a b c = true := by decide +kernel
theorem fe_dec (a : Nat) (ha : a < 8) (b : Nat) (hb : b < 8) (c : Nat) (hc : c < 8) (hn : a ≠ b) : (bAnd ((2 : Int) ^ a + 2 ^ b) (bShl 1 c) = 0 ↔ ¬ (c = a ∨ c = b)) ∧ (c = a → bAnd ((2 : Int) ^ a + 2 ^ b) (bXor (bShl 1 c) (-1)) = bShl 1 b) ∧ (c = b → bAnd ((2 : Int) ^ a + 2 ^ b) (bXor (bShl 1 c) (-1)) = bShl 1 a) := by
  have h := fe_chk a ha b hb c hc
  unfold feB at h
  simp only [Bool.or_eq_true, Bool.and_eq_true, beq_iff_eq, hn, false_or] at h
  obtain ⟨h1, h2, h3⟩ := h
  refine ⟨?_, fun q => ?_, fun q => ?_⟩
  · have := congrArg (fun x => x = true) h1
    simp only [beq_iff_eq, Bool.not_eq_true', Bool.or_eq_false_iff, beq_eq_false_iff_ne, ne_eq, eq_iff_iff] at this
    rw [this]
    constructor
    · intro q z; exact z.elim q.1 q.2
    · intro q; exact ⟨fun z => q (Or.inl z), fun z => q (Or.inr z)⟩
  · rcases h2 with z | z
    · simp [q] at z
    · exact z
  · rcases h3 with z | z
    · simp [q] at z
    · exact z
theorem bShl_8 {k : Int} (h0 : 0 ≤ k) (h8 : k < 8) : 0 ≤ bShl 1 k ∧ bShl 1 k < 256 := by
  rw [bShl1 h0 (by omega)]
  have : 2 ^ k.toNat ≤ 2 ^ 7 := Nat.pow_le_pow_right (by omega) (by omega)
  exact ⟨Int.natCast_nonneg _, by omega⟩
section RBUILD
variable {g : GT} {e : Nat} {s : Sg} {v b : Int} {T : Tn} {A : Wd} {K : Prop}
/-- one feud, as the reference has it -/
theorem fe_one {f c : Int} (h : RB s b T) (f0 : 0 ≤ f) (f1 : f < T 0 13) (c0 : 0 ≤ c) (c8 : c < 8) :
    (bAnd (T 13 f) (bShl 1 c) = 0 ↔ ¬ (s 102 (10 * b + f) = c ∨ s 103 (10 * b + f) = c)) ∧ (s 102 (10 * b + f) = c → bAnd (T 13 f) (bXor (bShl 1 c) (-1)) = bShl 1 (s 103 (10 * b + f)) ∧ ¬ s 103 (10 * b + f) = c) ∧ (s 103 (10 * b + f) = c → bAnd (T 13 f) (bXor (bShl 1 c) (-1)) = bShl 1 (s 102 (10 * b + f)) ∧ ¬ s 102 (10 * b + f) = c) := by
  obtain ⟨r1, r2, r3, r4⟩ := h.2.2.1.2.2.2.2.1 f f0 f1
  have b8 := h.2.2.2.1.2.1
  obtain ⟨d1, d2, d3⟩ := fe_dec (s 102 (10 * b + f)).toNat (by omega) (s 103 (10 * b + f)).toNat (by omega) c.toNat (by omega) (by omega)
  rw [← r4, show ((c.toNat : Nat) : Int) = c by omega, show (((s 103 (10 * b + f)).toNat : Nat) : Int) = s 103 (10 * b + f) by omega, show (((s 102 (10 * b + f)).toNat : Nat) : Int) = s 102 (10 * b + f) by omega] at *
  refine ⟨?_, fun q => ⟨d2 (by omega), by omega⟩, fun q => ⟨d3 (by omega), by omega⟩⟩
  rw [d1]
  constructor <;> intro q <;> omega
theorem foeF_bd {c en : Int} (h : RB s b T) (c0 : 0 ≤ c) (c8 : c < 8) : ∀ n : Nat, (n : Int) ≤ T 0 13 → 0 ≤ foeF T c en n ∧ foeF T c en n < 256 := by
  intro n
  have b8 := h.2.2.2.1.2.1
  induction n with
  | zero => intro _; exact ⟨Int.le_refl 0, by show (0 : Int) < 256; decide⟩
  | succ n ih =>
    intro hn
    have i := ih (by omega)
    obtain ⟨d1, d2, d3⟩ := fe_one (f := n) h (by omega) (by omega) c0 c8
    obtain ⟨r1, r2, r3, r4⟩ := h.2.2.1.2.2.2.2.1 n (by omega) (by omega)
    unfold foeF
    split
    · rename_i q
      have : s 102 (10 * b + n) = c ∨ s 103 (10 * b + n) = c := Classical.byContradiction (fun z => q.2 (d1.mpr z))
      rcases this with z | z
      · rw [(d2 z).1]
        have sb := bShl_8 r2.1 (by omega)
        exact bOr_lt (n := 8) i.1 i.2 sb.1 sb.2 (by decide)
      · rw [(d3 z).1]
        have sb := bShl_8 r1.1 (by omega)
        exact bOr_lt (n := 8) i.1 i.2 sb.1 sb.2 (by decide)
    · exact i
theorem foeS_bd {c en : Int} (h : RB s b T) (c0 : 0 ≤ c) (c8 : c < 8) : 0 ≤ foeS T c en ∧ foeS T c en < 256 := by
  have := h.2.2.2.1.2.2.2.1
  exact foeF_bd h c0 c8 _ (by omega)
theorem feud_loop {c en : Int} (h : RB s b T) (c0 : 0 ≤ c) (c8 : c < 8) (e0 : 0 ≤ en) (e1 : en < 1024) : ∀ (m n : Nat), (n : Int) + m = T 0 13 → P_X13_feuding_6 g (e + 1) (Ex (foeS T c en) s) s b c en (foeF T c en n) n := by
  intro m
  have b13 := h.2.2.2.1.2.2.2.1
  have hb := h.2.1
  induction m with
  | zero =>
    intro n hn
    refine S_X13_feuding_6 ?_
    rw [h.2.2.1.1.2.2.2]
    refine ⟨⟨by omega, by omega⟩, fun _ => ⟨?_, rfl⟩, fun q => absurd (by omega) q⟩
    unfold foeS
    rw [show (T 0 13).toNat = n by omega]
  | succ m ih =>
    intro n hn
    have i := ih (n + 1) (by omega)
    rw [show (((n + 1 : Nat)) : Int) = (n : Int) + 1 by omega] at i
    have fb := foeF_bd (en := en) h c0 c8 n (by omega)
    have fR : inR (foeF T c en n) := ⟨by omega, by omega⟩
    obtain ⟨d1, d2, d3⟩ := fe_one (f := n) h (by omega) (by omega) c0 c8
    have hbit := bAnd_bit (k := (n : Int)) e0 (by omega) (by omega) (by omega)
    refine S_X13_feuding_6 ?_
    rw [h.2.2.1.1.2.2.2, w32_of (show _ ≤ 10 * b by omega) (by omega), w32_of (show _ ≤ 10 * b + (n : Int) by omega) (by omega), w32_of (show _ ≤ (n : Int) + 1 by omega) (by omega)]
    have h65 : ∀ x1 : Int, (s 102 (10 * b + n) = c → x1 = bShl 1 (s 103 (10 * b + n))) → (¬ s 102 (10 * b + n) = c → x1 = 0) → bAnd en (bShl 1 n) = 0 → P_X13_feuding_65 g (e + 1) (Ex (foeS T c en) s) s b c en n (foeF T c en n) x1 := by
      intro x1 hx1 hx2 hop
      refine S_X13_feuding_65 ?_
      rw [w32_of (show _ ≤ 10 * b by omega) (by omega), w32_of (show _ ≤ 10 * b + (n : Int) by omega) (by omega), w32_of (show _ ≤ (n : Int) + 1 by omega) (by omega)]
      refine ⟨⟨by omega, by omega⟩, fun q => ?_, fun q => ⟨⟨by omega, by omega⟩, ?_⟩⟩
      · rw [bOr_0 bOr_in]
        by_cases z : s 102 (10 * b + n) = c
        · unfold foeF at i
          rw [if_pos ⟨hop, fun y => (d1.mp y) (Or.inl z)⟩, (d2 z).1] at i
          rw [hx1 z]
          exact i
        · unfold foeF at i
          rw [if_neg (fun y => y.2 (d1.mpr (fun u => u.elim z q)))] at i
          rw [hx2 z, bOr_0 fR]
          exact i
      · have z := (d3 q).2
        unfold foeF at i
        rw [if_pos ⟨hop, fun y => (d1.mp y) (Or.inr q)⟩, (d3 q).1] at i
        rw [hx2 z, bOr_0 fR]
        exact i
    refine ⟨⟨by omega, by omega⟩, fun q => by omega, fun _ => Mw.ex (R_has2 e0 (by omega) (by omega) (by omega)) ⟨fun q => ⟨⟨by omega, by omega⟩, fun z => h65 0 (fun y => absurd y z) (fun _ => rfl) ?_, fun z => ⟨⟨by omega, by omega⟩, h65 _ (fun _ => rfl) (fun y => absurd z y) ?_⟩⟩, fun q => ?_⟩⟩
    · refine hbit.mpr ?_
      cases y : en.toNat.testBit (n : Int).toNat
      · rfl
      · rw [y] at q; simp at q
    · refine hbit.mpr ?_
      cases y : en.toNat.testBit (n : Int).toNat
      · rfl
      · rw [y] at q; simp at q
    · have : ¬ bAnd en (bShl 1 n) = 0 := fun y => by rw [hbit.mp y] at q; simp at q
      unfold foeF at i
      rw [if_neg (fun y => this y.1)] at i
      exact i
theorem R_feuding {c en : Int} (h : RB s b T) (c0 : 0 ≤ c) (c8 : c < 8) (e0 : 0 ≤ en) (e1 : en < 1024) : Mw g (e + 2) M_X13_feuding [(21, 92), (0, b), (0, c), (0, en)] s (Ex (foeS T c en) s) := by
  have b13 := h.2.2.2.1.2.2.2.1
  exact S_X13_feuding (fun _ _ _ => feud_loop h c0 c8 e0 e1 (T 0 13).toNat 0 (by omega))
theorem R_isFeud {c x : Int} (h : RX s v b T A) (hW : WN T A) (c0 : 0 ≤ c) (c8 : c < 8) (hx : x = -1 ∨ (0 ≤ x ∧ x < 8)) : Mw g (e + 3) M_X13_isFeud [(21, 92), (0, v), (0, c), (0, x)] s (Ex (if x ≠ -1 ∧ (foeS T c (A 0 2)).toNat.testBit x.toNat = true then 1 else 0) s) := by
  have hv := h.2.1
  have fb := foeS_bd (en := A 0 2) h.1 c0 c8
  refine S_X13_isFeud (fun _ _ _ => ⟨fun q => ⟨?_, rfl⟩, fun q => ⟨⟨hv.1, hv.2⟩, ?_⟩⟩)
  · rw [if_neg (fun z => z.1 q)]
  · rw [h.bk, h.2.2.2.1]
    refine Mw.ex (R_feuding h.1 c0 c8 hW.2.1.1 hW.2.1.2) (Mw.ex (R_has2 fb.1 (by omega) (by omega) (by omega)) ⟨fun z => ⟨?_, rfl⟩, fun z => ⟨?_, rfl⟩⟩)
    · rw [if_neg]
      intro y
      rw [y.2] at z
      simp at z
    · rw [if_pos]
      refine ⟨q, ?_⟩
      cases y : (foeS T c (A 0 2)).toNat.testBit x.toNat
      · rw [y] at z; simp at z
      · rfl
theorem bitS_bit {x : Int} (hx : x = -1 ∨ (0 ≤ x ∧ x < 8)) (j : Nat) : (0 ≤ bitS x ∧ bitS x < 256) ∧ (bitS x).toNat.testBit j = decide (x ≠ -1 ∧ (j : Int) = x) := by
  unfold bitS
  rcases hx with h | h
  · rw [if_pos h]
    refine ⟨by decide, ?_⟩
    rw [show (0 : Int).toNat = 0 from rfl, Nat.zero_testBit]
    simp [h]
  · rw [if_neg (by omega)]
    refine ⟨bShl_8 h.1 h.2, ?_⟩
    rw [bShl1_bit h.1 (by omega)]
    congr 1
    apply propext
    constructor
    · intro q; exact ⟨by omega, q⟩
    · intro q; exact q.2
theorem pea_iff {c p : Int} (hf : 0 ≤ foeS T c (A 0 2) ∧ foeS T c (A 0 2) < 256) (hl : leftS A p = -1 ∨ (0 ≤ leftS A p ∧ leftS A p < 8)) (hr : riteS A p = -1 ∨ (0 ≤ riteS A p ∧ riteS A p < 8)) :
    peaS T A c p = true ↔ ¬ (leftS A p ≠ -1 ∧ (foeS T c (A 0 2)).toNat.testBit (leftS A p).toNat = true) ∧ ¬ (riteS A p ≠ -1 ∧ (foeS T c (A 0 2)).toNat.testBit (riteS A p).toNat = true) := by
  have l0 := (bitS_bit hl 0).1
  have r0 := (bitS_bit hr 0).1
  have nb : ∀ j : Nat, (nebS A p).toNat.testBit j = (decide (leftS A p ≠ -1 ∧ (j : Int) = leftS A p) || decide (riteS A p ≠ -1 ∧ (j : Int) = riteS A p)) := fun j => by
    unfold nebS
    rw [bOr_bit l0.1 (by omega) r0.1 (by omega), (bitS_bit hl j).2, (bitS_bit hr j).2]
  have n0 : 0 ≤ nebS A p ∧ nebS A p < 256 := bOr_lt (n := 8) l0.1 l0.2 r0.1 r0.2 (by decide)
  generalize hF : foeS T c (A 0 2) = F at *
  have ez : bAnd (nebS A p) F = 0 ↔ ∀ j : Nat, ¬ ((nebS A p).toNat.testBit j = true ∧ F.toNat.testBit j = true) := by
    rw [bAnd_n n0.1 (by omega) hf.1 (by omega)]
    constructor
    · intro q j z
      have q' : (nebS A p).toNat &&& F.toNat = 0 := by omega
      have := congrArg (fun x => Nat.testBit x j) q'
      simp only [Nat.testBit_and, Nat.zero_testBit, z.1, z.2] at this
      cases this
    · intro q
      have : (nebS A p).toNat &&& F.toNat = 0 := by
        apply Nat.eq_of_testBit_eq
        intro j
        rw [Nat.testBit_and, Nat.zero_testBit]
        cases y1 : (nebS A p).toNat.testBit j
        · rfl
        · cases y2 : F.toNat.testBit j
          · rfl
          · exact absurd ⟨y1, y2⟩ (q j)
      rw [this]
      rfl
  have e1 : peaS T A c p = true ↔ bAnd (nebS A p) F = 0 := by
    unfold peaS
    rw [hF]
    simp only [Bool.or_eq_true, beq_iff_eq]
    constructor
    · rintro (q | q)
      · rw [q, bAnd_n (by decide) (by decide) hf.1 (by omega)]; simp
      · exact q
    · intro q; right; exact q
  rw [e1, ez]
  constructor
  · intro q
    refine ⟨fun z => q (leftS A p).toNat ⟨?_, z.2⟩, fun z => q (riteS A p).toNat ⟨?_, z.2⟩⟩
    · rw [nb]
      have : ((leftS A p).toNat : Int) = leftS A p := by omega
      simp [this, z.1]
    · rw [nb]
      have : ((riteS A p).toNat : Int) = riteS A p := by omega
      simp [this, z.1]
  · rintro ⟨q1, q2⟩ j ⟨z1, z2⟩
    rw [nb] at z1
    simp only [Bool.or_eq_true, decide_eq_true_eq] at z1
    rcases z1 with ⟨y1, y2⟩ | ⟨y1, y2⟩
    · exact q1 ⟨y1, by rw [show (leftS A p).toNat = j by omega]; exact z2⟩
    · exact q2 ⟨y1, by rw [show (riteS A p).toNat = j by omega]; exact z2⟩
end RBUILD
