/-! letter of both programs -/
def okL (T : Tn) (a i c : Int) : Prop := (0 ≤ a ∧ a ≤ 2) ∧ (0 ≤ i ∧ i < T 1 a) ∧ 0 ≤ c ∧ c < 6
/-- name i of kind a in bank b of the reference -/
def nmR (s : Sg) (b a i : Int) : Int := if a = 0 then s 112 (6 * b + i) else if a = 1 then s 113 (8 * b + i) else s 114 (4 * b + i)
section LETTER2
variable {g : GT} {e : Nat} {s : Sg} {l : Nat → Int} {L : Nat} {T : Tn} {A : Wd} {tw b u a i c : Int} {U : Int → Wd}
theorem okL_t1 (hT : TOK T) (ha : 0 ≤ a ∧ a ≤ 2) : 0 ≤ T 1 a ∧ T 1 a ≤ 8 := by
  have t0 := hT.1
  have t1 := hT.2.1
  have t2 := hT.2.2.1
  rcases (show a = 0 ∨ a = 1 ∨ a = 2 by omega) with z | z | z <;> rw [z] <;> omega
theorem C_letter (hs : CS s tw T A u U) (hl : okL T a i c → isN l L ∧ T (3 + a) i = cF l 6) : Mw g (e + 1) M_X12_letter [(20, 1), (0, a), (0, i), (0, c)] s (fun r s' => (¬ okL T a i c → r = -1) ∧ (okL T a i c → r = l c.toNat) ∧ s' = s) := by
  have hT := hs.2.1.ok
  have hx := hs.2.1.2.2.2.1
  have no : ¬ okL T a i c → ((¬ okL T a i c → (-1 : Int) = -1) ∧ (okL T a i c → (-1 : Int) = l c.toNat) ∧ s = s) := fun z => ⟨fun _ => rfl, fun y => absurd y z, rfl⟩
  refine S_X12_letter (fun _ _ _ => ⟨fun q => no (fun z => by have := z.1; omega), fun q => ⟨fun q2 => no (fun z => by have := z.1; omega), fun q2 => ⟨fun q3 => no (fun z => by have := z.2.2; omega), fun q3 => ⟨fun q4 => ⟨fun q5 => no (fun z => by have := z.2.1; omega), fun q5 => ⟨⟨by omega, by omega⟩, ?_⟩⟩, fun q4 => no (fun z => by have := z.2.2; omega)⟩⟩⟩⟩)
  have t1 := okL_t1 (a := a) hT ⟨by omega, by omega⟩
  rw [hs.1, hx.2 1 (by decide) (by decide) (by decide)]
  refine ⟨fun q6 => ⟨⟨by omega, by omega⟩, ⟨by omega, by omega⟩, ?_⟩, fun q6 => no (fun z => q6 z.2.1.2)⟩
  have ok : okL T a i c := ⟨⟨by omega, by omega⟩, ⟨by omega, q6⟩, by omega, by omega⟩
  obtain ⟨h1, h2⟩ := hl ok
  rw [show tw + 2 + 1 + a = tw + (3 + a) by omega, hx.2 (3 + a) (by omega) (by omega) (by omega), h2, w32_of (show _ ≤ c + 1 by omega) (by omega)]
  have := cl_58 (g := g) (e := e) (s := s) h1 (i := c.toNat) (by omega) (5 - c.toNat) (by omega)
  rw [show c.toNat + (5 - c.toNat) + 1 = 6 by omega, show 6 - ((5 - c.toNat : Nat) : Int) = c + 1 by omega] at this
  exact Wp.imp this (fun r s' q => ⟨fun z => absurd ok z, fun _ => q.1, q.2⟩)
theorem R_letter (hb : RB s b T) (hl : okL T a i c → isN l L ∧ nmR s b a i = kF l L) : Mw g (e + 2) M_X13_letter [(21, 92), (0, a), (0, i), (0, c)] s (fun r s' => (¬ okL T a i c → r = -1) ∧ (okL T a i c → r = l c.toNat) ∧ s' = s) := by
  have hT := hb.2.2.2.1
  have b2 := hb.2.1
  have rt := hb.2.2.1.1
  have no : ¬ okL T a i c → ((¬ okL T a i c → (-1 : Int) = -1) ∧ (okL T a i c → (-1 : Int) = l c.toNat) ∧ s = s) := fun z => ⟨fun _ => rfl, fun y => absurd y z, rfl⟩
  refine S_X13_letter (fun _ _ _ => Mw.ex R_is ⟨fun q => no (fun z => by rw [if_pos z.1] at q; omega), fun q => ?_⟩)
  have ha : 0 ≤ a ∧ a ≤ 2 := Classical.byContradiction (fun z => q (by rw [if_neg z]))
  have t1 := okL_t1 hT ha
  rw [hb.1]
  have many : Mw g (e + 1) M_X13_manyOf [(21, 92), (0, b), (0, a)] s (Ex (T 1 a) s) := by
    refine S_X13_manyOf (fun _ _ => ⟨fun z => ⟨fun z2 => ⟨⟨by omega, by omega⟩, ?_, rfl⟩, fun z2 => ⟨⟨by omega, by omega⟩, ?_, rfl⟩⟩, fun z => ⟨⟨by omega, by omega⟩, ?_, rfl⟩⟩)
    · rw [show a = 2 by omega]; exact rt.2.2.1.symm ▸ rfl
    · rw [z2]; exact rt.2.1.symm ▸ rfl
    · rw [z]; exact rt.1.symm ▸ rfl
  refine Mw.ex many ?_
  rw [w32_of (show _ ≤ T 1 a - 1 by omega) (by omega)]
  refine Mw.ex R_is ⟨fun q2 => no (fun z => by rw [if_pos (by have := z.2.1; omega)] at q2; omega), fun q2 => Mw.ex R_is ⟨fun q3 => ?_, fun q3 => no (fun z => by rw [if_pos (by have := z.2.2; omega)] at q3; omega)⟩⟩
  have hi : 0 ≤ i ∧ i ≤ T 1 a - 1 := Classical.byContradiction (fun z => q2 (by rw [if_neg z]))
  have hc : 0 ≤ c ∧ c ≤ 5 := Classical.byContradiction (fun z => q3 (by rw [if_neg z]))
  have ok : okL T a i c := ⟨ha, ⟨hi.1, by omega⟩, hc.1, by omega⟩
  obtain ⟨h1, h2⟩ := hl ok
  rw [hb.1]
  have name : Mw g (e + 1) M_X13_nameOf [(21, 92), (0, b), (0, a), (0, i)] s (Ex (kF l L) s) := by
    have t0 := hT.1
    have t2 := hT.2.2.1
    rw [← h2]
    refine S_X13_nameOf (fun _ _ _ => ?_)
    rw [w32_of (show _ ≤ 4 * b by omega) (by omega), w32_of (show _ ≤ 8 * b by omega) (by omega), w32_of (show _ ≤ 6 * b by omega) (by omega), w32_of (show _ ≤ 4 * b + i by omega) (by omega), w32_of (show _ ≤ 8 * b + i by omega) (by omega), w32_of (show _ ≤ 6 * b + i by omega) (by omega)]
    unfold nmR
    refine ⟨fun z => ⟨fun z2 => ⟨?_, ?_, rfl⟩, fun z2 => ⟨?_, ?_, rfl⟩⟩, fun z => ⟨?_, ?_, rfl⟩⟩
    · rw [show a = 2 by omega] at hi; omega
    · rw [if_neg z, if_neg z2]
    · rw [z2] at hi; omega
    · rw [if_neg z, if_pos z2]
    · rw [z] at hi; omega
    · rw [if_pos z]
  refine Mw.ex name ?_
  have := rl_58 (g := g) (e := e + 1) (s := s) h1 (i := c.toNat) (by omega) L (Nat.le_refl L)
  rw [show ((c.toNat : Nat) : Int) = c by omega, show (L : Int) - (L : Int) = 0 by omega] at this
  exact Wp.imp this (fun r s' q => ⟨fun z => absurd ok z, fun _ => q.1, q.2⟩)
end LETTER2
