/-! town of both -/
section TOWNP
variable {g : GT} {s s1 s2 : Sg} {a i c n w k v b tw u x : Int} {T : Tn} {A : Wd} {U : Int → Wd} {K : Prop}
theorem zF_at {o i z : Int} (f : zFr (1 - b) s s2) (h1 : 94 ≤ o) (h2 : o ≤ 114) (hz : szB o = z) (hi : z * b ≤ i ∧ i < z * b + z) (b2 : b = 0 ∨ b = 1) (z0 : 0 ≤ z) : s2 o i = s o i := by
  refine f.2.2 o i h1 h2 ?_
  rw [hz]
  rcases b2 with q | q <;> subst q
  · left; rw [show (1 : Int) - 0 = 1 by decide]; omega
  · right; rw [show (1 : Int) - 1 = 0 by decide]; omega
theorem RT.zf (h : RT s b T) (hT : TOK T) (b2 : b = 0 ∨ b = 1) (f : zFr (1 - b) s s2) : RT s2 b T := by
  obtain ⟨⟨c1, c2, c3, c4⟩, h2, h3, h4, h5, h6, h7, h8⟩ := h
  have t0 := hT.1
  have t1 := hT.2.1
  have t2 := hT.2.2.1
  have t3 := hT.2.2.2.1
  have rf : ∀ w, (w = 0 ∨ w = 1) → ∀ P m, RF s b w P m → RF s2 b w P m := fun w hw P m ⟨r1, r2⟩ => by
    have e8 : s2 108 (2 * b + w) = s 108 (2 * b + w) := zF_at (z := 2) f (by decide) (by decide) rfl (by omega) b2 (by decide)
    have e9 : s2 109 (2 * b + w) = s 109 (2 * b + w) := zF_at (z := 2) f (by decide) (by decide) rfl (by omega) b2 (by decide)
    refine ⟨by rw [e8]; exact r1, fun m0 => ?_⟩
    obtain ⟨⟨r3, r4, r5⟩, r6⟩ := r2 m0
    rw [e8, e9]
    refine ⟨⟨r3, r4, r5⟩, fun i i0 i1 => ?_⟩
    rw [zF_at (o := 110) (z := 1600) f (by decide) (by decide) rfl (by omega) b2 (by decide), zF_at (o := 111) (z := 1600) f (by decide) (by decide) rfl (by omega) b2 (by decide)]
    exact r6 i i0 i1
  refine ⟨⟨?_, ?_, ?_, ?_⟩, fun h a0 a1 => ?_, fun c a0 a1 => ?_, fun w a0 a1 => ?_, fun q a0 a1 => ?_, fun k a0 a1 => ?_, rf 0 (Or.inl rfl) _ _ h7, rf 1 (Or.inr rfl) _ _ h8⟩
  · rw [zF_at (z := 1) f (by decide) (by decide) rfl (by omega) b2 (by decide)]; exact c1
  · rw [zF_at (z := 1) f (by decide) (by decide) rfl (by omega) b2 (by decide)]; exact c2
  · rw [zF_at (z := 1) f (by decide) (by decide) rfl (by omega) b2 (by decide)]; exact c3
  · rw [zF_at (z := 1) f (by decide) (by decide) rfl (by omega) b2 (by decide)]; exact c4
  · rw [zF_at (o := 95) (z := 6) f (by decide) (by decide) rfl (by omega) b2 (by decide), zF_at (o := 96) (z := 6) f (by decide) (by decide) rfl (by omega) b2 (by decide)]; exact h2 h a0 a1
  · rw [zF_at (o := 98) (z := 8) f (by decide) (by decide) rfl (by omega) b2 (by decide), zF_at (o := 99) (z := 8) f (by decide) (by decide) rfl (by omega) b2 (by decide), zF_at (o := 100) (z := 8) f (by decide) (by decide) rfl (by omega) b2 (by decide)]; exact h3 c a0 a1
  · rw [zF_at (o := 105) (z := 4) f (by decide) (by decide) rfl (by omega) b2 (by decide), zF_at (o := 106) (z := 4) f (by decide) (by decide) rfl (by omega) b2 (by decide)]; exact h4 w a0 a1
  · rw [zF_at (o := 102) (z := 10) f (by decide) (by decide) rfl (by omega) b2 (by decide), zF_at (o := 103) (z := 10) f (by decide) (by decide) rfl (by omega) b2 (by decide)]; exact h5 q a0 a1
  · rw [zF_at (o := 107) (z := 5) f (by decide) (by decide) rfl (by omega) b2 (by decide)]; exact h6 k a0 a1
theorem NT.zf (h : NT s b T) (hT : TOK T) (b2 : b = 0 ∨ b = 1) (f : zFr (1 - b) s s2) : NT s2 b T := by
  intro k i k0 k3 i0 i1
  have t0 := hT.1
  have t1 := hT.2.1
  have t2 := hT.2.2.1
  obtain ⟨l, L, q1, q2, q3⟩ := h k i k0 k3 i0 i1
  refine ⟨l, L, q1, q2, ?_⟩
  rw [← q3]
  rcases (show k = 0 ∨ k = 1 ∨ k = 2 by omega) with y | y | y <;> subst y
  · show s2 112 (6 * b + i) = s 112 (6 * b + i)
    exact zF_at (z := 6) f (by decide) (by decide) rfl (by omega) b2 (by decide)
  · show s2 113 (8 * b + i) = s 113 (8 * b + i)
    exact zF_at (z := 8) f (by decide) (by decide) rfl (by omega) b2 (by decide)
  · show s2 114 (4 * b + i) = s 114 (4 * b + i)
    exact zF_at (z := 4) f (by decide) (by decide) rfl (by omega) b2 (by decide)
theorem RZ.zb (h : RZ K s u b T A) (hB : RB s2 b T) (E : ∀ o, 122 ≤ o → o ≤ 130 → s2 o = s o) : RZ K s2 u b T A := by
  obtain ⟨⟨h1, h2, h3⟩, hk⟩ := h
  refine ⟨⟨hB, h2, ?_⟩, fun k => ?_⟩
  · unfold RW
    rw [E 122 (by decide) (by decide), E 123 (by decide) (by decide), E 124 (by decide) (by decide), E 125 (by decide) (by decide), E 126 (by decide) (by decide), E 127 (by decide) (by decide), E 128 (by decide) (by decide), E 129 (by decide) (by decide)]
    exact h3
  · have := hk k
    unfold RK at this ⊢
    rw [E 129 (by decide) (by decide), E 130 (by decide) (by decide)]
    exact this
theorem RS.zf (h : RS s b T A u U) (f : zFr (1 - b) s s2) : RS s2 b T A u U := by
  obtain ⟨h1, h2, h3, ⟨u1, u2, u3, u4⟩, h5⟩ := h
  have hB := h1.1.1
  have B2 : RB s2 b T := ⟨by rw [f.2.1 13 (by decide)]; exact hB.1, hB.2.1, hB.2.2.1.zf hB.2.2.2.1 hB.2.1 f, hB.2.2.2⟩
  have E : ∀ o, 122 ≤ o → o ≤ 130 → s2 o = s o := fun o p q => f.1 o (by omega) (by omega)
  have e58 : s2 92 58 = s 92 58 := f.2.1 58 (by decide)
  refine ⟨h1.zb B2 E, h2, h3, ⟨by rw [f.2.1 59 (by decide)]; exact u1, u2, by rw [e58]; exact u3, fun i i0 i1 => ?_⟩, h5⟩
  rw [e58]
  exact (u4 i i0 i1).zb B2 E
theorem zHm_all {Y Z : Int → Int} (hT : TOK T) : w32 (bShl 1 (T 1 0) - 1) = hmS T 0 0 Y Z := by
  have t0 := hT.1
  have f : fitS T 0 0 Y Z = fun _ => true := rfl
  unfold hmS
  rw [f]
  rcases (show T 1 0 = 0 ∨ T 1 0 = 1 ∨ T 1 0 = 2 ∨ T 1 0 = 3 ∨ T 1 0 = 4 ∨ T 1 0 = 5 ∨ T 1 0 = 6 by omega) with q | q | q | q | q | q | q <;> rw [q] <;> decide
theorem RS_beg {T2 : Tn} {B : Wd} (hT : TOK T2) (hF : TF T2) (hb : BEG T2 B) (b2 : b = 0 ∨ b = 1) (h13 : s 92 13 = b) (hR : RT s b T2) (h59 : s 92 59 = 0) (h58 : 0 ≤ s 92 58 ∧ s 92 58 < 20) (hz : zBg s b) : RS s b T2 B 0 U := by
  obtain ⟨z1, z2, z3, z4⟩ := hz
  have t1 := hT.2.1
  refine ⟨⟨⟨⟨h13, b2, hR, hT, hF⟩, ⟨by decide, by decide⟩, by rw [z1, hb.1], by rw [z2, hb.2.1], by rw [z3]; decide, fun c c0 c1 => ?_⟩, fun _ => ⟨by rw [z3, hb.2.2.1], fun k k0 k1 => by rw [hb.2.2.1] at k1; omega⟩⟩, hb.ok hT, by rw [hb.1]; decide, ⟨h59, ⟨by decide, by decide⟩, h58, fun i i0 i1 => by omega⟩, fun i i0 i1 => by omega⟩
  obtain ⟨y1, y2, y3, y4, y5⟩ := z4 c c0 (by omega)
  obtain ⟨x1, x2, x3⟩ := hb.2.2.2.1 c c0 (by omega)
  rw [show 8 * 0 + c = c by omega, y1, y2, y3, y4, y5, x1, x2, x3]
  exact ⟨(hR.2.2.1 c c0 c1).1, rfl, rfl, rfl, rfl⟩
end TOWNP
