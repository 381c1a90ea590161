/-! what holds between both programs holds at the start -/
theorem zIV_start {σ s : Sg} (h : zIni σ) (r : zRef σ s) : zIV s := by
  obtain ⟨⟨T, B, hz, hb, hf, e0, e1, e2, e3, e4, e5, e6, e7, e8, e9, e10⟩, ⟨T0, c0, t0⟩, ⟨a1, a2, a3, a4, a5⟩, -, hs⟩ := h
  obtain ⟨r1, r2, ⟨r3, r4⟩, ⟨d0, d1, d2, d3, d4⟩, ⟨f0, f1⟩, r5⟩ := r
  have fr : Fr (fun o => 92 ≤ o) σ s := fun o ho => r1 o (by omega)
  obtain ⟨⟨x1, x2, x3, x4, x5, x6, x7⟩, -⟩ := hz
  have hw : WOK T B := hb.ok x6
  have z0 : ∀ o, (o = 2 ∨ o = 65 ∨ o = 87 ∨ o = 89 ∨ o = 91) → ∀ k, s o k = 0 := fun o ho k => by rw [r1 o (by omega)]; exact hs o (by omega) k
  have z1 : ∀ o, 92 < o → o ≠ 107 → o ≠ 108 → ∀ k, s o k = 0 := r5
  have kb : ∀ k, 0 ≤ k → k < 3 → T 1 k = 0 := fun k k0 k3 => by
    rcases (show k = 0 ∨ k = 1 ∨ k = 2 by omega) with q | q | q <;> subst q
    · exact e0
    · exact e1
    · exact e2
  have b1 : B 0 1 = 0 := hb.1
  have b2 : B 0 2 = 0 := hb.2.1
  have b9 : B 0 9 = 0 := hb.2.2.1
  have hcx : CX s 48 4 T B := ⟨x1, x2, by rw [r1 48 (by decide)]; exact x3, x4.fr fr (fun o p q _ u => by omega), x5.fr fr (fun o p q u => by omega), x6, x7⟩
  have hub : ∀ U : Int → Wd, UOK T 0 U := fun U i i0 i1 => absurd i1 (by omega)
  have rf : ∀ w P, (w = 0 ∨ w = 1) → RF s 0 w P 0 := fun w P hw => by
    refine ⟨⟨fun _ => rfl, fun _ => ?_⟩, fun q => absurd q (by omega)⟩
    rcases hw with q | q <;> subst q
    · exact f0
    · exact f1
  have hrt : RT s 0 T := by
    refine ⟨⟨?_, ?_, ?_, ?_⟩, fun h p q => by omega, fun c p q => by omega, fun w p q => by omega, fun f p q => by omega, fun k p q => ?_, ?_, ?_⟩
    · rw [z1 94 (by decide) (by decide) (by decide), e0]
    · rw [z1 97 (by decide) (by decide) (by decide), e1]
    · rw [z1 104 (by decide) (by decide) (by decide), e2]
    · rw [z1 101 (by decide) (by decide) (by decide), e3]
    · rcases (show k = 0 ∨ k = 1 ∨ k = 2 ∨ k = 3 ∨ k = 4 by omega) with y | y | y | y | y <;> subst y
      · exact d0.trans e4.symm
      · exact d1.trans e5.symm
      · exact d2.trans e6.symm
      · exact d3.trans e7.symm
      · exact d4.trans e8.symm
    · rw [e9]; exact rf 0 _ (Or.inl rfl)
    · rw [e10]; exact rf 1 _ (Or.inr rfl)
  have hrb : RB s 0 T := ⟨r2 13 (by omega), Or.inl rfl, hrt, x6, hf⟩
  have hrz : RZ True s 0 0 T B := by
    refine ⟨⟨hrb, ⟨by decide, by decide⟩, ?_, ?_, ?_, fun c p q => by omega⟩, fun _ => ⟨?_, fun k p q => by omega⟩⟩
    · rw [z1 122 (by decide) (by decide) (by decide), b1]
    · rw [z1 123 (by decide) (by decide) (by decide), b2]
    · rw [z1 129 (by decide) (by decide) (by decide)]; exact ⟨by decide, by decide⟩
    · rw [z1 129 (by decide) (by decide) (by decide), b9]
  refine ⟨4, 0, T, ⟨B, 0, fun _ => B, ⟨?_, hcx, hw, hf, by omega, ⟨z0 65 (by omega) 1, by decide, by rw [z0 65 (by omega)]; decide, fun i p q => by omega⟩, hub _⟩, ⟨hrz, hw, by omega, ⟨r2 59 (by omega), by decide, by rw [r2 58 (by omega)]; decide, fun i p q => by omega⟩, hub _⟩⟩, fun k i p q u v => ?_, ⟨?_, T0, ?_, ?_⟩, ⟨0, 0, fun _ => 0, fun _ => 0, ⟨?_, r2 69 (by omega), by decide, by decide, fun k p q => ?_, fun k p q => ?_⟩, ?_, z0 87 (by omega) 1⟩, ⟨(0, fun _ => 0), ⟨z0 89 (by omega) 1, by decide, fun k p q => ?_⟩, ⟨r2 76 (by omega), by decide, fun k p q => ?_⟩, by decide⟩, ⟨0, fun _ => 0, ⟨z0 2 (by omega) 1, by decide, fun k p q => by omega⟩, ⟨r2 1 (by omega), by decide, fun k p q => by omega⟩⟩, ⟨?_, ?_, ?_, ?_, fun w p q => ?_⟩⟩
  · rw [r1 1 (by decide)]; exact a1
  · have := kb k p q
    omega
  · rw [r1 1 (by decide)]; exact a2
  · exact c0.fr fr (fun o p q _ u => by omega)
  · exact ⟨t0.2.2.2.2.1, fun c p q => ⟨(t0.2.2.2.2.2.1 c p q).1, (t0.2.2.2.2.2.1 c p q).2.1⟩⟩
  · exact r2 68 (by omega)
  · exact absurd q (by omega)
  · exact absurd q (by omega)
  · rw [z0 87 (by omega)]
    unfold hmS
    rw [e0]
    rfl
  · exact absurd (show k < 0 from q) (by omega)
  · exact absurd (show k < 0 from q) (by omega)
  · rw [r1 1 (by decide), a3, r2 10 (by omega)]
  · rw [r1 1 (by decide), a4, r3]
  · rw [r1 1 (by decide), a5, r4]
  · rw [r1 1 (by decide), a5]; decide
  · rw [z0 91 (by omega), z1 121 (by decide) (by decide) (by decide)]
