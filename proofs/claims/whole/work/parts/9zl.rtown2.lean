/-! the reference reads a town -/
section RTOWN2
variable {g : GT} {e : Nat} {s : Sg} {c b : Int} {t : Tp} {T T1 T2 : Tn} {stE : Int × Int} {n2 : Int}
theorem RD_emp (c2 : c = 0 ∨ c = 1) (h : zEmp T) (h94 : s 94 c = 0) (h97 : s 97 c = 0) (h101 : s 101 c = 0) (h104 : s 104 c = 0) (h107 : ∀ k, 0 ≤ k → k < 5 → s 107 (5 * c + k) = if k = 0 then 7 else if k = 1 then 21 else if k = 2 then 10 else if k = 3 then 0 else 5) (h108 : s 108 (2 * c) = -1) (h109 : s 108 (2 * c + 1) = -1) (h35 : s 92 35 = 0) : RD s c T := by
  obtain ⟨z1, z2, z3, z4, z5, z6, z7, z8, z9, z10, z11⟩ := h
  refine ⟨⟨⟨by rw [h94, z1], by rw [h97, z2], by rw [h104, z3], by rw [h101, z4]⟩, fun h a a2 => by omega, fun h a a2 => by omega, fun h a a2 => by omega, fun h a a2 => by omega, fun k k0 k5 => ?_, ⟨?_, fun u => by omega⟩, ⟨?_, fun u => by omega⟩⟩, fun k i k0 k3 i0 i1 => ?_, ⟨by omega, fun u => by omega, fun u => by omega⟩⟩
  · rw [h107 k k0 k5]
    rcases (show k = 0 ∨ k = 1 ∨ k = 2 ∨ k = 3 ∨ k = 4 by omega) with u | u | u | u | u <;> subst u
    · exact z5.symm
    · exact z6.symm
    · exact z7.symm
    · exact z8.symm
    · exact z9.symm
  · rw [Int.add_zero, h108, z10]; exact ⟨fun _ => rfl, fun _ => rfl⟩
  · rw [h109, z11]; exact ⟨fun _ => rfl, fun _ => rfl⟩
  · rcases (show k = 0 ∨ k = 1 ∨ k = 2 by omega) with u | u | u <;> subst u <;> omega
theorem R_town (hb : s 92 13 = b) (b2 : b = 0 ∨ b = 1) (ht : RTp s t.1 t.2) (hz : zTR t stE n2 T2) : Mw g (e + 9) M_X13_town [(21, 92)] s (fun r s' => s' 92 1 = 0 ∧ s' 92 10 = stE.1 ∧ s' 92 11 = zFp stE ∧ 
    (stE.1 = 0 → r = n2 ∧ s' 92 13 = 1 - b ∧ RT s' (1 - b) T2 ∧ NT s' (1 - b) T2 ∧ (s' 92 59 = 0 ∧ s' 92 68 = 0 ∧ s' 92 69 = 0) ∧ zBg s' (1 - b) ∧ (∀ k, (k = 58 ∨ k = 60 ∨ k = 76) → s' 92 k = s 92 k) ∧ (∀ o, (o < 92 ∨ o = 121 ∨ 130 < o) → s' o = s o)) ∧
    (stE.1 ≠ 0 → r = -1 ∧ ∃ s1, zFr (1 - b) s s1 ∧ s1 92 1 = 0 ∧ s1 92 10 = stE.1 ∧ s1 92 11 = zFp stE ∧ s' = ups s1 121 1 (w32 (s1 121 1 + 1)))) := by
  obtain ⟨T1, t1, f1, w1, z1, zr⟩ := hz
  have c2 : 1 - b = 0 ∨ 1 - b = 1 := by omega
  refine S_X13_town (fun s1 a1 s2 a2 s3 a3 s4 a4 s5 a5 s6 a6 => ?_)
  have b13 : s5 92 13 = b := by rw [a5, ups_k _ (by decide), a4, ups_k _ (by decide), a3, ups_k _ (by decide), a2, ups_k _ (by decide), a1, ups_k _ (by decide)]; exact hb
  rw [b13, w32_of (show _ ≤ 1 - b by omega) (by omega)] at a6
  generalize hcc : 1 - b = c at *
  have q6 : s6 92 36 = c := by rw [a6, ups_eq]
  rw [q6]
  refine ⟨by omega, fun s7 a7 => ?_⟩
  have q7 : s7 92 36 = c := by rw [a7, ups_at _ (by decide)]; exact q6
  rw [q7]
  refine ⟨by omega, fun s8 a8 => ?_⟩
  have q8 : s8 92 36 = c := by rw [a8, ups_at _ (by decide)]; exact q7
  rw [q8]
  refine ⟨by omega, fun s9 a9 => ?_⟩
  have q9 : s9 92 36 = c := by rw [a9, ups_at _ (by decide)]; exact q8
  rw [q9]
  refine ⟨by omega, fun s10 a10 => ?_⟩
  have q10 : s10 92 36 = c := by rw [a10, ups_at _ (by decide)]; exact q9
  rw [q10]
  refine Mw.ex (R_isDefault (e := e + 7) c2) ?_
  have q12 : zDf s10 c 92 36 = c := by rw [zDf_at (by decide)]; exact q10
  rw [q12, w32_of (show _ ≤ 2 * c by omega) (by omega)]
  refine ⟨by omega, fun s13 a13 => ?_⟩
  have q13 : s13 92 36 = c := by rw [a13, ups_at _ (by decide)]; exact q12
  rw [q13, w32_of (show _ ≤ 2 * c by omega) (by omega), w32_of (show _ ≤ 2 * c + 1 by omega) (by omega)]
  refine ⟨by omega, fun s14 a14 s15 a15 => ?_⟩
  have o6 : ∀ o, o ≠ 92 → s6 o = s o := fun o q => by rw [a6, ups_at _ q, a5, ups_at _ q, a4, ups_at _ q, a3, ups_at _ q, a2, ups_at _ q, a1, ups_at _ q]
  have r6 : s6 92 2 = t.1 ∧ s6 92 1 = 0 ∧ s6 92 5 = 0 ∧ s6 92 8 = 0 ∧ s6 92 9 = -1 := by
    refine ⟨?_, ?_, ?_, ?_, ?_⟩
    · rw [a6, ups_k _ (by decide), a5, ups_k _ (by decide), a4, ups_k _ (by decide), a3, ups_k _ (by decide), a2, ups_k _ (by decide), a1, ups_eq]; exact ht.1
    · rw [a6, ups_k _ (by decide), a5, ups_k _ (by decide), a4, ups_k _ (by decide), a3, ups_k _ (by decide), a2, ups_eq]
    · rw [a6, ups_k _ (by decide), a5, ups_k _ (by decide), a4, ups_k _ (by decide), a3, ups_eq]
    · rw [a6, ups_k _ (by decide), a5, ups_k _ (by decide), a4, ups_eq]
    · rw [a6, ups_k _ (by decide), a5, ups_eq]
  have o15 : ∀ o, o ≠ 92 → o ≠ 94 → o ≠ 97 → o ≠ 101 → o ≠ 104 → o ≠ 107 → o ≠ 108 → s15 o = s o := fun o p1 p2 p3 p4 p5 p6 p7 => by
    rw [a15, ups_at _ p1, a14, ups_at _ p7, a13, ups_at _ p7, zDf_at p6, a10, ups_at _ p5, a9, ups_at _ p4, a8, ups_at _ p3, a7, ups_at _ p2, o6 o p1]
  have m15 : ∀ k, k ≠ 35 → s15 92 k = s6 92 k := fun k p => by
    rw [a15, ups_k _ p, a14, ups_at _ (by decide), a13, ups_at _ (by decide), zDf_at (by decide), a10, ups_at _ (by decide), a9, ups_at _ (by decide), a8, ups_at _ (by decide), a7, ups_at _ (by decide)]
  have D15 : RD s15 c T1 := by
    refine RD_emp c2 z1 ?_ ?_ ?_ ?_ ?_ ?_ ?_ ?_
    · rw [a15, ups_at _ (by decide), a14, ups_at _ (by decide), a13, ups_at _ (by decide), zDf_at (by decide), a10, ups_at _ (by decide), a9, ups_at _ (by decide), a8, ups_at _ (by decide), a7, ups_eq]
    · rw [a15, ups_at _ (by decide), a14, ups_at _ (by decide), a13, ups_at _ (by decide), zDf_at (by decide), a10, ups_at _ (by decide), a9, ups_at _ (by decide), a8, ups_eq]
    · rw [a15, ups_at _ (by decide), a14, ups_at _ (by decide), a13, ups_at _ (by decide), zDf_at (by decide), a10, ups_at _ (by decide), a9, ups_eq]
    · rw [a15, ups_at _ (by decide), a14, ups_at _ (by decide), a13, ups_at _ (by decide), zDf_at (by decide), a10, ups_eq]
    · intro k k0 k5
      rw [a15, ups_at _ (by decide), a14, ups_at _ (by decide), a13, ups_at _ (by decide)]
      exact zDf_in k0 k5
    · rw [a15, ups_at _ (by decide), a14, ups_k _ (by omega), a13, ups_eq]
    · rw [a15, ups_at _ (by decide), a14, ups_eq]
    · rw [a15, ups_eq]
  have F15 : zFr c s s15 := by
    have f6 : zFr c s s6 := by
      rw [a6]
      refine zFr.tr ?_ (zFr.u2 (by decide))
      rw [a5]
      refine zFr.tr ?_ (zFr.u2 (by decide))
      rw [a4]
      refine zFr.tr ?_ (zFr.u2 (by decide))
      rw [a3]
      refine zFr.tr ?_ (zFr.u2 (by decide))
      rw [a2]
      refine zFr.tr ?_ (zFr.u2 (by decide))
      rw [a1]
      exact zFr.u2 (by decide)
    have f10 : zFr c s s10 := by
      rw [a10]
      refine zFr.tr ?_ (zFr.ub (by decide) (by decide) (by rw [show szB 104 = 1 from rfl]; omega))
      rw [a9]
      refine zFr.tr ?_ (zFr.ub (by decide) (by decide) (by rw [show szB 101 = 1 from rfl]; omega))
      rw [a8]
      refine zFr.tr ?_ (zFr.ub (by decide) (by decide) (by rw [show szB 97 = 1 from rfl]; omega))
      rw [a7]
      exact f6.tr (zFr.ub (by decide) (by decide) (by rw [show szB 94 = 1 from rfl]; omega))
    rw [a15]
    refine zFr.tr ?_ (zFr.u2 (by decide))
    rw [a14]
    refine zFr.tr ?_ (zFr.ub (by decide) (by decide) (by rw [show szB 108 = 2 from rfl]; omega))
    rw [a13]
    exact (f10.tr zFr.df).tr (zFr.ub (by decide) (by decide) (by rw [show szB 108 = 2 from rfl]; omega))
  have tp : TpO t := ⟨ht.2.1, fun k k0 k1 => (ht.2.2 k k0 k1).2⟩
  have t15 : RTt s15 t := ⟨by rw [m15 2 (by decide)]; exact r6.1, tp, fun k k0 k1 => by rw [o15 93 (by decide) (by decide) (by decide) (by decide) (by decide) (by decide) (by decide)]; exact (ht.2.2 k k0 k1).1⟩
  refine (R_ahead (e := e + 6) (p := 0) t15 (by rw [m15 8 (by decide)]; exact r6.2.2.2.1) (by rw [m15 9 (by decide)]; exact r6.2.2.2.2) (by rw [m15 5 (by decide)]; exact r6.2.2.1) (by decide) ht.2.1.1).imp (fun _ s17 q17 => ?_)
  obtain ⟨k17, w17, f17⟩ := q17
  have d17 := D15.fa f17
  have e35 : s17 92 35 = 0 := by rw [f17.2 35 (by unfold Ka; omega), a15, ups_eq]
  have al := at_le (t := t) (p := 0) ht.2.1.1
  refine R_loop (e := e) c2 81 0 0 s17 T1 stE n2 T2 (by decide) (by decide) (by decide) (t15.fa f17) k17 w17 ⟨by decide, ht.2.1.1⟩ (fun _ => by decide) (by rw [f17.2 36 (by unfold Ka; omega), m15 36 (by decide)]; exact q6) d17 t1 f1 w1 (by rw [e35]; omega) zr (fun v s18 g18 b18 f18 => ?_)
  have F18 : zFr c s s18 := (F15.tr f17.zf).tr f18.zf
  have v1 : s18 92 1 = 0 := by rw [f18.2.1 1 (by unfold Ka; omega) (by decide) (by decide) (by decide) (by decide) (by decide) (by decide), f17.2 1 (by unfold Ka; omega), m15 1 (by decide)]; exact r6.2.1
  have v36 : s18 92 36 = c := by rw [f18.2.1 36 (by unfold Ka; omega) (by decide) (by decide) (by decide) (by decide) (by decide) (by decide), f17.2 36 (by unfold Ka; omega), m15 36 (by decide)]; exact q6
  refine S_X13_town_152 (fun s19 a19 s20 a20 => ?_)
  have o20 : ∀ o, o ≠ 92 → s20 o = s18 o := fun o q => by rw [a20, ups_at _ q, a19, ups_at _ q]
  have m20 : ∀ k, k ≠ 10 → k ≠ 11 → s20 92 k = s18 92 k := fun k p q => by rw [a20, ups_k _ q, a19, ups_k _ p]
  have x10 : s20 92 10 = s18 92 8 := by rw [a20, ups_k _ (by decide), a19, ups_eq]
  have x11 : s20 92 11 = s18 92 9 := by rw [a20, ups_eq, a19, ups_k _ (by decide)]
  have F20 : zFr c s s20 := by
    rw [a20]
    refine zFr.tr ?_ (zFr.u2 (by decide))
    rw [a19]
    exact F18.tr (zFr.u2 (by decide))
  by_cases z : stE.1 = 0
  · obtain ⟨g1, g2, g3, g4⟩ := g18 z
    refine ⟨fun _ s21 a21 => ?_, fun u => absurd (by rw [m20 8 (by decide) (by decide), g2]; decide) u⟩
    rw [m20 36 (by decide) (by decide), v36] at a21
    have o21 : ∀ o, o ≠ 92 → s21 o = s18 o := fun o q => by rw [a21, ups_at _ q, o20 o q]
    refine (R_begin (e := e + 7) (c := c) (by rw [a21, ups_eq]) c2).imp (fun _ s22 q22 => ?_)
    obtain ⟨p1, p2, p3, p4⟩ := q22
    have o22 : ∀ o, o ≠ 92 → (o < 122 ∨ 129 < o) → s22 o = s18 o := fun o p q => by rw [p4 o p q, o21 o p]
    refine ⟨?_, ?_, ?_, fun _ => ⟨g1, ?_, ?_, ?_, p2, p1, fun k q => ?_, fun o q => ?_⟩, fun u => absurd z u⟩
    · rw [p3 1 (by decide) (by decide) (by decide), a21, ups_k _ (by decide), m20 1 (by decide) (by decide)]; exact v1
    · rw [p3 10 (by decide) (by decide) (by decide), a21, ups_k _ (by decide), x10, g2, z]
    · rw [p3 11 (by decide) (by decide) (by decide), a21, ups_k _ (by decide), x11, g3]; unfold zFp; rw [if_pos z]
    · rw [p3 13 (by decide) (by decide) (by decide), a21, ups_eq]
    · exact g4.1.fr (J := fun o => o = 92 ∨ ¬ (o < 122 ∨ 129 < o)) (fun o q => o22 o (fun u => q (Or.inl u)) (Classical.byContradiction (fun u => q (Or.inr u)))) (fun o q1 q2 => by omega)
    · exact g4.2.1.same (o22 112 (by decide) (by decide)) (o22 113 (by decide) (by decide)) (o22 114 (by decide) (by decide))
    · rw [p3 k (by omega) (by omega) (by omega), a21, ups_k _ (by omega)]
      exact F20.2.1 k (by omega)
    · rw [o22 o (by omega) (by omega)]
      exact F18.1 o (by omega) (by omega)
  · obtain ⟨h1, h2, h3⟩ := b18 z
    refine ⟨fun u => by rw [m20 8 (by decide) (by decide), h2] at u; omega, fun _ => S_X13_refuses (e := e + 7) (fun _ => ⟨⟨by decide, by decide⟩, ⟨by decide, by decide⟩, fun s21 a21 => ?_⟩)⟩
    have y1 : s20 92 1 = 0 := by rw [m20 1 (by decide) (by decide)]; exact v1
    have y2 : s20 92 10 = stE.1 := by rw [x10, h2]
    have y3 : s20 92 11 = zFp stE := by rw [x11, h3]; unfold zFp; rw [if_neg z]
    refine ⟨?_, ?_, ?_, fun u => absurd u z, fun _ => ⟨rfl, s20, F20, y1, y2, y3, a21⟩⟩
    · rw [a21, ups_at _ (by decide)]; exact y1
    · rw [a21, ups_at _ (by decide)]; exact y2
    · rw [a21, ups_at _ (by decide)]; exact y3
end RTOWN2
