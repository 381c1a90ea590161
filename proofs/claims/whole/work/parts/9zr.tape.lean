/-! feed, end -/
/-- the reference's worlds and town are left alone -/
def zQw (s s2 : Sg) : Prop := (∀ o, 94 ≤ o → o < 112 → s2 o = s o) ∧ (∀ k, (k = 13 ∨ k = 58 ∨ k = 59) → s2 92 k = s 92 k) ∧ ∀ o, 122 ≤ o → o ≤ 130 → s2 o = s o
section TAPE
variable {g : GT} {s s1 s2 : Sg} {a i c n w k v b tw u x : Int} {T : Tn} {A : Wd} {U : Int → Wd} {K : Prop}
theorem RB.zw (h : RB s b T) (hf : zQw s s2) : RB s2 b T := by
  refine ⟨by rw [hf.2.1 13 (by decide)]; exact h.1, h.2.1, h.2.2.1.fr (J := fun o => 112 ≤ o ∨ o ≤ 93) (fun o ho => hf.1 o (by omega) (by omega)) (fun o o1 o2 => by omega), h.2.2.2⟩
theorem RZ.zw (h : RZ K s u b T A) (hf : zQw s s2) : RZ K s2 u b T A := by
  obtain ⟨⟨h1, h2, h3⟩, hk⟩ := h
  have E : ∀ o, 122 ≤ o → o ≤ 130 → s2 o = s o := hf.2.2
  refine ⟨⟨h1.zw hf, h2, ?_⟩, fun k => ?_⟩
  · unfold RW
    rw [E 122 (by decide) (by decide), E 123 (by decide) (by decide), E 124 (by decide) (by decide), E 125 (by decide) (by decide), E 126 (by decide) (by decide), E 127 (by decide) (by decide), E 128 (by decide) (by decide), E 129 (by decide) (by decide)]
    exact h3
  · have := hk k
    unfold RK at this ⊢
    rw [E 129 (by decide) (by decide), E 130 (by decide) (by decide)]
    exact this
theorem RS.zw (h : RS s b T A u U) (hf : zQw s s2) : RS s2 b T A u U := by
  obtain ⟨h1, h2, h3, ⟨u1, u2, u3, u4⟩, h5⟩ := h
  have e58 : s2 92 58 = s 92 58 := hf.2.1 58 (by decide)
  refine ⟨h1.zw hf, h2, h3, ⟨by rw [hf.2.1 59 (by decide)]; exact u1, u2, by rw [e58]; exact u3, fun i i0 i1 => ?_⟩, h5⟩
  rw [e58]
  exact (u4 i i0 i1).zw hf
/-- the tape and what was told change -/
theorem zIV.tp (h : zIV s) (f1 : Fr (fun o => o = 2 ∨ o = 3 ∨ o = 89 ∨ o = 90) s s1) (f2 : Fr (fun o => o = 92 ∨ o = 93 ∨ o = 141) s1 s2) (m : ∀ k, k ≠ 1 → k ≠ 76 → s2 92 k = s1 92 k) (hI : zIm s2) (hP : zTp s2) : zIV s2 := by
  obtain ⟨tw, b, T, A, u, U, hc, hr, ⟨hN, hD, hS, _, _⟩, hM⟩ := zIV.iff.1 h
  have E : ∀ o, o ≠ 2 → o ≠ 3 → o ≠ 89 → o ≠ 90 → o ≠ 92 → o ≠ 93 → o ≠ 141 → s2 o = s o := fun o p1 p2 p3 p4 p5 p6 p7 => (f2 o (by omega)).trans (f1 o (by omega))
  have M : ∀ k, k ≠ 1 → k ≠ 76 → s2 92 k = s 92 k := fun k p q => (m k p q).trans (by rw [f1 92 (by decide)])
  have G : Fr (fun o => o = 2 ∨ o = 3 ∨ o = 89 ∨ o = 90 ∨ o = 92 ∨ o = 93 ∨ o = 141) s s2 := fun o q => E o (by omega) (by omega) (by omega) (by omega) (by omega) (by omega) (by omega)
  have e1 := G 1 (by decide)
  refine zIV.iff.2 ⟨tw, b, T, A, u, U, hc.fr G (by rw [e1]) (fun o _ _ _ => by omega) (fun o _ _ _ => by omega) (fun o _ _ _ => by omega), hr.zw ⟨fun o p q => G o (by omega), fun k q => M k (by omega) (by omega), fun o p q => G o (by omega)⟩, ⟨hN.same (G 112 (by decide)) (G 113 (by decide)) (G 114 (by decide)), hD.fr hc.it G (by rw [e1]) (fun o _ _ _ => by omega), hS.sm ?_ ?_ (M 68 (by decide) (by decide)) (M 69 (by decide) (by decide)) (G 136 (by decide)) (G 137 (by decide)), hI, hP⟩, hM.sm (by rw [e1]) (by rw [e1]) (by rw [e1]) (M 10 (by decide) (by decide)) (M 11 (by decide) (by decide)) (M 60 (by decide) (by decide)) (G 91 (by decide)) (G 121 (by decide))⟩
  · rw [G 87 (by decide)]
  · rw [G 87 (by decide)]
theorem zIV.tpo (h : zIV s) : zTp s := by obtain ⟨_, _, _, _, _, _, _, _, m, _⟩ := h; exact m
theorem RTp_lo {B : Int → Int} (h : RTp s n B) (e1 : s1 92 1 = s 92 1) (e2 : s1 93 = s 93) : RTp s1 n B := ⟨by rw [e1]; exact h.1, h.2.1, by rw [e2]; exact h.2.2⟩
theorem CTp_lo {B : Int → Int} (h : CTp s n B) (e1 : s1 2 1 = s 2 1) (e2 : s1 3 = s 3) : CTp s1 n B := ⟨by rw [e1]; exact h.1, h.2.1, by rw [e2]; exact h.2.2⟩
theorem zIV.ft {B : Int → Int} (hi : zIV s) (q2 : CTp s1 n B) (q3 : Ft s s1) (p2 : RTp s2 n B) (p3 : Fu s1 s2) : zIV s2 := by
  have lo : ∀ o, o ≠ 92 → o ≠ 93 → s2 o = s1 o := fun o p q => p3.1 o (by omega)
  have lo2 : ∀ o, o ≠ 2 → o ≠ 3 → s1 o = s o := fun o p q => q3.1 o (by omega)
  refine hi.tp (s1 := s1) (fun o q => lo2 o (by omega) (by omega)) (fun o q => lo o (by omega) (by omega)) (fun k p _ => p3.2 k p) (hi.im.sm ?_ ?_ ?_ ?_) ⟨n, B, CTp_lo q2 (by rw [lo 2 (by decide) (by decide)]) (lo 3 (by decide) (by decide)), p2⟩
  · rw [lo 89 (by decide) (by decide), lo2 89 (by decide) (by decide)]
  · rw [lo 90 (by decide) (by decide), lo2 90 (by decide) (by decide)]
  · rw [p3.2 76 (by decide), lo2 92 (by decide) (by decide)]
  · rw [lo 141 (by decide) (by decide), lo2 141 (by decide) (by decide)]
theorem P_feed : zPr g M_X12_feed M_X13_feed [(0, a), (0, i), (0, c), (0, k), (0, w)] := fun s hi => by
  obtain ⟨n, B, hC, hT⟩ := hi.tpo
  refine (C_feed (e := 98) hC).imp (fun r s1 q => ?_)
  by_cases z : n + 20 ≤ 1600
  · obtain ⟨q1, q2, q3⟩ := q.1 z
    refine (R_feed (e := 98) (RTp_lo hT (by rw [q3.1 92 (by decide)]) (q3.1 93 (by decide)))).imp (fun r2 s2 p => ?_)
    obtain ⟨p1, p2, p3⟩ := p.1 z
    exact ⟨q1.trans p1.symm, hi.ft q2 q3 p2 p3⟩
  · obtain ⟨q1, q2⟩ := q.2 z
    refine (R_feed (e := 98) (RTp_lo hT (by rw [q2, ups_at _ (by decide)]) (by rw [q2, ups_at _ (by decide)]))).imp (fun r2 s2 p => ?_)
    obtain ⟨p1, p2⟩ := p.2 z
    refine ⟨q1.trans p1.symm, ?_⟩
    rw [p2, q2]
    exact hi.rf (by decide) (by decide)
theorem P_end : zPr g M_X12_end M_X13_end [(0, v)] := fun s hi => by
  obtain ⟨n, B, hC, hT⟩ := hi.tpo
  refine (C_end (e := 98) hC).imp (fun r s1 q => ?_)
  by_cases z : 0 ≤ v ∧ v ≤ n
  · obtain ⟨q1, q2, q3⟩ := q.1 z
    refine (R_end (e := 98) (RTp_lo hT (by rw [q3.1 92 (by decide)]) (q3.1 93 (by decide)))).imp (fun r2 s2 p => ?_)
    obtain ⟨p1, p2, p3⟩ := p.1 z
    exact ⟨q1.trans p1.symm, hi.ft q2 q3 p2 p3⟩
  · obtain ⟨q1, q2⟩ := q.2 z
    refine (R_end (e := 98) (RTp_lo hT (by rw [q2, ups_at _ (by decide)]) (by rw [q2, ups_at _ (by decide)]))).imp (fun r2 s2 p => ?_)
    obtain ⟨p1, p2⟩ := p.2 z
    refine ⟨q1.trans p1.symm, ?_⟩
    rw [p2, q2]
    exact hi.rf (by decide) (by decide)
theorem P_image (h61 : ∀ T A, TOK T → WOK T A → (imS T A).1 ≤ 61) : zPr g M_X12_image M_X13_image [] := fun s hi => by
  obtain ⟨tw, b, T, A, u, U, hc, hr, hR, hM⟩ := zIV.iff.1 hi
  refine (C_image (e := 96) hc).imp (fun r s1 q => ?_)
  obtain ⟨q1, q2, q3⟩ := q
  have hr1 := hr.sm (s2 := s1) (fun o p => q3.1 o (by omega))
  refine (R_image (e := 97) hr1.1.1 hr1.2.1).imp (fun r2 s2 p => ?_)
  obtain ⟨p1, p2, p3⟩ := p
  have lo : ∀ o, o ≠ 92 → o ≠ 141 → s2 o = s1 o := fun o p q => p3.1 o (by omega)
  have lo2 : ∀ o, o ≠ 89 → o ≠ 90 → s1 o = s o := fun o p q => q3.1 o (by omega)
  refine ⟨q1.trans p1.symm, hi.tp (s1 := s1) (fun o q => lo2 o (by omega) (by omega)) (fun o q => lo o (by omega) (by omega)) (fun k _ p => p3.2 k p) ⟨imS T A, ⟨?_, q2.2.1, ?_⟩, p2, h61 T A hc.2.1.ok hc.2.2.1⟩ (hi.tpo.sm ?_ ?_ ?_ ?_)⟩
  · rw [lo 89 (by decide) (by decide)]; exact q2.1
  · rw [lo 90 (by decide) (by decide)]; exact q2.2.2
  · rw [lo 2 (by decide) (by decide), lo2 2 (by decide) (by decide)]
  · rw [lo 3 (by decide) (by decide), lo2 3 (by decide) (by decide)]
  · rw [p3.2 1 (by decide), lo2 92 (by decide) (by decide)]
  · rw [lo 93 (by decide) (by decide), lo2 93 (by decide) (by decide)]
end TAPE
