/-! on -/
section ONP
variable {g : GT} {s s1 s2 : Sg} {a i c n w k v b tw u x : Int} {T : Tn} {A : Wd} {U : Int → Wd}
theorem zMc.rf (h : zMc s) (k0 : 0 ≤ k) (k5 : k ≤ 5) (e1 : s2 1 10 = s 1 10) (e2 : s2 1 11 = s 1 11) (e3 : s2 1 12 = s 1 12) (e4 : s2 92 10 = s 92 10) (e5 : s2 92 11 = s 92 11) (e6 : s2 92 60 = s 92 60) (x1 : s2 91 = (ups s 91 k (w32 (s 91 k + 1))) 91) (x2 : s2 121 = (ups s 121 k (w32 (s 121 k + 1))) 121) : zMc s2 := by
  obtain ⟨m1, m2, m3, m4, m5⟩ := h
  refine ⟨by rw [e1, e4]; exact m1, by rw [e2, e5]; exact m2, by rw [e3, e6]; exact m3, by rw [e3]; exact m4, fun w w0 w5 => ?_⟩
  rw [x1, x2]
  by_cases z : w = k
  · rw [z, ups_eq, ups_eq, m5 k k0 k5]
  · rw [ups_k _ z, ups_k _ z]; exact m5 w w0 w5
theorem zRe.on (h : zRe s tw b T) (hw : isT tw) (G : Fr (fun o => Jon o ∨ o = 91 ∨ 92 ≤ o) s s2) (N : ∀ o, 92 < o → o ≠ 121 → (o < 122 ∨ 132 < o) → s2 o = s o) (M : ∀ k, k ≠ 1 → k ≠ 59 → s2 92 k = s 92 k) (t1 : s2 2 1 = 0) (t2 : s2 92 1 = 0) : zRe s2 tw b T := by
  obtain ⟨hN, hD, hS, hI, hP⟩ := h
  have nj : ∀ o, (o = 1 ∨ o = 3 ∨ (o = 87) ∨ o = 89 ∨ o = 90) → ¬ (Jon o ∨ o = 91 ∨ 92 ≤ o) := fun o q u => by unfold Jon Jw Jk at u; omega
  refine ⟨hN.same (N 112 (by decide) (by decide) (by decide)) (N 113 (by decide) (by decide) (by decide)) (N 114 (by decide) (by decide) (by decide)), hD.fr hw G (by rw [G 1 (nj 1 (by decide))]) (fun o p q r => ?_), hS.sm (by rw [G 87 (nj 87 (by decide))]) (by rw [G 87 (nj 87 (by decide))]) (M 68 (by decide) (by decide)) (M 69 (by decide) (by decide)) (N 136 (by decide) (by decide) (by decide)) (N 137 (by decide) (by decide) (by decide)), hI.sm (by rw [G 89 (nj 89 (by decide))]) (G 90 (nj 90 (by decide))) (M 76 (by decide) (by decide)) (N 141 (by decide) (by decide) (by decide)), ⟨0, fun _ => 0, ⟨t1, by decide, fun k k0 k1 => by omega⟩, ⟨t2, by decide, fun k k0 k1 => by omega⟩⟩⟩
  unfold Jon Jw at r
  rcases r with ((r | r) | (r | r) | r) | r
  · omega
  · exact r
  · omega
  · exact r
  · omega
  · omega
theorem P_on : zPr g M_X12_on M_X13_on [] := fun s hi => by
  obtain ⟨tw, b, T, A, u, U, hc, hr, hR, hM⟩ := zIV.iff.1 hi
  obtain ⟨n, B, hC, hT⟩ := hi.tpo
  have nj : ∀ o, (o = 1 ∨ o = 3 ∨ o = 87 ∨ 89 ≤ o) → ¬ Jon o := fun o q u => by unfold Jon Jw Jk at u; omega
  refine (C_on (e := 95) hc hC).imp (fun r s1 q => ?_)
  by_cases z : okO T n B
  · obtain ⟨q1, W, q2, q3, q4, q5⟩ := q.1 z
    have H : ∀ o, 89 ≤ o → s1 o = s o := fun o p => q5 o (nj o (by omega))
    have hr1 := hr.sm (s2 := s1) (fun o p => H o (by omega))
    refine (R_on (e := 94) hr1 (RTp_lo hT (by rw [H 92 (by decide)]) (H 93 (by decide)))).imp (fun r2 s2 p => ?_)
    obtain ⟨p1, p2, p3, p4⟩ := p.1 z
    have lo : ∀ o, o < 92 → s2 o = s1 o := fun o y => p4.1 o (by omega) (by omega)
    have M : ∀ k, k ≠ 1 → k ≠ 59 → s2 92 k = s 92 k := fun k y1 y2 => by rw [p4.2 k (by unfold Jp; omega), H 92 (by decide)]
    have N : ∀ o, 92 < o → (o < 122 ∨ 132 < o) → s2 o = s o := fun o y y2 => by rw [p4.1 o y2 (by omega), H o (by omega)]
    have e1 : s2 1 = s 1 := by rw [lo 1 (by decide), q5 1 (nj 1 (by decide))]
    refine ⟨q1.trans p1.symm, zIV.iff.2 ⟨tw, b, T, W, 0, U, q2.lo lo, p2 W q3 q2.2.2.1, hR.on hc.it (fun o y => ?_) (fun o y _ y2 => N o y y2) M (by rw [lo 2 (by decide)]; exact q4) p3, hM.sm (by rw [e1]) (by rw [e1]) (by rw [e1]) (M 10 (by decide) (by decide)) (M 11 (by decide) (by decide)) (M 60 (by decide) (by decide)) (by rw [lo 91 (by decide), H 91 (by decide)]) (N 121 (by decide) (by decide))⟩⟩
    have y2 : ¬ 92 ≤ o := fun u => y (Or.inr (Or.inr u))
    rw [lo o (by omega)]
    exact q5 o (fun u => y (Or.inl u))
  · obtain ⟨q1, t0, q2, q3, q4, q5, q6⟩ := q.2 z
    have H0 : ∀ o, 89 ≤ o → t0 o = s o := fun o p => q4 o (nj o (by omega))
    have H : ∀ o, 92 ≤ o → s1 o = s o := fun o p => by rw [q6, ups_at _ (by omega), H0 o (by omega)]
    have hr1 := hr.sm (s2 := s1) H
    refine (R_on (e := 94) hr1 (RTp_lo hT (by rw [H 92 (by decide)]) (H 93 (by decide)))).imp (fun r2 s2 p => ?_)
    obtain ⟨p1, t1, p2, p3, p4, p5⟩ := p.2 z
    have lo : ∀ o, o < 92 → s2 o = s1 o := fun o y => by rw [p5, ups_at _ (by omega), p4.1 o (by omega) (by omega)]
    have e0 : ∀ o, o < 91 → s2 o = t0 o := fun o y => by rw [lo o (by omega), q6, ups_at _ (by omega)]
    have M : ∀ k, k ≠ 1 → k ≠ 59 → s2 92 k = s 92 k := fun k y1 y2 => by rw [p5, ups_at _ (by decide), p4.2 k (by unfold Jp; omega), H 92 (by decide)]
    have N : ∀ o, 92 < o → o ≠ 121 → (o < 122 ∨ 132 < o) → s2 o = s o := fun o y y1 y2 => by rw [p5, ups_at _ y1, p4.1 o y2 (by omega), H o (by omega)]
    have e1 : s2 1 = s 1 := by rw [e0 1 (by decide), q4 1 (nj 1 (by decide))]
    have c0 : CS s2 tw T A u U := q2.fr (J := fun o => 91 ≤ o) (fun o y => e0 o (by omega)) (by rw [e0 1 (by decide)]) (fun o _ _ _ => by omega) (fun o _ _ _ => by omega) (fun o _ _ _ => by omega)
    refine ⟨q1.trans p1.symm, zIV.iff.2 ⟨tw, b, T, A, u, U, c0, by rw [p5]; exact p2.upo (by decide) (by decide), hR.on hc.it (fun o y => ?_) N M (by rw [e0 2 (by decide)]; exact q3) (by rw [p5, ups_at _ (by decide)]; exact p3), hM.rf (k := 5) (by decide) (by decide) (by rw [e1]) (by rw [e1]) (by rw [e1]) (M 10 (by decide) (by decide)) (M 11 (by decide) (by decide)) (M 60 (by decide) (by decide)) ?_ ?_⟩⟩
    · have y2 : ¬ 92 ≤ o := fun u => y (Or.inr (Or.inr u))
      have y3 : o ≠ 91 := fun u => y (Or.inr (Or.inl u))
      rw [e0 o (by omega)]
      exact q4 o (fun u => y (Or.inl u))
    · rw [lo 91 (by decide), q6]
      unfold ups
      rw [q5]
    · have k1 : t1 121 = s 121 := by rw [p4.1 121 (by decide) (by decide), H 121 (by decide)]
      rw [p5]
      unfold ups
      rw [k1]
end ONP
