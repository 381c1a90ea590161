/-! town goes alike -/
section TOWNQ
variable {g : GT}
theorem P_town : zPr g M_X12_town M_X13_town [] := fun s hi => by
  obtain ⟨tw, b, T, A, u, U, hc, hr, hR, hM⟩ := zIV.iff.1 hi
  obtain ⟨n, B, hC, hT⟩ := hi.tpo
  obtain ⟨hN, hD, hS, hI, hP⟩ := hR
  obtain ⟨h9, T0, c0, r0⟩ := hD
  have it := hc.it
  have it2 := it
  unfold isT at it2
  have hd : isT (29 - tw) := by unfold isT; omega
  have rb := hr.1.1.1
  have b2 := rb.2.1
  have bc : 1 - b = 0 ∨ 1 - b = 1 := by omega
  have sm1 : ∀ o, tw ≤ o → o ≤ tw + 18 → ¬ 92 ≤ o := fun o p q => by omega
  have sm2 : ∀ o, 29 - tw ≤ o → o ≤ 29 - tw + 18 → ¬ 92 ≤ o := fun o p q => by omega
  refine (C_town (e := 22) (t := (n, B)) hc.1 h9 hd (by omega) it c0 r0 hc.2.1.2.2.2.1 hC).imp (fun r s1 q => ?_)
  obtain ⟨stE, n2, T2, zt, a1, a2, a3, a4, a5, ok, no⟩ := q
  by_cases z : stE.1 = 0
  · obtain ⟨g1, ⟨B2, x2, y2⟩, t2, f2, v8, v9, v65, v652, v87, v871, fr⟩ := ok z
    have nj : ∀ o, (o = 3 ∨ (54 < o ∧ o ≠ 65 ∧ o ≠ 87)) → ¬ zJt (29 - tw) o := fun o q u => by unfold zJt zJs at u; omega
    have H : ∀ o, 88 ≤ o → s1 o = s o := fun o q => fr o (nj o (by omega))
    refine (R_town (e := 91) (t := (n, B)) (b := b) (by rw [H 92 (by decide)]; exact rb.1) b2 (RTp_lo hT (by rw [H 92 (by decide)]) (H 93 (by decide))) zt).imp (fun r2 s2 p => ?_)
    obtain ⟨p1, p2, p3, pk, _⟩ := p
    obtain ⟨k1, k2, k3, k4, k5, k6, k7, k8⟩ := pk z
    have lo : ∀ o, o < 92 → s2 o = s1 o := fun o y => k8 o (Or.inl y)
    have e65 : s2 65 = s1 65 := lo 65 (by decide)
    have M : ∀ k, (k = 58 ∨ k = 60 ∨ k = 76) → s2 92 k = s 92 k := fun k y => by rw [k7 k y, H 92 (by decide)]
    refine ⟨g1.trans k1.symm, zIV.iff.2 ⟨29 - tw, 1 - b, T2, B2, 0, U, CS.lo (s1 := s1) ⟨v8, x2, y2.ok t2, f2, by rw [y2.1]; decide, ⟨v65, ⟨by decide, by decide⟩, ?_, fun i i0 i1 => by omega⟩, fun i i0 i1 => by omega⟩ lo, RS_beg t2 f2 y2 bc k2 k3 k5.1 (by rw [M 58 (by decide)]; exact hr.2.2.2.1.2.2.1) k6, ⟨k4, ⟨?_, T, ?_, hc.2.1.ok.rg⟩, ⟨0, 0, fun _ => 0, fun _ => 0, ⟨k5.2.1, k5.2.2, by decide, ⟨by decide, by decide⟩, fun k q1 q2 => absurd q2 (by omega), fun k q1 q2 => absurd q2 (by omega)⟩, ?_, ?_⟩, hI.sm ?_ ?_ (M 76 (by decide)) ?_, ⟨0, fun _ => 0, ⟨?_, by decide, fun k q1 q2 => by omega⟩, ⟨p1, by decide, fun k q1 q2 => by omega⟩⟩⟩, ?_, ?_, ?_, ?_, fun w w0 w5 => ?_⟩⟩
    · rw [v652]; exact hc.2.2.2.2.2.1.2.2.1
    · rw [lo 1 (by decide), v9]; omega
    · rw [show 29 - (29 - tw) = tw by omega]
      exact a5.fr (J := fun o => 92 ≤ o) (fun o q => lo o (Int.not_le.1 q)) (fun o q1 q2 _ => sm1 o q1 q2)
    · rw [lo 87 (by decide), v87]; exact zHm_all t2
    · rw [lo 87 (by decide), v871]
    · rw [lo 89 (by decide), H 89 (by decide)]
    · rw [lo 90 (by decide), H 90 (by decide)]
    · rw [k8 141 (by decide), H 141 (by decide)]
    · rw [lo 2 (by decide)]; exact a1
    · rw [lo 1 (by decide), a2, p2]
    · rw [lo 1 (by decide), a3, p3]
    · rw [lo 1 (by decide), a4, M 60 (by decide)]; exact hM.2.2.1
    · rw [lo 1 (by decide), a4]; exact hM.2.2.2.1
    · rw [lo 91 (by decide), H 91 (by decide), k8 121 (by decide), H 121 (by decide)]; exact hM.2.2.2.2 w w0 w5
  · obtain ⟨g1, v8, v9, ⟨T4, c4, r4⟩, x91, fr⟩ := no z
    have H : ∀ o, (o = 3 ∨ (47 < o ∧ o ≠ 91)) → s1 o = s o := fun o q => fr o (by omega)
    have hr1 := hr.sm (s2 := s1) (fun o p => H o (by omega))
    refine (R_town (e := 91) (t := (n, B)) (b := b) (by rw [H 92 (by decide)]; exact rb.1) b2 (RTp_lo hT (by rw [H 92 (by decide)]) (H 93 (by decide))) zt).imp (fun r2 s2 p => ?_)
    obtain ⟨p1, p2, p3, _, pk⟩ := p
    obtain ⟨k1, t1, k2, k3, k4, k5, k6⟩ := pk z
    have lo : ∀ o, o < 92 → s2 o = s1 o := fun o y => by rw [k6, ups_at _ (by omega), k2.1 o (by omega) (by omega)]
    have M : ∀ k, (k = 58 ∨ k = 60 ∨ k = 76 ∨ k = 68 ∨ k = 69) → s2 92 k = s 92 k := fun k y => by rw [k6, ups_at _ (by decide), k2.2.1 k (by omega), H 92 (by decide)]
    have N : ∀ o, 121 < o → s2 o = s o := fun o y => by rw [k6, ups_at _ (by omega), k2.1 o (by omega) (by omega), H o (by omega)]
    have cx : CX s1 48 tw T A := by
      obtain ⟨w1, w2, w3, w4, w5, w6, w7⟩ := hc.2.1
      exact ⟨w1, w2, by rw [H 48 (by decide)]; exact w3, a5, w5.fr fr (fun o q1 q2 => by omega), w6, w7⟩
    have nt1 : NT s1 b T := hN.same (H 112 (by decide)) (H 113 (by decide)) (H 114 (by decide))
    have nt2 := nt1.zf hc.2.1.ok b2 k2
    have c1 : CS s1 tw T A u U := ⟨v8, cx, hc.2.2.1, hc.2.2.2.1, hc.2.2.2.2.1, hc.2.2.2.2.2.1.fr fr (fun o q1 q2 => by omega), hc.2.2.2.2.2.2⟩
    refine ⟨g1.trans k1.symm, zIV.iff.2 ⟨tw, b, T, A, u, U, c1.lo lo, by rw [k6]; exact (hr1.zf k2).upo (by decide) (by decide), ⟨nt2.same (by rw [k6, ups_at _ (by decide)]) (by rw [k6, ups_at _ (by decide)]) (by rw [k6, ups_at _ (by decide)]), ⟨?_, T4, ?_, r4⟩, hS.sm ?_ ?_ (M 68 (by decide)) (M 69 (by decide)) (N 136 (by decide)) (N 137 (by decide)), hI.sm ?_ ?_ (M 76 (by decide)) (N 141 (by decide)), ⟨0, fun _ => 0, ⟨?_, by decide, fun k q1 q2 => by omega⟩, ⟨p1, by decide, fun k q1 q2 => by omega⟩⟩⟩, ?_, ?_, ?_, ?_, fun w w0 w5 => ?_⟩⟩
    · rw [lo 1 (by decide), v9]
    · exact c4.fr (J := fun o => 92 ≤ o) (fun o q => lo o (Int.not_le.1 q)) (fun o q1 q2 _ => sm2 o q1 q2)
    · rw [lo 87 (by decide), H 87 (by decide)]
    · rw [lo 87 (by decide), H 87 (by decide)]
    · rw [lo 89 (by decide), H 89 (by decide)]
    · rw [lo 90 (by decide), H 90 (by decide)]
    · rw [lo 2 (by decide)]; exact a1
    · rw [lo 1 (by decide), a2, p2]
    · rw [lo 1 (by decide), a3, p3]
    · rw [lo 1 (by decide), a4, M 60 (by decide)]; exact hM.2.2.1
    · rw [lo 1 (by decide), a4]; exact hM.2.2.2.1
    · have t121 : t1 121 = s 121 := by rw [k2.1 121 (by decide) (by decide), H 121 (by decide)]
      have m5 := hM.2.2.2.2
      rw [lo 91 (by decide), x91, k6, t121]
      by_cases y : w = 1
      · rw [y, ups_eq, ups_eq, m5 1 (by decide) (by decide)]
      · rw [ups_k _ y, ups_k _ y, t121]; exact m5 w w0 w5
end TOWNQ
