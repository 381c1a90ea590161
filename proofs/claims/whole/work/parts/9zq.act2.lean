/-! undo, chance, seed -/
section ACTS2
variable {g : GT} {s s1 s2 : Sg} {a i c n w k v b tw u : Int} {T : Tn} {A : Wd} {U : Int → Wd}
theorem P_undo : zPr g M_X12_undo M_X13_undo [] := fun s hi => by
  obtain ⟨tw, b, T, A, u, U, hc, hr, hR, hM⟩ := zIV.iff.1 hi
  refine (C_undo (e := 96) hc).imp (fun r s1 q => ?_)
  by_cases z : u = 0
  · obtain ⟨q1, q2⟩ := q.1 z
    have hr1 : RS s1 b T A u U := by rw [q2]; exact hr.upo (by decide) (by decide)
    refine (R_undo (e := 98) hr1.1 hr1.2.2.2.1 hr1.2.2.2.2).imp (fun r2 s2 p => ?_)
    obtain ⟨p1, p2⟩ := p.1 z
    refine ⟨q1.trans p1.symm, ?_⟩
    rw [p2, q2]
    exact hi.rf (by decide) (by decide)
  · obtain ⟨q1, B, q2, q3, q4, q5, q6⟩ := q.2 z
    have hr1 := hr.sm (Ja_hi q6)
    refine (R_undo (e := 98) hr1.1 hr1.2.2.2.1 hr1.2.2.2.2).imp (fun r2 s2 p => ?_)
    obtain ⟨p1, p2, p3, p4⟩ := p.2 z
    have k60 : U (u - 1) 0 9 ≤ 60 := by rw [← q4]; exact q2.2.2.1.1.2.2.1.2
    have pz : RZ True s2 0 b T B := p2.weqk q3 q4 (fun k k0 k1 => q5 k k0 (by omega))
    exact ⟨q1.trans p1.symm, zIV.act hc hR hM q6 q2 ⟨p4.1, fun k q => p4.2 k (fun y => q (by unfold Jf; omega))⟩ ⟨pz, q2.2.2.1, q2.2.2.2.2.1, p3, q2.2.2.2.2.2.2⟩⟩
theorem P_seed (hv : inR v) : zPr g M_X12_seed M_X13_seed [(0, v)] := fun s hi => by
  refine (C_seed (e := 98)).imp (fun r s1 q => (R_seed (e := 98)).imp (fun r2 s2 p => ?_))
  by_cases z : v < 0
  · obtain ⟨q1, q2⟩ := q.1 z
    obtain ⟨p1, p2⟩ := p.1 z
    refine ⟨q1.trans p1.symm, ?_⟩
    rw [p2, q2]
    exact hi.rf (by decide) (by decide)
  · obtain ⟨q1, q2⟩ := q.2 (by omega)
    obtain ⟨p1, p2⟩ := p.2 (by omega)
    refine ⟨q1.trans p1.symm, ?_⟩
    obtain ⟨tw, b, T, A, u, U, hc, hr, hR, hM⟩ := zIV.iff.1 hi
    have o2 : ∀ o, o ≠ 1 → o ≠ 92 → s2 o = s o := fun o p q => by rw [p2, ups_at _ q, q2, ups_at _ p]
    have k1 : ∀ k, k ≠ 12 → s2 1 k = s 1 k := fun k q => by rw [p2, ups_at _ (by decide), q2, ups_k _ q]
    have k9 : ∀ k, k ≠ 60 → s2 92 k = s 92 k := fun k q => by rw [p2, ups_k _ q, q2, ups_at _ (by decide)]
    refine zIV.iff.2 ⟨tw, b, T, A, u, U, ?_, ?_, ?_, ?_⟩
    · exact hc.fr (J := fun o => o = 1 ∨ o = 92) (fun o q => o2 o (by omega) (by omega)) (k1 8 (by decide)) (fun o _ _ _ => by omega) (fun o _ _ _ => by omega) (fun o _ _ _ => by omega)
    · rw [p2]
      refine RS.up1 ?_ (by decide)
      rw [q2]
      exact hr.upo (by decide) (by decide)
    · refine hR.act (s1 := s1) hc.it (fun o q => by rw [q2]; exact ups_at _ (fun u => q (Or.inr u))) (by rw [q2]; exact ups_k _ (by decide)) (fun o _ q => by rw [p2, ups_at _ q]) (fun k q => by rw [p2, ups_k _ (by omega)])
    · obtain ⟨m1, m2, m3, m4, m5⟩ := hM
      have e1 : s2 1 12 = v := by rw [p2, ups_at _ (by decide), q2, ups_eq]
      have e2 : s2 92 60 = v := by rw [p2, ups_eq]
      unfold inR at hv
      refine ⟨by rw [k1 10 (by decide), k9 10 (by decide)]; exact m1, by rw [k1 11 (by decide), k9 11 (by decide)]; exact m2, by rw [e1, e2], by rw [e1]; omega, ?_⟩
      rw [o2 91 (by decide) (by decide), o2 121 (by decide) (by decide)]
      exact m5
theorem P_chance : zPr g M_X12_chance M_X13_chance [(0, n)] := fun s hi => by
  obtain ⟨tw, b, T, A, u, U, hc, hr, hR, hM⟩ := zIV.iff.1 hi
  obtain ⟨m1, m2, m3, m4, m5⟩ := id hM
  refine (C_chance (e := 93) hc rfl m4.1 m4.2).imp (fun r s1 q => ?_)
  by_cases z : okY A n
  · obtain ⟨q1, q2, q3, q4, q5⟩ := q.2 z
    have H : ∀ o, 88 ≤ o → s1 o = s o := fun o p => q5 o (fun u => by unfold Jc Ja Jw Jk at u; omega)
    have hr1 := hr.sm (fun o p => H o (by omega))
    refine (R_chance (e := 91) (x := s 1 12) hr1 (by rw [H 92 (by decide)]; exact m3.symm) m4.1 m4.2).imp (fun r2 s2 p => ?_)
    obtain ⟨p1, p2, p3, p4⟩ := p.2 z
    have k9 : ∀ k, ¬ Jh k → s2 92 k = s 92 k := fun k y => by rw [p4.2 k y, H 92 (by decide)]
    have lo : ∀ o, o < 92 → s2 o = s1 o := fun o y => p4.1 o (by omega) (by omega)
    refine ⟨q1.trans p1.symm, zIV.iff.2 ⟨tw, b, T, _, _, _, q2.lo lo, p2, hR.act hc.it q5 (q4 9 (by decide)) p4.1 (fun k y => p4.2 k (by unfold Jh Jf; omega)), ?_, ?_, ?_, ?_, ?_⟩⟩
    · rw [lo 1 (by decide), q4 10 (by decide), k9 10 (by unfold Jh Jf; omega)]; exact m1
    · rw [lo 1 (by decide), q4 11 (by decide), k9 11 (by unfold Jh Jf; omega)]; exact m2
    · rw [lo 1 (by decide), q3, p3]
    · rw [lo 1 (by decide), q3]; exact chX_x _ _ _ _ m4.1 m4.2
    · rw [lo 91 (by decide), H 91 (by decide), p4.1 121 (by decide) (by decide), H 121 (by decide)]; exact m5
  · obtain ⟨q1, q2⟩ := q.1 z
    have hr1 : RS s1 b T A u U := by rw [q2]; exact hr.upo (by decide) (by decide)
    refine (R_chance (e := 91) (x := s 1 12) hr1 (by rw [q2, ups_at _ (by decide)]; exact m3.symm) m4.1 m4.2).imp (fun r2 s2 p => ?_)
    obtain ⟨p1, p2⟩ := p.1 z
    refine ⟨q1.trans p1.symm, ?_⟩
    rw [p2, q2]
    exact hi.rf (by decide) (by decide)
end ACTS2
