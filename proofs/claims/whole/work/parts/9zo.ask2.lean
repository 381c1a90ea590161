/-! the other questions -/
section ASKS2
variable {g : GT} {s s1 s2 : Sg} {a i c n w k v : Int}
theorem zIV.mc (h : zIV s) : zMc s := by obtain ⟨_, _, _, _, _, _, _, _, _, m⟩ := h; exact m
theorem zIV.im (h : zIV s) : zIm s := by obtain ⟨_, _, _, _, _, _, _, m, _, _⟩ := h; exact m
theorem P_fault : zPr g M_X12_fault M_X13_fault [(0, w)] := fun s hi => Mw.ex (C_fault (e := 99)) (Mw.ex (R_fault (e := 99)) ⟨by rw [hi.mc.1, hi.mc.2.1], hi⟩)
theorem P_status : zPr g M_X12_status M_X13_status [(0, w)] := fun s hi => Mw.ex (C_status (e := 99)) (Mw.ex (R_status (e := 98)) ⟨by
  by_cases z : 0 ≤ w ∧ w ≤ 5
  · rw [if_pos z, if_pos z]; exact hi.mc.2.2.2.2 w z.1 z.2
  · rw [if_neg z, if_neg z], hi⟩)
theorem P_octet : zPr g M_X12_octet M_X13_octet [(0, k)] := fun s hi => by
  obtain ⟨P, c, r, d⟩ := hi.im
  refine Mw.ex (C_octet (e := 99) (by rw [c.1]; exact d)) (Mw.ex (R_octet (e := 98) (by rw [r.1]; exact r.2.1) (by rw [r.1]; omega)) ⟨?_, hi⟩)
  rw [c.1, r.1]
  by_cases z : 0 ≤ k ∧ k < P.1
  · rw [if_pos z, if_pos z, (c.2.2 k z.1 z.2).1, (r.2.2 k z.1 z.2).1]
  · rw [if_neg z, if_neg z]
theorem P_has : zPr g M_X12_has M_X13_has [(0, w)] := fun s hi => by
  have m := hi.mc
  obtain ⟨tw, b, T, ⟨A, u, U, hc, hr⟩, _⟩ := id hi
  refine Mw.ex (C_has (e := 95) hc.1 hc.2.1 hc.2.2.1) (Mw.ex (R_has (e := 94) hr.1 hr.2.1 rfl ?_) ⟨?_, hi⟩)
  · rw [← m.2.2.1]; unfold inR; have := m.2.2.2.1; omega
  · rw [m.2.2.1, hc.2.2.2.2.2.1.1, hr.2.2.2.1.1]
theorem P_letter : zPr g M_X12_letter M_X13_letter [(0, a), (0, i), (0, c)] := fun s hi => by
  obtain ⟨tw, b, T, ⟨A, u, U, hc, hr⟩, hN, _⟩ := id hi
  by_cases z : okL T a i c
  · obtain ⟨l, L, n1, n2, n3⟩ := hN a i z.1.1 (by have := z.1.2; omega) z.2.1.1 z.2.1.2
    refine (C_letter (e := 99) hc (fun _ => ⟨n1, n2⟩)).imp (fun r s1 q => ?_)
    obtain ⟨_, q2, q3⟩ := q
    subst q3
    refine (R_letter (e := 98) hr.1.1.1 (fun _ => ⟨n1, n3⟩)).imp (fun r2 s2 p => ?_)
    obtain ⟨_, p2, p3⟩ := p
    subst p3
    exact ⟨(q2 z).trans (p2 z).symm, hi⟩
  · refine (C_letter (e := 99) (l := fun _ => 0) (L := 0) hc (fun y => absurd y z)).imp (fun r s1 q => ?_)
    obtain ⟨q1, _, q3⟩ := q
    subst q3
    refine (R_letter (e := 98) (l := fun _ => 0) (L := 0) hr.1.1.1 (fun y => absurd y z)).imp (fun r2 s2 p => ?_)
    obtain ⟨p1, _, p3⟩ := p
    subst p3
    exact ⟨(q1 z).trans (p1 z).symm, hi⟩
theorem P_homes : zPr g M_X12_homes M_X13_homes [(0, v)] := fun s hi => by
  obtain ⟨tw, b, T, ⟨A, u, U, hc, hr⟩, hN, hD, ⟨bo, m, Y, Z, hm, h1, h2⟩, _⟩ := id hi
  refine (C_homes (e := 93) hc (hmS_isH hc.2.1.ok) h1 h2 hm.2.2.2.1.1 hm.2.2.2.1.2).imp (fun r s1 q => ?_)
  have f1 := zQ_js q.2
  have H := zQc_hi f1
  have hr1 := hr.sm H
  have hm1 : RM s1 T bo m Y Z := by unfold RM; rw [H 92 (by decide), H 136 (by decide), H 137 (by decide)]; exact hm
  refine (R_homes (e := 92) hr1.1.1.1 hm1).imp (fun r2 s2 q2 => ⟨q.1.trans q2.1.symm, hi.q f1 (zL_jn q2.2).1 (zL_jn q2.2).2⟩)
end ASKS2
