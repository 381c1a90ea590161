/-! acts go alike -/
def zRe (s : Sg) (tw b : Int) (T : Tn) : Prop := NT s b T ∧ zDr s tw ∧ zSm s T ∧ zIm s ∧ zTp s
section ACTS
variable {g : GT} {s s1 s2 : Sg} {a i c n w k v b tw u : Int} {T : Tn} {A : Wd} {U : Int → Wd}
theorem zIV.iff : zIV s ↔ ∃ tw b T A u U, CS s tw T A u U ∧ RS s b T A u U ∧ zRe s tw b T ∧ zMc s := by
  constructor
  · intro ⟨tw, b, T, ⟨A, u, U, hc, hr⟩, hN, hD, hS, hI, hP, hM⟩
    exact ⟨tw, b, T, A, u, U, hc, hr, ⟨hN, hD, hS, hI, hP⟩, hM⟩
  · intro ⟨tw, b, T, A, u, U, hc, hr, ⟨hN, hD, hS, hI, hP⟩, hM⟩
    exact ⟨tw, b, T, ⟨A, u, U, hc, hr⟩, hN, hD, hS, hI, hP, hM⟩
theorem CS.lo (h : CS s1 tw T A u U) (lo : ∀ o, o < 92 → s2 o = s1 o) : CS s2 tw T A u U := h.fr (J := fun o => 92 ≤ o) (fun o q => lo o (by omega)) (by rw [lo 1 (by decide)]) (fun o _ _ _ => by omega) (fun o _ _ _ => by omega) (fun o _ _ _ => by omega)
theorem zRe.act (h : zRe s tw b T) (hw : isT tw) (f1 : Fr Jc s s1) (h9 : s1 1 9 = s 1 9) (f2 : ∀ o, (o < 122 ∨ 132 < o) → o ≠ 92 → s2 o = s1 o) (m : ∀ k, (k = 1 ∨ k = 68 ∨ k = 69 ∨ k = 76) → s2 92 k = s1 92 k) : zRe s2 tw b T := by
  obtain ⟨hN, hD, hS, hI, hP⟩ := h
  have nj : ∀ o, o = 2 ∨ o = 3 ∨ o = 87 ∨ 89 ≤ o → ¬ Jc o := fun o q u => by unfold Jc Ja Jw Jk at u; omega
  have E : ∀ o, o = 2 ∨ o = 3 ∨ o = 87 ∨ 89 ≤ o → (o < 122 ∨ 132 < o) → o ≠ 92 → s2 o = s o := fun o q p r => (f2 o p r).trans (f1 o (nj o q))
  have M : ∀ k, (k = 1 ∨ k = 68 ∨ k = 69 ∨ k = 76) → s2 92 k = s 92 k := fun k q => (m k q).trans (by rw [f1 92 (nj 92 (by decide))])
  refine ⟨hN.same (E 112 (by decide) (by decide) (by decide)) (E 113 (by decide) (by decide) (by decide)) (E 114 (by decide) (by decide) (by decide)), ?_, hS.sm ?_ ?_ (M 68 (by decide)) (M 69 (by decide)) (E 136 (by decide) (by decide) (by decide)) (E 137 (by decide) (by decide) (by decide)), hI.sm ?_ (E 90 (by decide) (by decide) (by decide)) (M 76 (by decide)) (E 141 (by decide) (by decide) (by decide)), hP.sm ?_ (E 3 (by decide) (by decide) (by decide)) (M 1 (by decide)) (E 93 (by decide) (by decide) (by decide))⟩
  · refine hD.fr (J := fun o => Jc o ∨ 92 ≤ o) hw (fun o q => ?_) ?_ (fun o p q r => ?_)
    · have z : ¬ 92 ≤ o := fun u => q (Or.inr u)
      rw [f2 o (by omega) (by omega)]
      exact f1 o (fun u => q (Or.inl u))
    · rw [f2 1 (by decide) (by decide)]; exact h9
    · rcases r with r | r
      · unfold Jc Ja Jw at r
        rcases r with ((r | r) | r) | r
        · omega
        · exact r
        · omega
        · omega
      · omega
  · rw [E 87 (by decide) (by decide) (by decide)]
  · rw [E 87 (by decide) (by decide) (by decide)]
  · rw [E 89 (by decide) (by decide) (by decide)]
  · rw [E 2 (by decide) (by decide) (by decide)]
theorem zMc.act (h : zMc s) (f1 : Fr Ja s s1) (f2 : ∀ o, (o < 122 ∨ 132 < o) → o ≠ 92 → s2 o = s1 o) (m : ∀ k, (k = 10 ∨ k = 11 ∨ k = 60) → s2 92 k = s1 92 k) : zMc s2 := by
  have nj : ∀ o, o = 1 ∨ 89 ≤ o → ¬ Ja o := fun o q u => by unfold Ja Jw Jk at u; omega
  have E : ∀ o, o = 1 ∨ 89 ≤ o → (o < 122 ∨ 132 < o) → o ≠ 92 → s2 o = s o := fun o q p r => (f2 o p r).trans (f1 o (nj o q))
  have M : ∀ k, (k = 10 ∨ k = 11 ∨ k = 60) → s2 92 k = s 92 k := fun k q => (m k q).trans (by rw [f1 92 (nj 92 (by decide))])
  have e1 := E 1 (by decide) (by decide) (by decide)
  exact h.sm (by rw [e1]) (by rw [e1]) (by rw [e1]) (M 10 (by decide)) (M 11 (by decide)) (M 60 (by decide)) (E 91 (by decide) (by decide) (by decide)) (E 121 (by decide) (by decide) (by decide))
/-- a call is refused by both -/
theorem zIV.rf (h : zIV s) (k0 : 0 ≤ k) (k5 : k ≤ 5) : zIV (ups (ups s 91 k (w32 (s 91 k + 1))) 121 k (w32 ((ups s 91 k (w32 (s 91 k + 1))) 121 k + 1))) := by
  obtain ⟨tw, b, T, A, u, U, hc, hr, hR, hM⟩ := zIV.iff.1 h
  generalize hx : w32 (s 91 k + 1) = x
  have e121 : (ups s 91 k x) 121 k = s 121 k := by rw [ups_at _ (by decide)]
  rw [e121, ← hM.2.2.2.2 k k0 k5, hx]
  have lo : ∀ o, o ≠ 91 → o ≠ 121 → (ups (ups s 91 k x) 121 k x) o = s o := fun o p q => by rw [ups_at _ q, ups_at _ p]
  refine zIV.iff.2 ⟨tw, b, T, A, u, U, ?_, (hr.upo (by decide) (by decide)).upo (by decide) (by decide), ?_, ?_⟩
  · exact hc.fr (J := fun o => o = 91 ∨ o = 121) (fun o q => lo o (by omega) (by omega)) (by rw [lo 1 (by decide) (by decide)]) (fun o _ _ _ => by omega) (fun o _ _ _ => by omega) (fun o _ _ _ => by omega)
  · obtain ⟨hN, hD, hS, hI, hP⟩ := hR
    have e1 := lo 1 (by decide) (by decide)
    have e92 := lo 92 (by decide) (by decide)
    refine ⟨hN.same (lo 112 (by decide) (by decide)) (lo 113 (by decide) (by decide)) (lo 114 (by decide) (by decide)), hD.fr (J := fun o => o = 91 ∨ o = 121) hc.it (fun o q => lo o (by omega) (by omega)) (by rw [e1]) (fun o _ _ _ => by omega), hS.sm ?_ ?_ (by rw [e92]) (by rw [e92]) (lo 136 (by decide) (by decide)) (lo 137 (by decide) (by decide)), hI.sm ?_ (lo 90 (by decide) (by decide)) (by rw [e92]) (lo 141 (by decide) (by decide)), hP.sm ?_ (lo 3 (by decide) (by decide)) (by rw [e92]) (lo 93 (by decide) (by decide))⟩
    · rw [lo 87 (by decide) (by decide)]
    · rw [lo 87 (by decide) (by decide)]
    · rw [lo 89 (by decide) (by decide)]
    · rw [lo 2 (by decide) (by decide)]
  · obtain ⟨m1, m2, m3, m4, m5⟩ := hM
    have e1 := lo 1 (by decide) (by decide)
    have e92 := lo 92 (by decide) (by decide)
    refine ⟨by rw [e1, e92]; exact m1, by rw [e1, e92]; exact m2, by rw [e1, e92]; exact m3, by rw [e1]; exact m4, fun w w0 w5 => ?_⟩
    rw [ups_at _ (show (91 : Int) ≠ 121 by decide)]
    by_cases z : w = k
    · rw [z, ups_eq, ups_eq]
    · rw [ups_k _ z, ups_k _ z, ups_at _ (by decide)]
      exact m5 w w0 w5
theorem Ja_hi (q : Fr Ja s s1) : ∀ o, 92 ≤ o → s1 o = s o := fun o p => q o (fun u => by unfold Ja Jw Jk at u; omega)
theorem zIV.act {A2 : Wd} {u2 : Int} {U2 : Int → Wd} (hc : CS s tw T A u U) (hR : zRe s tw b T) (hM : zMc s) (f1 : Fr Ja s s1) (c1 : CS s1 tw T A2 u2 U2) (f2 : Fg Jf s1 s2) (r2 : RS s2 b T A2 u2 U2) : zIV s2 := by
  refine zIV.iff.2 ⟨tw, b, T, A2, u2, U2, c1.lo (fun o p => f2.1 o (by omega) (by omega)), r2, hR.act hc.it (f1.wk (fun o q => Or.inl q)) ?_ f2.1 (fun k q => f2.2 k (by unfold Jf; omega)), hM.act f1 f2.1 (fun k q => f2.2 k (by unfold Jf; omega))⟩
  rw [f1 1 (fun u => by unfold Ja Jw Jk at u; omega)]
/-- an act that both do or both refuse -/
theorem zP_act {M N : MI} {as : List AV} {ok : Prop} {x y : Int} {A2 : Wd} {u2 : Int} {U2 : Int → Wd} (hi : zIV s) (k0 : 0 ≤ k) (k5 : k ≤ 5) (hc : CS s tw T A u U) (hr : RS s b T A u U) (hR : zRe s tw b T) (hM : zMc s)
    (C : Mw g 100 M ((20, 1) :: as) s (fun r s' => (¬ ok → r = x ∧ s' = ups s 91 k (w32 (s 91 k + 1))) ∧ (ok → r = y ∧ CS s' tw T A2 u2 U2 ∧ Fr Ja s s')))
    (R : ∀ s1, RS s1 b T A u U → Mw g 100 N ((21, 92) :: as) s1 (fun r s' => (¬ ok → r = x ∧ s' = ups s1 121 k (w32 (s1 121 k + 1))) ∧ (ok → r = y ∧ RS s' b T A2 u2 U2 ∧ Fg Jf s1 s'))) :
    Mw g 100 M ((20, 1) :: as) s (fun r s1 => Mw g 100 N ((21, 92) :: as) s1 (fun r2 s2 => r = r2 ∧ zIV s2)) := by
  refine C.imp (fun r s1 q => ?_)
  by_cases z : ok
  · obtain ⟨q1, q2, q3⟩ := q.2 z
    refine (R s1 (hr.sm (Ja_hi q3))).imp (fun r2 s2 p => ?_)
    obtain ⟨p1, p2, p3⟩ := p.2 z
    exact ⟨q1.trans p1.symm, zIV.act hc hR hM q3 q2 p3 p2⟩
  · obtain ⟨q1, q2⟩ := q.1 z
    refine (R s1 (by rw [q2]; exact hr.upo (by decide) (by decide))).imp (fun r2 s2 p => ?_)
    obtain ⟨p1, p2⟩ := p.1 z
    refine ⟨q1.trans p1.symm, ?_⟩
    rw [p2, q2]
    exact hi.rf k0 k5
theorem P_years : zPr g M_X12_years M_X13_years [(0, n)] := fun s hi => by
  obtain ⟨tw, b, T, A, u, U, hc, hr, hR, hM⟩ := zIV.iff.1 hi
  exact zP_act hi (by decide) (by decide) hc hr hR hM (C_years (e := 93) hc) (fun s1 r1 => R_years (e := 91) r1)
theorem P_go : zPr g M_X12_go M_X13_go [(0, c), (0, n)] := fun s hi => by
  obtain ⟨tw, b, T, A, u, U, hc, hr, hR, hM⟩ := zIV.iff.1 hi
  exact zP_act hi (by decide) (by decide) hc hr hR hM (C_go (e := 97) hc) (fun s1 r1 => R_go (e := 97) r1)
theorem P_peace : zPr g M_X12_peace M_X13_peace [(0, c)] := fun s hi => by
  obtain ⟨tw, b, T, A, u, U, hc, hr, hR, hM⟩ := zIV.iff.1 hi
  exact zP_act hi (by decide) (by decide) hc hr hR hM (C_peace (e := 98) hc) (fun s1 r1 => R_peace (e := 97) r1)
theorem P_pull : zPr g M_X12_pull M_X13_pull [(0, c)] := fun s hi => by
  obtain ⟨tw, b, T, A, u, U, hc, hr, hR, hM⟩ := zIV.iff.1 hi
  exact zP_act hi (by decide) (by decide) hc hr hR hM (C_pull (e := 94) hc) (fun s1 r1 => R_pull (e := 93) r1)
end ACTS
