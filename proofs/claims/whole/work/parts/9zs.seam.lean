/-! image's length; seams -/
section SEAMP
variable {g : GT} {s s1 s2 : Sg} {a i c n w k v b tw u x : Int} {T : Tn} {A : Wd} {U : Int → Wd}
theorem zCh_n : ∀ (j c : Nat) (P : Im), (chsI A j c P).1 = P.1 + 6 * j := by
  intro j
  induction j with
  | zero => intro c P; show P.1 = P.1 + 6 * ((0 : Nat) : Int); omega
  | succ j ih =>
    intro c P
    show (chsI A j (c + 1) (chI A c P)).1 = _
    rw [ih]
    have : (chI A c P).1 = P.1 + 1 + 1 + 1 + 1 + 1 + 1 := rfl
    rw [this]
    omega
theorem zIm_61 (hT : TOK T) : (imS T A).1 ≤ 61 := by
  have e0 : (imS T A).1 = (bodI T A).1 + 1 := rfl
  have e1 : (bodI T A).1 = (chsI A (T 1 1).toNat 0 (sn2 (A 0 1) (0, fun _ => 0))).1 + (T 0 13).toNat := feI_n _ _ _
  have e2 : (sn2 (A 0 1) (0, fun _ => 0)).1 = 0 + 1 + 1 := rfl
  rw [e0, e1, zCh_n, e2]
  have := hT.2.1
  have := hT.2.2.2.1
  omega
theorem P_image1 : zPr g M_X12_image M_X13_image [] := P_image (fun T A hT _ => zIm_61 hT)
theorem ups_cm {o k v o2 k2 v2 : Int} (h : o ≠ o2) : ups (ups s o k v) o2 k2 v2 = ups (ups s o2 k2 v2) o k v := by
  funext a i
  by_cases p : a = o
  · subst p
    rw [ups_o _ h]
    by_cases q : i = k
    · subst q; rw [ups_eq, ups_eq]
    · rw [ups_k _ q, ups_k _ q, ups_o _ h]
  · rw [ups_o (ups s o2 k2 v2) p]
    by_cases q : a = o2
    · subst q
      by_cases r : i = k2
      · subst r; rw [ups_eq, ups_eq]
      · rw [ups_k _ r, ups_k _ r, ups_o _ p]
    · rw [ups_o _ q, ups_o _ p, ups_o _ q]
/-- the tape is emptied -/
theorem zIV.em (hi : zIV s) : zIV (ups (ups s 2 1 0) 92 1 0) := by
  have lo : ∀ o, o ≠ 2 → o ≠ 92 → (ups (ups s 2 1 0) 92 1 0) o = s o := fun o p q => by rw [ups_at _ q, ups_at _ p]
  refine hi.tp (s1 := ups s 2 1 0) (fun o q => ups_at _ (by omega)) (fun o q => ups_at _ (by omega)) (fun k p _ => ups_k _ p) (hi.im.sm ?_ (lo 90 (by decide) (by decide)) ?_ (lo 141 (by decide) (by decide))) ⟨0, fun _ => 0, ⟨?_, by decide, fun k k0 k1 => by omega⟩, ⟨ups_eq _ _ _ _, by decide, fun k k0 k1 => by omega⟩⟩
  · rw [lo 89 (by decide) (by decide)]
  · rw [ups_k _ (by decide), ups_at _ (by decide)]
  · rw [ups_at _ (by decide), ups_eq]
theorem P_seams : zPr g M_X12_seams M_X13_seams [(0, c)] := fun s hi => by
  obtain ⟨tw, b, T, A, u, U, hc, hr, hR, hM⟩ := zIV.iff.1 hi
  obtain ⟨n, B, hC, hT⟩ := hi.tpo
  refine (C_seams (e := 92) hc hC).imp (fun r s1 q => ?_)
  by_cases z : okM T n c B
  · obtain ⟨q1, q2, q3, q4, q5⟩ := q.2 z
    have H : ∀ o, o = 1 ∨ o = 3 ∨ (45 < o ∧ o < 87) ∨ 88 < o → s1 o = s o := fun o p => q5 o (fun u => by unfold Jsm Js Jk at u; omega)
    have hr1 := hr.sm (s2 := s1) (fun o p => H o (by omega))
    refine (R_seams (e := 92) hr1.1.1.1 (RTp_lo hT (by rw [H 92 (by decide)]) (H 93 (by decide)))).imp (fun r2 s2 p => ?_)
    obtain ⟨p1, p2, p3, p4⟩ := p.2 z
    have lo : ∀ o, o < 92 → s2 o = s1 o := fun o y => p4.1 o (by omega) (by omega) (by omega) (by omega) (by omega) (by omega)
    have M : ∀ k, k ≠ 1 → k ≠ 68 → k ≠ 69 → s2 92 k = s 92 k := fun k y1 y2 y3 => by rw [p4.2 k y1 y2 y3, H 92 (by decide)]
    have N : ∀ o, 92 < o → o ≠ 131 → o ≠ 132 → o ≠ 136 → o ≠ 137 → o ≠ 138 → s2 o = s o := fun o y y1 y2 y3 y4 y5 => by rw [p4.1 o (by omega) y1 y2 y3 y4 y5, H o (by omega)]
    have G : Fr (fun o => Jsm o ∨ 92 ≤ o) s s2 := fun o y => by
      have y2 : ¬ 92 ≤ o := fun u => y (Or.inr u)
      rw [lo o (by omega)]
      exact q5 o (fun u => y (Or.inl u))
    have J4 : ∀ o, 4 ≤ o → o ≤ 45 → (Jsm o ∨ 92 ≤ o) → Jk o := fun o y1 y2 y3 => by
      unfold Jsm Js at y3
      rcases y3 with ((y3 | y3) | y3) | y3
      · exact y3
      · omega
      · omega
      · omega
    have J5 : ∀ o, (o = 1 ∨ o = 3 ∨ (45 < o ∧ o < 87) ∨ (88 < o ∧ o < 92)) → ¬ (Jsm o ∨ 92 ≤ o) := fun o y1 y2 => by unfold Jsm Js Jk at y2; omega
    have e1 : s2 1 = s 1 := by rw [lo 1 (by decide), H 1 (by decide)]
    obtain ⟨hN, hD, hS, hI, hP⟩ := hR
    refine ⟨q1.trans p1.symm, zIV.iff.2 ⟨tw, b, T, A, u, U, hc.fr G (by rw [e1]) (fun o y1 y2 => J5 o (by omega)) (fun o y1 y2 => J5 o (by omega)) J4, hr.zw ⟨fun o y1 y2 => N o (by omega) (by omega) (by omega) (by omega) (by omega) (by omega), fun k y => M k (by omega) (by omega) (by omega), fun o y1 y2 => N o (by omega) (by omega) (by omega) (by omega) (by omega) (by omega)⟩, ⟨hN.same (N 112 (by decide) (by decide) (by decide) (by decide) (by decide) (by decide)) (N 113 (by decide) (by decide) (by decide) (by decide) (by decide) (by decide)) (N 114 (by decide) (by decide) (by decide) (by decide) (by decide) (by decide)), hD.fr hc.it G (by rw [e1]) J4, ⟨c, _, _, _, p2, ?_, ?_⟩, hI.sm ?_ (G 90 (J5 90 (by decide))) (M 76 (by decide) (by decide) (by decide)) (N 141 (by decide) (by decide) (by decide) (by decide) (by decide) (by decide)), ⟨0, fun _ => 0, ⟨?_, by decide, fun k k0 k1 => by omega⟩, ⟨p3, by decide, fun k k0 k1 => by omega⟩⟩⟩, hM.sm (by rw [e1]) (by rw [e1]) (by rw [e1]) (M 10 (by decide) (by decide) (by decide)) (M 11 (by decide) (by decide) (by decide)) (M 60 (by decide) (by decide) (by decide)) (G 91 (J5 91 (by decide))) (N 121 (by decide) (by decide) (by decide) (by decide) (by decide) (by decide))⟩⟩
    · rw [lo 87 (by decide)]; exact q3
    · rw [lo 87 (by decide)]; exact q2
    · rw [G 89 (J5 89 (by decide))]
    · rw [lo 2 (by decide)]; exact q4
  · obtain ⟨q1, q2⟩ := q.1 z
    have hr1 : RS s1 b T A u U := by rw [q2]; exact (hr.upo (by decide) (by decide)).upo (by decide) (by decide)
    refine (R_seams (e := 92) hr1.1.1.1 (RTp_lo hT (by rw [q2, ups_at _ (by decide), ups_at _ (by decide)]) (by rw [q2, ups_at _ (by decide), ups_at _ (by decide)]))).imp (fun r2 s2 p => ?_)
    obtain ⟨p1, p2⟩ := p.1 z
    refine ⟨q1.trans p1.symm, ?_⟩
    have := hi.em.rf (k := 5) (by decide) (by decide)
    have x1 : (ups (ups s 2 1 0) 92 1 0) 91 5 = s 91 5 := by rw [ups_at _ (by decide), ups_at _ (by decide)]
    rw [x1, ups_cm (s := ups s 2 1 0) (o := 92) (o2 := 91) (by decide), ← q2] at this
    rw [p2]
    have x2 : (ups s1 92 1 0) 121 5 = s1 121 5 := by rw [ups_at _ (by decide)]
    rw [x2] at this
    exact this
end SEAMP
