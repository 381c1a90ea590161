/-! statements of the reference: formulas -/
section RLN5
variable {g : GT} {e : Nat} {s s' : Sg} {t : Tp} {st : Int × Int} {T T2 : Tn} {b : Int}
theorem Fx.db {c0 : Int} {s2 : Sg} (h : Fx b c0 0 0 s s2) (c00 : 0 ≤ c0) : Fdb b s s2 := by
  refine ⟨fun o a c => h.1 o a (by omega) (by omega) (by omega), fun k a1 a2 _ a4 a5 a6 a7 => h.2.1 k a1 a2 a4 a5 a6 a7, fun o i a c d => ?_⟩
  by_cases z : o = 110 ∨ o = 111
  · refine h.2.2.2.2 o i z ?_
    have e1 : szB o = 1600 := by
      unfold szB
      rw [if_neg (by omega), if_neg (by omega), if_neg (by omega), if_neg (by omega), if_neg (by omega), if_neg (by omega), if_neg (by omega)]
    rw [e1] at d
    omega
  · rw [h.1 o (by omega) (by omega) (by omega) (by omega)]
theorem N_pos {k nt : Nat} {mb a c : Int} {N : List Int} (hn : nt = 0 ∨ nt = 6) (a0 : 0 ≤ a ∧ a ≤ t.1) (ax : lxT t a = -1) (h : pF t mb k nt 0 a = some ((0, c), N)) : 0 < N.length := by
  have w := pF_wf t mb k nt 0 a c N (by omega) a0 ax h 0 (Int.le_refl 0) (by rcases hn with z | z <;> rw [z] <;> decide)
  have q : (tpL N (fun _ => false, 0)).2 = 1 := by
    rcases hn with z | z <;> subst z
    · exact ((show Wv _ true N 0 from w) (fun _ => false)).2.1
    · exact ((show Wv _ false N 0 from w) (fun _ => false)).2.1
  cases N with
  | nil => exact absurd q (by show ¬ (0 : Int) = 1; decide)
  | cons x r => exact Nat.succ_pos _
theorem R_reading {ob mb : Int} (h : RLn s t b T st) (hF : TF T) (z : st.1 = 0) (hob : (ob = 14 ∧ mb = 0) ∨ (ob = 17 ∧ mb = 1)) (hk : kdT t st.2 ≠ 0) (hcp : s 92 35 ≤ st.2) : Mw g (e + 7) M_X13_reading [(21, 92), (0, mb)] s (RQ s t b (foS t T ob mb st) (fRel T ob (foN t T ob mb st))) := by
  obtain ⟨ht, hr, h36, hb, hD, hT⟩ := h
  obtain ⟨hR, hN, hC⟩ := hD
  have hm : mb = 0 ∨ mb = 1 := by omega
  have rf : RF s b mb (T (ob + 1)) (T ob 2) := by
    rcases hob with ⟨q1, q2⟩ | ⟨q1, q2⟩ <;> subst q1 <;> subst q2
    · exact hR.2.2.2.2.2.2.1
    · exact hR.2.2.2.2.2.2.2
  have sz : 0 ≤ T ob 2 ∧ T ob 2 ≤ 1600 := by
    rcases hob with ⟨q, _⟩ | ⟨q, _⟩ <;> subst q
    · exact hF.1.1
    · exact hF.2.1
  obtain ⟨tk, tx⟩ := hr.2.1 z
  have ix : w32 (w32 (2 * s 92 36) + mb) = 2 * b + mb := by
    rw [h36, w32_of (show _ ≤ 2 * b by omega) (by omega), w32_of (by omega) (by omega)]
  have main : ∀ x : Int, (T ob 2 = 0 → x = 0) ∧ (T ob 2 ≠ 0 → x = 1) → P_X13_reading_25 g (e + 6) (RQ s t b (foS t T ob mb st) (fRel T ob (foN t T ob mb st))) s mb (2 * b + mb) x := fun x hx => by
    have el : (if x = 0 then st else flS1 6 st) = zLim (T ob 2) 1 st := by
      unfold zLim
      by_cases y : T ob 2 = 0
      · rw [hx.1 y, if_pos rfl, if_pos (by omega)]
      · rw [hx.2 y, if_neg (by decide), if_neg (by omega)]
    refine S_X13_reading_25 ((R_counts (e := e + 3) ht hr).imp (fun r1 s2 q2 => ?_))
    rw [el] at q2
    obtain ⟨w2, f2, g1, g2⟩ := q2
    have w2 : RRw s2 t (foI t T ob st) := w2
    have i7 : inT t (foI t T ob st) := fun y => ⟨(w2.2.1 y).1.2.2.1, (w2.2.1 y).2⟩
    have hn : (if mb = 0 then 6 else 0) = 0 ∨ (if mb = 0 then 6 else 0) = (6 : Nat) := by split <;> omega
    have pe := fmP_eq (mb := mb) hn i7
    have ef : fmP t mb (if mb = 0 then 6 else 0) (foI t T ob st) = (foS t T ob mb st, foN t T ob mb st) := rfl
    rw [ef] at pe
    refine ⟨fun r0 => ?_, fun r0 => ?_⟩
    · have x0 : x = 0 := Classical.byContradiction (fun u => r0 (g2 (fun v => u v.2)))
      have n0 : T ob 2 = 0 := Classical.byContradiction (fun u => by have := hx.2 u; omega)
      have p43 : P_X13_reading_43 g (e + 6) (RQ s t b (foS t T ob mb st) (fRel T ob (foN t T ob mb st))) s2 mb (2 * b + mb) mb := by
        refine S_X13_reading_43 ⟨hm, fun s3 h3 => ⟨⟨by omega, by omega⟩, fun s4 h4 => ?_⟩⟩
        have k3 : ∀ k, k ≠ 37 → s3 92 k = s2 92 k := fun k q => by rw [h3, ups_k _ q]
        have u4 : s4 92 = s3 92 := by rw [h4, ups_at _ (by decide)]
        have c35 : s4 92 35 = s 92 35 := by rw [u4, k3 35 (by decide), f2.2 35 (by unfold Ka; omega)]
        have e35 : s3 92 35 = s 92 35 := by rw [← u4]; exact c35
        rw [e35] at h4
        have F4 : Fdb b s s4 := by
          have a3 : Fdb b s2 s3 := by
            rw [h3]
            exact ⟨fun p a _ => ups_at _ a, fun k _ _ a _ _ _ _ => ups_k _ a, fun p j a _ _ => by rw [ups_at _ (by omega)]⟩
          have a4 : Fdb b s3 s4 := by rw [h4]; exact Fdb.up (by decide) (by decide) (by show 2 * b ≤ _ ∧ _ < 2 * b + 2; omega)
          exact (f2.db.tr a3).tr a4
        have o4 : ∀ o, o ≠ 92 → o ≠ 108 → s4 o = s o := fun o a c => by rw [h4, ups_at _ c, h3, ups_at _ a]; exact f2.1 o a
        have ht4 : RTt s4 t := ht.same (by rw [u4, k3 2 (by decide), f2.2 2 (by unfold Ka; omega)]) (o4 93 (by decide) (by decide))
        have w4 : RRw s4 t (foI t T ob st) := w2.same (fun k hk => by rw [u4, k3 k (by unfold Ka at hk; omega)])
        have gI : (foI t T ob st).1 = 0 → s 92 35 < (foI t T ob st).2 := fun y => by
          have zl : zLim (T ob 2) 1 st = st := by unfold zLim; rw [if_pos (by omega)]
          have ef : foI t T ob st = avT t st.2 := by unfold foI; rw [zl, avS_good z]
          rw [ef] at y ⊢
          have := ((av_in (t := t) tk.2.2.1.1 tk.2.2.1.2).2.2 y).2 hk
          omega
        have p67 : P_X13_reading_67 g (e + 6) (RQ s t b (foS t T ob mb st) (fRel T ob (foN t T ob mb st))) s4 (2 * b + mb) mb := by
          refine S_X13_reading_67 ((R_reads (e := e + 1) (k := fuT t) (st2 := foS t T ob mb st) (N := foN t T ob mb st) (ib := b) (mb := mb) (c0 := s 92 35) ht4 w4 ⟨by rw [u4, k3 36 (by decide), f2.2 36 (by unfold Ka; omega)]; exact h36, hb, by rw [u4, h3, ups_eq], hm⟩ ⟨c35, hC.1⟩ gI pe).imp (fun _ s5 q5 => ⟨⟨by omega, by omega⟩, fun s6 h6 => ?_⟩))
          obtain ⟨t5, r5, x5, l5⟩ := q5
          have u6 : s6 92 = s5 92 := by rw [h6, ups_at _ (by decide)]
          have F6 : Fdb b s s6 := (F4.tr (x5.db hC.1)).tr (by rw [h6]; exact Fdb.up (by decide) (by decide) (by show 2 * b ≤ _ ∧ _ < 2 * b + 2; omega))
          refine ⟨r5.w.same (fun k _ => by rw [u6]), F6, fun gd T2 fr => ?_, ?_⟩
          · have gl := l5 gd
            have gI1 : (foI t T ob st).1 = 0 := by
              apply Classical.byContradiction
              intro u
              have bb := pH_bad u pe
              rw [bb.1] at gd
              exact u gd
            have pg := pe
            rw [pH_good gI1, p_eta gd] at pg
            have ii := i7 gI1
            have np := N_pos hn ii.1 ii.2 pg
            have gdd := pF_gd t mb (fuT t) _ 0 _ _ _ ii.1.1 ii.1.2 ii.2 pg
            have g1 : (foI t T ob st).2 + (foN t T ob mb st).length ≤ (foS t T ob mb st).2 := gdd.2.2 rfl
            have g2 : (foS t T ob mb st).2 ≤ t.1 := (gdd.2.1 rfl).1.2
            have tb := ht.2.1.1.2
            have c0l := gI gI1
            have eo : ∀ o, o ≠ 92 → o ≠ 108 → o ≠ 109 → o ≠ 110 → o ≠ 111 → (o < 115 ∨ 120 < o) → s6 o = s o := fun o a1 a2 a3 a4 a5 a6 => by rw [h6, ups_at _ a3, x5.1 o a1 a4 a5 a6, o4 o a1 a2]
            have e108 : ∀ i, s6 108 i = if i = 2 * b + mb then s 92 35 else s 108 i := fun i => by
              rw [h6, ups_at _ (by decide), x5.1 108 (by decide) (by decide) (by decide) (by omega), h4, ups_if, h3, ups_at _ (by decide), f2.1 108 (by decide)]
            have e109 : ∀ i, s6 109 i = if i = 2 * b + mb then s 92 35 + (foN t T ob mb st).length else s 109 i := fun i => by
              rw [h6, ups_if, gl.1, x5.1 109 (by decide) (by decide) (by decide) (by omega), o4 109 (by decide) (by decide)]
            have e11 : ∀ o i, (o = 110 ∨ o = 111) → i < 1600 * b + s 92 35 → s6 o i = s o i := fun o i ho hi => by
              rw [h6, ups_at _ (by omega), x5.2.2.2.2 o i ho (Or.inl hi), o4 o (by omega) (by omega)]
            have rN : RF s6 b mb (T2 (ob + 1)) (T2 ob 2) := by
              unfold RF
              rw [fr.2.1, e108, e109, if_pos rfl, if_pos rfl]
              refine ⟨⟨fun u => by have := hC.1; omega, fun u => by omega⟩, fun _ => ⟨⟨hC.1, by omega, rfl⟩, fun i i0 i1 => ?_⟩⟩
              have q := gl.2 i.toNat (by omega)
              rw [Int.toNat_of_nonneg i0] at q
              have q2 := fr.2.2 i.toNat (by omega)
              rw [Int.toNat_of_nonneg i0] at q2
              have e6 : ∀ o, o ≠ 109 → s6 o = s5 o := fun o a => by rw [h6, ups_at _ a]
              rw [e6 110 (by decide), e6 111 (by decide), q2]
              exact q
            have rO : ∀ (w : Int) (P : Int → Int) (n : Int), (w = 0 ∨ w = 1) → w ≠ mb → RF s b w P n → (0 < n → s 108 (2 * b + w) + n ≤ s 92 35) → RF s6 b w P n := fun w P n hw nw q cb => by
              unfold RF at q ⊢
              have ne : ¬ 2 * b + w = 2 * b + mb := by omega
              rw [e108, e109, if_neg ne, if_neg ne]
              refine ⟨q.1, fun n1 => ⟨(q.2 n1).1, fun i i0 i1 => ?_⟩⟩
              have cb := cb n1
              rw [e11 110 _ (Or.inl rfl) (by omega), e11 111 _ (Or.inr rfl) (by omega)]
              exact (q.2 n1).2 i i0 i1
            have tO := fr.1
            have F7 : RF s6 b 0 (T2 15) (T2 14 2) ∧ RF s6 b 1 (T2 18) (T2 17 2) := by
              rcases hob with ⟨q1, q2⟩ | ⟨q1, q2⟩ <;> subst q1 <;> subst q2
              · refine ⟨rN, ?_⟩
                rw [tO 18 (by decide) (by decide), tO 17 (by decide) (by decide)]
                exact rO 1 _ _ (Or.inr rfl) (by decide) hR.2.2.2.2.2.2.2 hC.2.2
              · refine ⟨?_, rN⟩
                rw [tO 15 (by decide) (by decide), tO 14 (by decide) (by decide)]
                exact rO 0 _ _ (Or.inl rfl) (by decide) hR.2.2.2.2.2.2.1 (by rw [Int.add_zero]; exact hC.2.1)
            have tQ : ∀ a, a ≤ 13 → T2 a = T a := fun a ha => tO a (by omega) (by omega)
            have eQ : ∀ o, 94 ≤ o → o ≤ 107 → s6 o = s o := fun o a1 a2 => eo o (by omega) (by omega) (by omega) (by omega) (by omega) (by omega)
            refine ⟨?_, ?_, ?_⟩
            · obtain ⟨p1, p2, p3, p4, p5, p6, _, _⟩ := hR
              unfold RT
              rw [eQ 94 (by decide) (by decide), eQ 95 (by decide) (by decide), eQ 96 (by decide) (by decide), eQ 97 (by decide) (by decide), eQ 98 (by decide) (by decide), eQ 99 (by decide) (by decide), eQ 100 (by decide) (by decide), eQ 101 (by decide) (by decide), eQ 102 (by decide) (by decide), eQ 103 (by decide) (by decide), eQ 104 (by decide) (by decide), eQ 105 (by decide) (by decide), eQ 106 (by decide) (by decide), eQ 107 (by decide) (by decide), tQ 0 (by decide), tQ 1 (by decide), tQ 6 (by decide), tQ 7 (by decide), tQ 8 (by decide), tQ 9 (by decide), tQ 10 (by decide), tQ 11 (by decide), tQ 12 (by decide), tQ 13 (by decide)]
              exact ⟨p1, p2, p3, p4, p5, p6, F7⟩
            · have := hN.same (eo 112 (by decide) (by decide) (by decide) (by decide) (by decide) (by decide)) (eo 113 (by decide) (by decide) (by decide) (by decide) (by decide) (by decide)) (eo 114 (by decide) (by decide) (by decide) (by decide) (by decide) (by decide))
              intro k i k0 k3 i0 i1
              rw [tQ 1 (by decide)] at i1
              have q := this k i k0 k3 i0 i1
              rw [tQ (3 + k) (by omega)]
              exact q
            · have v35 : s6 92 35 = s 92 35 + (foN t T ob mb st).length := by rw [u6]; exact gl.1
              rw [v35, e108, e108]
              have c0 := hC.1
              rcases hob with ⟨q1, q2⟩ | ⟨q1, q2⟩ <;> subst q1 <;> subst q2
              · rw [if_pos (by omega), if_neg (by omega), fr.2.1, tO 17 (by decide) (by decide)]
                exact ⟨by omega, fun _ => by omega, fun n1 => by have := hC.2.2 n1; omega⟩
              · rw [if_neg (by omega), if_pos (by omega), fr.2.1, tO 14 (by decide) (by decide)]
                exact ⟨by omega, fun n1 => by have := hC.2.1 n1; omega, fun _ => by omega⟩
          · right
            intro gd
            have gl := l5 gd
            have gI1 : (foI t T ob st).1 = 0 := by
              apply Classical.byContradiction
              intro u
              have bb := pH_bad u pe
              rw [bb.1] at gd
              exact u gd
            have pg := pe
            rw [pH_good gI1, p_eta gd] at pg
            have ii := i7 gI1
            have gdd := pF_gd t mb (fuT t) _ 0 _ _ _ ii.1.1 ii.1.2 ii.2 pg
            have g1 : (foI t T ob st).2 + (foN t T ob mb st).length ≤ (foS t T ob mb st).2 := gdd.2.2 rfl
            have c0l := gI gI1
            rw [u6, gl.1]
            omega
        refine ⟨fun y => ?_, fun y => ?_⟩
        · have : mb = 0 := by omega
          rw [this] at p67 ⊢; exact p67
        · rw [y] at p67 ⊢; exact p67
      refine ⟨fun y => ?_, fun y => ?_⟩
      · have : mb = 0 := by omega
        rw [this] at p43 ⊢; exact p43
      · rw [y] at p43 ⊢; exact p43
    · have bad : ¬ (st.1 = 0 ∧ x = 0) := fun u => by have := g1 u.1 u.2; omega
      have nz : (foI t T ob st).1 ≠ 0 := fun u => by
        have := (g_lim (g_av u)).2
        exact bad ⟨z, hx.1 (by omega)⟩
      have eb : foS t T ob mb st = foI t T ob st := (pH_bad nz pe).1
      rw [eb]
      exact ⟨w2, f2.db, fun u => absurd u nz, Or.inl (f2.2 35 (by unfold Ka; omega))⟩
  refine S_X13_reading (fun _ => ?_)
  rw [ix]
  exact ⟨⟨by omega, by omega⟩, fun q => main 0 ⟨fun _ => rfl, fun u => absurd (rf.1.1 q) u⟩, fun q => main 1 ⟨fun u => absurd (rf.1.2 u) q, fun _ => rfl⟩⟩
end RLN5
