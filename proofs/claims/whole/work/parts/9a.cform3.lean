/-! formulas: the class's parser is the descent, the other parts -/
section CFORM3
variable {g : GT} {t : Tp} {fo mb : Int} {k : Nat}
theorem st_0 {st : Int × Int} (z : st.1 = 0) : st = (0, st.2) := by rw [← z]
theorem N_nil {a : Int} {st2 : Int × Int} {N : List Int} (h : pN a = some (st2, N)) : st2 = (0, a) ∧ N = [] := some2 h
theorem cl_test (hr : CMw g t fo mb k 2 M_X4_bothPart 10) (hf : CLp g t fo mb k 1 P_X4_testPart_6 10) : CLp g t fo mb (k + 1) 1 P_X4_testPart_6 10 := by
  intro e h o v s st st2 L N Q oh o0 hb v0 v1 hp hc hq
  by_cases z : st.1 = 0
  · rw [pH_good z] at hp
    obtain ⟨b1, b2, b3⟩ := hb z
    have hp : (if wdT t st.2 = 25 then pB (pV t st.2) (fun x => pB (pF t mb k 2 o x) (fun y => pB (pE 12 y) (fun z => pF t mb k 1 o z))) else pN st.2) = some (st2, N) := hp
    obtain ⟨g1, g2, g3⟩ := hc.gd z
    refine S_X4_testPart_6 ?_
    rw [g3]
    by_cases y : wdT t st.2 = 25
    · rw [if_pos y] at hp
      have hk : kdT t st.2 ≠ 0 := kd_w (by omega)
      have i := hc.in z
      have n6 := hc.1.2.1
      have hlt : st.2 < t.1 := by
        rcases kd_in t st.2 with q | q | q | q
        · exact absurd q hk
        · exact (kd1 q).1
        · exact (kd2 q).1
        · exact kd3 q
      refine ⟨fun q => by omega, fun _ => ⟨fun q => absurd y q, fun _ => ?_⟩⟩
      rw [st_0 z] at hc
      exact cl_go hr hf oh o0 b1 b2 b3 v0 hk hc hp hq (by omega) rfl
    · rw [if_neg y] at hp
      have e := N_nil hp
      have fin : Q 0 s := hq s (by rw [e.1, e.2, List.append_nil, ← st_0 z]; exact hc) Ff.rf
      exact ⟨fun _ => fin, fun _ => ⟨fun _ => fin, fun q => absurd q y⟩⟩
  · have b := pH_bad z hp
    have fin : Q 0 s := hq s (by rw [b.1, b.2, List.append_nil]; exact hc) Ff.rf
    refine S_X4_testPart_6 ?_
    rw [(hc.bad z).2]
    exact ⟨fun _ => fin, fun _ => ⟨fun _ => fin, fun q => absurd q (by decide)⟩⟩
theorem cl_both (hr : CMw g t fo mb k 4 M_X4_factPart 9) (hf : CLp g t fo mb k 3 P_X4_bothPart_6 9) : CLp g t fo mb (k + 1) 3 P_X4_bothPart_6 9 := by
  intro e h o v s st st2 L N Q oh o0 hb v0 v1 hp hc hq
  by_cases z : st.1 = 0
  · rw [pH_good z] at hp
    obtain ⟨b1, b2, b3⟩ := hb z
    have hp : (if wdT t st.2 = 26 then pB (pV t st.2) (fun x => pB (pF t mb k 4 o x) (fun y => pB (pE 11 y) (fun z => pF t mb k 3 o z))) else pN st.2) = some (st2, N) := hp
    obtain ⟨g1, g2, g3⟩ := hc.gd z
    refine S_X4_bothPart_6 ?_
    rw [g3]
    by_cases y : wdT t st.2 = 26
    · rw [if_pos y] at hp
      have hk : kdT t st.2 ≠ 0 := kd_w (by omega)
      have i := hc.in z
      have n6 := hc.1.2.1
      have hlt : st.2 < t.1 := by
        rcases kd_in t st.2 with q | q | q | q
        · exact absurd q hk
        · exact (kd1 q).1
        · exact (kd2 q).1
        · exact kd3 q
      refine ⟨fun q => by omega, fun _ => ⟨fun q => absurd y q, fun _ => ?_⟩⟩
      rw [st_0 z] at hc
      exact cl_go hr hf oh o0 b1 b2 b3 v0 hk hc hp hq (by omega) rfl
    · rw [if_neg y] at hp
      have e := N_nil hp
      have fin : Q 0 s := hq s (by rw [e.1, e.2, List.append_nil, ← st_0 z]; exact hc) Ff.rf
      exact ⟨fun _ => fin, fun _ => ⟨fun _ => fin, fun q => absurd q y⟩⟩
  · have b := pH_bad z hp
    have fin : Q 0 s := hq s (by rw [b.1, b.2, List.append_nil]; exact hc) Ff.rf
    refine S_X4_bothPart_6 ?_
    rw [(hc.bad z).2]
    exact ⟨fun _ => fin, fun _ => ⟨fun _ => fin, fun q => absurd q (by decide)⟩⟩
/-- which sign a token is -/
theorem K_is0 {e : Nat} {o c : Int} {s : Sg} {st : Int × Int} {L : List Int} (h : CFm s t fo mb o st L) : Mw g (e + 1) M_X6_isSign [(15, 47), (0, c)] s (Ex (if st.1 = 0 ∧ kdT t st.2 = 3 ∧ vlT t st.2 = c then 1 else 0) s) := by
  refine (K_is h).imp (fun r s' q => ?_)
  obtain ⟨q1, q2, q3⟩ := q
  refine ⟨?_, q3⟩
  by_cases z : st.1 = 0 ∧ kdT t st.2 = 3 ∧ vlT t st.2 = c
  · rw [if_pos z]; exact q1 z
  · rw [if_neg z]; exact q2 z
theorem cl_sum (hr : CMw g t fo mb k 8 M_X4_productPart 6) (hf : CLp g t fo mb k 7 P_X4_sumPart_6 6) : CLp g t fo mb (k + 1) 7 P_X4_sumPart_6 6 := by
  intro e h o v s st st2 L N Q oh o0 hb v0 v1 hp hc hq
  have I : ∀ c, Mw g (e + 8 * h + 6) M_X6_isSign [(15, 47), (0, c)] s (Ex (if st.1 = 0 ∧ kdT t st.2 = 3 ∧ vlT t st.2 = c then 1 else 0) s) := fun c => K_is0 (e := e + 8 * h + 5) hc
  by_cases z : st.1 = 0
  · rw [pH_good z] at hp
    obtain ⟨b1, b2, b3⟩ := hb z
    have hp : (if adT t st.2 = -1 then pN st.2 else pB (pV t st.2) (fun x => pB (pF t mb k 8 o x) (fun y => pB (pE (adT t st.2) y) (fun z => pF t mb k 7 o z)))) = some (st2, N) := hp
    by_cases y : adT t st.2 = -1
    · rw [if_pos y] at hp
      have e := N_nil hp
      have fin : Q 0 s := hq s (by rw [e.1, e.2, List.append_nil, ← st_0 z]; exact hc) Ff.rf
      have n1 : ¬ (st.1 = 0 ∧ kdT t st.2 = 3 ∧ vlT t st.2 = 43) := fun q => by unfold adT at y; rw [if_pos q.2] at y; omega
      have n2 : ¬ (st.1 = 0 ∧ kdT t st.2 = 3 ∧ vlT t st.2 = 45) := fun q => by unfold adT at y; rw [if_neg (fun u => n1 ⟨z, u⟩), if_pos q.2] at y; omega
      refine S_X4_sumPart_6 ⟨fun _ => fin, fun _ => Mw.ex (I 43) ⟨fun q => absurd (if_neg n1) q, fun _ => Mw.ex (I 45) ⟨fun _ => fin, fun q => absurd (if_neg n2) q⟩⟩⟩
    · rw [if_neg y] at hp
      have k3 := ad_kd y
      have hlt := kd3 k3
      have n6 := hc.1.2.1
      have go : P_X4_sumPart_54 g (e + 8 * h + 6) Q s v (adT t st.2) := by
        refine S_X4_sumPart_54 ?_
        have hc' := hc
        rw [st_0 z] at hc'
        exact cl_go hr hf oh o0 b1 b2 b3 v0 (by omega) hc' hp hq (by omega) rfl
      have h37 : P_X4_sumPart_37 g (e + 8 * h + 6) Q s v := by
        refine S_X4_sumPart_37 (Mw.ex (I 43) ⟨fun q => ?_, fun q => ?_⟩)
        · have n1 : ¬ (kdT t st.2 = 3 ∧ vlT t st.2 = 43) := fun u => by rw [if_pos ⟨z, u⟩] at q; omega
          have : adT t st.2 = 2 := by
            unfold adT at y ⊢
            rw [if_neg n1] at y ⊢
            split at y
            · rename_i u; rw [if_pos u]
            · exact absurd rfl y
          rw [this] at go
          exact go
        · have n1 : st.1 = 0 ∧ kdT t st.2 = 3 ∧ vlT t st.2 = 43 := Classical.byContradiction (fun u => q (if_neg u))
          have : adT t st.2 = 1 := by unfold adT; rw [if_pos n1.2]
          rw [this] at go
          exact go
      refine S_X4_sumPart_6 ⟨fun q => by omega, fun _ => Mw.ex (I 43) ⟨fun _ => h37, fun q => Mw.ex (I 45) ⟨fun q2 => ?_, fun _ => h37⟩⟩⟩
      exfalso
      apply y
      unfold adT
      rw [if_neg (fun u => by rw [if_pos ⟨z, u⟩] at q; omega), if_neg (fun u => by rw [if_pos ⟨z, u⟩] at q2; omega)]
  · have b := pH_bad z hp
    have fin : Q 0 s := hq s (by rw [b.1, b.2, List.append_nil]; exact hc) Ff.rf
    refine S_X4_sumPart_6 ⟨fun _ => fin, fun _ => Mw.ex (I 43) ⟨fun q => absurd (if_neg (fun u => z u.1)) q, fun _ => Mw.ex (I 45) ⟨fun _ => fin, fun q => absurd (if_neg (fun u => z u.1)) q⟩⟩⟩
theorem cl_prod (hr : CMw g t fo mb k 10 M_X4_singlePart 5) (hf : CLp g t fo mb k 9 P_X4_productPart_6 5) : CLp g t fo mb (k + 1) 9 P_X4_productPart_6 5 := by
  intro e h o v s st st2 L N Q oh o0 hb v0 v1 hp hc hq
  have I : ∀ c, Mw g (e + 8 * h + 5) M_X6_isSign [(15, 47), (0, c)] s (Ex (if st.1 = 0 ∧ kdT t st.2 = 3 ∧ vlT t st.2 = c then 1 else 0) s) := fun c => K_is0 (e := e + 8 * h + 4) hc
  by_cases z : st.1 = 0
  · rw [pH_good z] at hp
    obtain ⟨b1, b2, b3⟩ := hb z
    have hp : (if muT t st.2 = -1 then pN st.2 else pB (pV t st.2) (fun x => pB (pF t mb k 10 o x) (fun y => pB (pE (muT t st.2) y) (fun z => pF t mb k 9 o z)))) = some (st2, N) := hp
    have all : P_X4_productPart_62 g (e + 8 * h + 5) Q s v (muT t st.2) := by
      by_cases y : muT t st.2 = -1
      · rw [if_pos y] at hp
        have e := N_nil hp
        have fin : Q 0 s := hq s (by rw [e.1, e.2, List.append_nil, ← st_0 z]; exact hc) Ff.rf
        exact S_X4_productPart_62 ⟨fun q => absurd y q, fun _ => fin⟩
      · rw [if_neg y] at hp
        have k3 := mu_kd y
        refine S_X4_productPart_62 ⟨fun _ => ?_, fun q => absurd q y⟩
        have hc' := hc
        rw [st_0 z] at hc'
        exact cl_go hr hf oh o0 b1 b2 b3 v0 (by omega) hc' hp hq (by omega) rfl
    refine S_X4_productPart_6 ⟨fun q => ?_, fun _ => Mw.ex (I 42) ⟨fun q => Mw.ex (I 47) ⟨fun q2 => Mw.ex (I 37) ⟨fun q3 => ?_, fun q3 => ?_⟩, fun q2 => ?_⟩, fun q => ?_⟩⟩
    · have y : muT t st.2 = -1 := Classical.byContradiction (fun y => by
        have := kd3 (mu_kd y)
        have := hc.1.2.1
        omega)
      rw [if_pos y] at hp
      have e := N_nil hp
      exact hq s (by rw [e.1, e.2, List.append_nil, ← st_0 z]; exact hc) Ff.rf
    all_goals
      have w : ∀ c, (if st.1 = 0 ∧ kdT t st.2 = 3 ∧ vlT t st.2 = c then (1 : Int) else 0) = 0 → ¬ (kdT t st.2 = 3 ∧ vlT t st.2 = c) := fun c q u => by rw [if_pos ⟨z, u⟩] at q; omega
      have w2 : ∀ c, ¬ (if st.1 = 0 ∧ kdT t st.2 = 3 ∧ vlT t st.2 = c then (1 : Int) else 0) = 0 → (kdT t st.2 = 3 ∧ vlT t st.2 = c) := fun c q => (Classical.byContradiction (fun u => q (if_neg u)) : st.1 = 0 ∧ kdT t st.2 = 3 ∧ vlT t st.2 = c).2
    · have : muT t st.2 = -1 := by unfold muT; rw [if_neg (w _ q), if_neg (w _ q2), if_neg (w _ q3)]
      rw [this] at all; exact all
    · have : muT t st.2 = 5 := by unfold muT; rw [if_neg (w _ q), if_neg (w _ q2), if_pos (w2 _ q3)]
      rw [this] at all; exact all
    · have : muT t st.2 = 4 := by unfold muT; rw [if_neg (w _ q), if_pos (w2 _ q2)]
      rw [this] at all; exact all
    · have : muT t st.2 = 3 := by unfold muT; rw [if_pos (w2 _ q)]
      rw [this] at all; exact all
  · have b := pH_bad z hp
    have fin : Q 0 s := hq s (by rw [b.1, b.2, List.append_nil]; exact hc) Ff.rf
    have no : ∀ c, (if st.1 = 0 ∧ kdT t st.2 = 3 ∧ vlT t st.2 = c then (1 : Int) else 0) = 0 := fun c => if_neg (fun u => z u.1)
    refine S_X4_productPart_6 ⟨fun _ => fin, fun _ => Mw.ex (I 42) ⟨fun _ => Mw.ex (I 47) ⟨fun _ => Mw.ex (I 37) ⟨fun _ => S_X4_productPart_62 ⟨fun q => absurd rfl q, fun _ => fin⟩, fun q => absurd (no _) q⟩, fun q => absurd (no _) q⟩, fun q => absurd (no _) q⟩⟩
theorem cm_cmp (hr : CMw g t fo mb k 6 M_X4_sumPart 7) : CMw g t fo mb (k + 1) 5 M_X4_comparePart 8 := by
  intro e h o s st st2 L N oh o0 hb hp hc
  by_cases z : st.1 = 0
  · rw [pH_good z] at hp
    have hp : pB (pF t mb k 6 o st.2) (fun x => if cmT t x = -1 then pX 1 x else pB (pV t x) (fun y => pB (pF t mb k 6 o y) (fun z => pE (cmT t x) z))) = some (st2, N) := hp
    obtain ⟨st1, L1, L2, h1, h2, h3⟩ := pB_some hp
    have h1' : pH (pF t mb k 6 o) st = some (st1, L1) := by rw [pH_good z]; exact h1
    refine S_X4_comparePart ((hr e h o s st st1 L L1 oh o0 hb h1' hc).imp (fun _ s2 m => ?_))
    have I : ∀ c, Mw g (e + 8 * h + 7) M_X6_isSign [(15, 47), (0, c)] s2 (Ex (if st1.1 = 0 ∧ kdT t st1.2 = 3 ∧ vlT t st1.2 = c then 1 else 0) s2) := fun c => K_is0 (e := e + 8 * h + 6) m.1
    have fin : ∀ x0, x0 = (if st1.1 = 0 then cmT t st1.2 else -1) → P_X4_comparePart_56 g (e + 8 * h + 7) (PC s t fo mb o st2 (L ++ N)) s2 x0 := fun x0 hx => by
      by_cases y : st1.1 = 0
      · rw [if_pos y] at hx
        rw [pH_good y] at h2
        have h2 : (if cmT t st1.2 = -1 then pX 1 st1.2 else pB (pV t st1.2) (fun y => pB (pF t mb k 6 o y) (fun z => pE (cmT t st1.2) z))) = some (st2, L2) := h2
        have bg := bd_go hc hb h1' y
        refine S_X4_comparePart_56 ⟨fun q => ?_, fun q => ?_⟩
        · rw [hx] at q
          rw [if_neg q] at h2
          have k3 := cm_kd q
          obtain ⟨st3, L3, L4, g1, g2, g3⟩ := pB_some h2
          have e3 := some2 g1
          obtain ⟨st4, L5, L6, m1, m2, m3⟩ := pH_B g2
          have p := pH_E m2
          have i := m.1.in y
          have av := av_in i.1.1 i.1.2
          have A := K_adv (g := g) (e := e + 8 * h + 4) m.1
          rw [show e + 8 * h + 4 + 3 = e + 8 * h + 7 by omega] at A
          refine A.imp (fun _ s3 n3 => ?_)
          have ea : avS t st1 = st3 := by unfold avS; rw [if_pos y]; exact e3.1.symm
          rw [ea] at n3
          have gb : st3.1 = 0 → st1.2 < st3.2 := fun u => by rw [e3.1] at u ⊢; exact (av.2.2 u).2 (by omega)
          refine (hr e h o s3 st3 st4 (L ++ L1) L5 oh o0 (fun u => ⟨bg.2.1, by have := gb u; omega⟩) m1 n3.1).imp (fun _ s4 n4 => ?_)
          rw [n4.1.2.2.1]
          have b4 : st4.1 = 0 → ((L ++ L1 ++ L5).length : Int) < st4.2 := fun u => (bd_go n3.1 (fun u => ⟨bg.2.1, by have := gb u; omega⟩) m1 u).2.2.1
          have C := K_emit (g := g) (e := e + 8 * h + 6) (c := x0) n4.1 (fun u => by have := b4 u; have := n16 n4.1 u; omega)
          rw [show e + 8 * h + 6 + 1 = e + 8 * h + 7 by omega] at C
          refine C.imp (fun _ s6 n6 => ⟨?_, ((m.2.tr n3.2).tr n4.2).tr n6.2⟩)
          rw [p.1]
          by_cases w : st4.1 = 0
          · rw [h3, g3, m3, e3.2, p.2.1 w, List.nil_append, ← hx, ← List.append_assoc, ← List.append_assoc]
            exact n6.1
          · exact n6.1.anyL w
        · rw [hx] at q
          rw [if_pos q] at h2
          have e2 := some2 h2
          have F := K_fh (g := g) (e := e + 8 * h + 5) (k := 1) m.1 (by decide)
          rw [show e + 8 * h + 5 + 2 = e + 8 * h + 7 by omega] at F
          refine F.imp (fun _ s6 n6 => ⟨?_, m.2.tr n6.2⟩)
          have ef : flS1 1 st1 = st2 := by unfold flS1; rw [if_pos y]; exact e2.1.symm
          rw [ef] at n6
          exact n6.1.anyL (by rw [e2.1]; show ¬ ((1 : Int) = 0); decide)
      · rw [if_neg y] at hx
        have b := pH_bad y h2
        refine S_X4_comparePart_56 ⟨fun q => absurd hx q, fun _ => ?_⟩
        have F := K_fh (g := g) (e := e + 8 * h + 5) (k := 1) m.1 (by decide)
        rw [show e + 8 * h + 5 + 2 = e + 8 * h + 7 by omega, fl_bad y] at F
        refine F.imp (fun _ s6 n6 => ⟨?_, m.2.tr n6.2⟩)
        rw [b.1]
        exact n6.1.anyL y
    have w : ∀ c, (if st1.1 = 0 ∧ kdT t st1.2 = 3 ∧ vlT t st1.2 = c then (1 : Int) else 0) = 0 → st1.1 = 0 → ¬ (kdT t st1.2 = 3 ∧ vlT t st1.2 = c) := fun c q z1 u => by rw [if_pos ⟨z1, u⟩] at q; omega
    have w2 : ∀ c, ¬ (if st1.1 = 0 ∧ kdT t st1.2 = 3 ∧ vlT t st1.2 = c then (1 : Int) else 0) = 0 → st1.1 = 0 ∧ (kdT t st1.2 = 3 ∧ vlT t st1.2 = c) := fun c q => Classical.byContradiction (fun u => q (if_neg u))
    refine Mw.ex (I 60) ⟨fun q => Mw.ex (I 62) ⟨fun q2 => Mw.ex (I 61) ⟨fun q3 => fin _ ?_, fun q3 => fin _ ?_⟩, fun q2 => fin _ ?_⟩, fun q => fin _ ?_⟩
    · by_cases y : st1.1 = 0
      · rw [if_pos y]; unfold cmT; rw [if_neg (w _ q y), if_neg (w _ q2 y), if_neg (w _ q3 y)]
      · rw [if_neg y]
    · have u := w2 _ q3
      rw [if_pos u.1]; unfold cmT; rw [if_neg (w _ q u.1), if_neg (w _ q2 u.1), if_pos u.2]
    · have u := w2 _ q2
      rw [if_pos u.1]; unfold cmT; rw [if_neg (w _ q u.1), if_pos u.2]
    · have u := w2 _ q
      rw [if_pos u.1]; unfold cmT; rw [if_pos u.2]
  · have b := pH_bad z hp
    rw [b.1, b.2, List.append_nil]
    exact X_cmp (e := e + 8 * h) hc z
end CFORM3
