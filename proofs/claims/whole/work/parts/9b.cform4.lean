/-! formulas: the class's parser is the descent; facts, single parts, all of it -/
section CFORM4
variable {g : GT} {t : Tp} {fo mb : Int} {k : Nat}
theorem dp_gd {o : Int} {st : Int × Int} {s : Sg} {L : List Int} (h : CFm s t fo mb o st L) (hk : st.1 = 0 → kdT t st.2 ≠ 0) (hd : (dpS t o st).1 = 0) : st.1 = 0 ∧ o ≤ 6 ∧ st.2 < (dpS t o st).2 := by
  unfold dpS at hd ⊢
  by_cases z : st.1 = 0
  · rw [if_pos z] at hd ⊢
    by_cases y : 7 ≤ o
    · rw [if_pos y] at hd
      have hd : (5 : Int) = 0 := hd
      omega
    · rw [if_neg y] at hd ⊢
      have i := h.in z
      have av := av_in i.1.1 i.1.2
      exact ⟨z, by omega, (av.2.2 hd).2 (hk z)⟩
  · rw [if_neg z] at hd
    exact absurd hd z
theorem ms_gd {o c : Int} {st : Int × Int} {s : Sg} {L : List Int} (h : CFm s t fo mb o st L) (hd : (msS t c st).1 = 0) : st.1 = 0 ∧ st.2 < (msS t c st).2 := by
  unfold msS at hd ⊢
  by_cases z : st.1 = 0
  · rw [if_pos z] at hd ⊢
    by_cases y : kdT t st.2 = 3 ∧ vlT t st.2 = c
    · rw [if_pos y] at hd ⊢
      have i := h.in z
      have av := av_in i.1.1 i.1.2
      exact ⟨z, (av.2.2 hd).2 (by omega)⟩
    · rw [if_neg y] at hd
      have hd : (1 : Int) = 0 := hd
      omega
  · rw [if_neg z] at hd
    exact absurd hd z
/-- deeper, a part, back, what ends it -/
theorem cd_go {nt r d : Nat} {M : MI} (hr : CMw g t fo mb k nt M r) {e h : Nat} {o : Int} {s : Sg} {st st2 : Int × Int} {L N : List Int} {f : Int → PR1} {Q : Int → Sg → Prop} (oh : o + h = 8) (h1 : 1 ≤ h) (o0 : 0 ≤ o) (z : st.1 = 0) (o7 : o ≤ 7) (hL : (L.length : Int) < st.2) (hk : kdT t st.2 ≠ 0) (hc : CFm s t fo mb o st L)
    (hp : pB (pD t o st.2) (fun x => pB (pF t mb k nt (o + 1) x) f) = some (st2, N)) (hd : d = 8 * (h - 1) + r + (d - (8 * (h - 1) + r))) (h4 : 4 ≤ d)
    (hq : ∀ (s' s'' : Sg) (st3 : Int × Int) (L3 L4 : List Int), CFm s' t fo mb o st3 (L ++ L3) → Ff fo s s' → s'' = s' → pH f st3 = some (st2, L4) → N = L3 ++ L4 → (st3.1 = 0 → ((L ++ L3).length : Int) + 1 < st3.2) → Q 0 s') :
    Mw g (e + d) M_X4_goDeeper [(13, 46)] s (fun _ s10 => Mw g (e + d) M [(13, 46)] s10 (fun _ s12 => ∀ s13, s13 = ups s12 46 4 (w32 ((s12 46 4) - 1)) → Q 0 s13)) := by
  obtain ⟨st1, L1, L2, g1, g2, g3⟩ := pB_some hp
  have g1' : pH (pD t o) st = some (st1, L1) := by rw [pH_good z]; exact g1
  have pd := pH_D g1'
  obtain ⟨st3, L3, L4, m1, m2, m3⟩ := pH_B g2
  have A := K_deep (g := g) (e := e + d - 4) hc (fun _ => ⟨o0, o7⟩)
  rw [show e + d - 4 + 4 = e + d by omega] at A
  refine A.imp (fun _ s10 n => ?_)
  rw [← pd.1] at n
  have dg : st1.1 = 0 → o ≤ 6 ∧ st.2 < st1.2 := fun y => by
    rw [pd.1] at y ⊢
    exact (dp_gd hc (fun _ => hk) y).2
  have hb1 : st1.1 = 0 → o + 1 ≤ 7 ∧ (L.length : Int) < st1.2 := fun y => ⟨by have := dg y; omega, by have := dg y; omega⟩
  have B := hr (e + (d - (8 * (h - 1) + r))) (h - 1) (o + 1) s10 st1 st3 L L3 (by omega) (by omega) hb1 m1 n.1
  rw [show e + (d - (8 * (h - 1) + r)) + 8 * (h - 1) + r = e + d by omega] at B
  refine B.imp (fun _ s12 n2 s13 e13 => ?_)
  have c13 := n2.1.up4 (o2 := o) e13 (fun y => by
    have q := (n2.1.2.2.2.2.2.2.2 y).1
    rw [q, w32_of (by omega) (by omega)]
    omega)
  refine hq s13 s13 st3 L3 L4 c13.1 ((n.2.tr n2.2).tr c13.2) rfl m2 (by rw [g3, m3, pd.2, List.nil_append]) (fun y => ?_)
  by_cases w : st1.1 = 0
  · rw [pH_good w] at m1
    have i := n.1.in w
    have q := pF_gd t mb k nt (o + 1) st1.2 st3 L3 i.1.1 i.1.2 i.2 m1
    have := q.2.2 y
    have := dg w
    rw [List.length_append]
    omega
  · have := pH_bad w m1
    rw [this.1] at y
    exact absurd y w
theorem cm_fact (h4 : CMw g t fo mb k 4 M_X4_factPart 9) (h0 : CMw g t fo mb k 0 M_X4_testPart 11) (h5 : CMw g t fo mb k 5 M_X4_comparePart 8) : CMw g t fo mb (k + 1) 4 M_X4_factPart 9 := by
  intro e h o s st st2 L N oh o0 hb hp hc
  by_cases z : st.1 = 0
  · rw [pH_good z] at hp
    obtain ⟨b1, b2⟩ := hb z
    have hp : (if wdT t st.2 = 27 then pB (pD t o st.2) (fun x => pB (pF t mb k 4 (o + 1) x) (fun y => pE 13 y)) else if kdT t st.2 = 3 ∧ vlT t st.2 = 91 then pB (pD t o st.2) (fun x => pB (pF t mb k 0 (o + 1) x) (fun y => pM t 93 y)) else if wdT t st.2 = 28 then pB (pV t st.2) (fun x => pE 41 x) else pF t mb k 5 o st.2) = some (st2, N) := hp
    obtain ⟨g1, g2, g3⟩ := hc.gd z
    refine S_X4_factPart ?_
    rw [g3]
    refine ⟨fun y => ?_, fun y => ?_⟩
    · rw [if_neg y] at hp
      refine Mw.ex (K_is0 (e := e + 8 * h + 7) hc) ?_
      rw [g3]
      refine ⟨fun x => ?_, fun x => ?_⟩
      · have nx : ¬ (kdT t st.2 = 3 ∧ vlT t st.2 = 91) := fun u => by rw [if_pos ⟨z, u⟩] at x; omega
        rw [if_neg nx] at hp
        refine ⟨fun w => ?_, fun w => ?_⟩
        · rw [if_neg w] at hp
          exact h5 e h o s st st2 L N oh o0 hb (by rw [pH_good z]; exact hp) hc
        · rw [if_pos w] at hp
          obtain ⟨st1, L1, L2, a1, a2, a3⟩ := pB_some hp
          have e1 := some2 a1
          have p := pH_E a2
          have A := K_adv (g := g) (e := e + 8 * h + 5) hc
          rw [show e + 8 * h + 5 + 3 = e + 8 * h + 8 by omega] at A
          refine A.imp (fun _ s6 n => ?_)
          have ea : avS t st = st1 := by unfold avS; rw [if_pos z]; exact e1.1.symm
          rw [ea] at n
          rw [n.1.2.2.1]
          have i := hc.in z
          have av := av_in i.1.1 i.1.2
          have C := K_emit (g := g) (e := e + 8 * h + 7) (c := 41) n.1 (fun u => by
            have := n16 n.1 u
            rw [e1.1] at u this
            have := (av.2.2 u).1
            omega)
          rw [show e + 8 * h + 7 + 1 = e + 8 * h + 8 by omega] at C
          refine C.imp (fun _ s8 n8 => ⟨?_, n.2.tr n8.2⟩)
          rw [p.1]
          by_cases u : st1.1 = 0
          · rw [a3, e1.2, p.2.1 u, List.nil_append]; exact n8.1
          · exact n8.1.anyL u
      · have yx : st.1 = 0 ∧ kdT t st.2 = 3 ∧ vlT t st.2 = 91 := Classical.byContradiction (fun u => x (if_neg u))
        rw [if_pos yx.2] at hp
        refine cd_go (d := 8 * h + 8) (Q := fun _ s13 => Mw g (e + (8 * h + 8)) M_X4_sign [(13, 46), (0, 93)] s13 (fun _ s15 => PC s t fo mb o st2 (L ++ N) 0 s15)) h0 oh (by omega) o0 z b1 b2 (by omega) hc hp (by omega) (by omega) (fun s' s'' st3 L3 L4 c3 f3 _ m2 m3 b3 => ?_)
        have pm := pH_M m2
        have S := K_sign (g := g) (e := e + 8 * h + 4) (c := 93) c3
        rw [show e + 8 * h + 4 + 4 = e + (8 * h + 8) by omega] at S
        refine S.imp (fun _ s15 n => ⟨?_, f3.tr n.2⟩)
        rw [m3, pm.2, List.append_nil, pm.1]
        exact n.1
    · rw [if_pos y] at hp
      refine cd_go (d := 8 * h + 8) (Q := fun _ s20 => Mw g (e + (8 * h + 8)) M_X2_add [(11, (s20 46 2)), (0, 13)] s20 (fun _ s22 => PC s t fo mb o st2 (L ++ N) 0 s22)) h4 oh (by omega) o0 z b1 b2 (kd_w (by omega)) hc hp (by omega) (by omega) (fun s' s'' st3 L3 L4 c3 f3 _ m2 m3 b3 => ?_)
      have p := pH_E m2
      rw [c3.2.2.1]
      have C := K_emit (g := g) (e := e + 8 * h + 7) (c := 13) c3 (fun u => by have := b3 u; have := n16 c3 u; omega)
      rw [show e + 8 * h + 7 + 1 = e + (8 * h + 8) by omega] at C
      refine C.imp (fun _ s22 n => ⟨?_, f3.tr n.2⟩)
      rw [p.1]
      by_cases u : st3.1 = 0
      · rw [m3, p.2.1 u, ← List.append_assoc]; exact n.1
      · exact n.1.anyL u
  · have b := pH_bad z hp
    rw [b.1, b.2, List.append_nil]
    exact X_fact (e := e + 8 * h) hc z
theorem ct_go (h6 : CMw g t fo mb k 6 M_X4_sumPart 7) (i : Nat) : CCt g t fo mb (k + 1) i := by
  intro e h o s st st2 L N Q oh o1 hb hp hc hq
  have S6 := fun (s : Sg) (st st2 : Int × Int) (L N : List Int) (hb : st.1 = 0 → o ≤ 7 ∧ (L.length : Int) < st.2) (hp : pH (pF t mb k 6 o) st = some (st2, N)) (hc : CFm s t fo mb o st L) => h6 (e + 4) h o s st st2 L N oh (by omega) hb hp hc
  have sg : ∀ {s : Sg} {st : Int × Int} {L : List Int} {oo : Int} (c : Int), CFm s t fo mb oo st L → Mw g (e + 8 * h + 11) M_X4_sign [(13, 46), (0, c)] s (fun _ s' => CFm s' t fo mb oo (msS t c st) L ∧ Ff fo s s') := fun c hc => K_sign (e := e + 8 * h + 7) hc
  have hdec : ∃ (st1 st3 : Int × Int) (L1 L3 : List Int), pH (pF t mb k 6 o) st = some (st1, L1) ∧ pH (pF t mb k 6 o) (msS t 44 st1) = some (st3, L3) ∧ st2 = msS t 41 st3 ∧ (st2.1 = 0 → N = L1 ++ (L3 ++ [chC i])) := by
    by_cases z : st.1 = 0
    · rw [pH_good z] at hp
      have hp : pB (pF t mb k 6 o st.2) (fun x => pB (pM t 44 x) (fun y => pB (pF t mb k 6 o y) (fun z => pB (pM t 41 z) (fun u => pE (chC i) u)))) = some (st2, N) := hp
      obtain ⟨st1, L1, L2, a1, a2, a3⟩ := pB_some hp
      obtain ⟨sta, La, Lb, b1, b2, b3⟩ := pH_B a2
      have pm := pH_M b1
      obtain ⟨st3, L3, Lc, c1, c2, c3⟩ := pH_B b2
      obtain ⟨std, Ld, Le, d1, d2, d3⟩ := pH_B c2
      have pm2 := pH_M d1
      have p := pH_E d2
      refine ⟨st1, st3, L1, L3, by rw [pH_good z]; exact a1, by rw [← pm.1]; exact c1, by rw [p.1, pm2.1], fun y => ?_⟩
      rw [p.1] at y
      rw [a3, b3, c3, d3, pm.2, pm2.2, p.2.1 y, List.nil_append, List.nil_append]
    · have b := pH_bad z hp
      have bad : ∀ f : Int → PR1, pH f st = some (st, []) := fun f => by unfold pH; rw [if_neg z]
      have mb' : ∀ c, msS t c st = st := fun c => by unfold msS; rw [if_neg z]
      refine ⟨st, st, [], [], bad _, by rw [mb']; exact bad _, by rw [mb', b.1], fun y => ?_⟩
      rw [b.1] at y
      exact absurd y z
  obtain ⟨st1, st3, L1, L3, p1, p3, p2, pN⟩ := hdec
  refine S_X4_chosenPart_48 ?_
  have A := S6 s st st1 L L1 hb p1 hc
  rw [show e + 4 + 8 * h + 7 = e + 8 * h + 11 by omega] at A
  refine A.imp (fun _ s2 n2 => (sg 44 n2.1).imp (fun _ s4 n4 => ?_))
  have b1 : st1.1 = 0 → o ≤ 7 ∧ ((L ++ L1).length : Int) < st1.2 := fun y => by have := bd_go hc hb p1 y; exact ⟨this.2.1, this.2.2.1⟩
  have bm : (msS t 44 st1).1 = 0 → o ≤ 7 ∧ ((L ++ L1).length : Int) < (msS t 44 st1).2 := fun y => by
    have m := ms_gd n2.1 y
    have := b1 m.1
    exact ⟨this.1, by omega⟩
  have B := S6 s4 (msS t 44 st1) st3 (L ++ L1) L3 bm p3 n4.1
  rw [show e + 4 + 8 * h + 7 = e + 8 * h + 11 by omega] at B
  refine B.imp (fun _ s6 n6 s7 e7 => ?_)
  have b3 : st3.1 = 0 → ((L ++ L1 ++ L3).length : Int) < st3.2 := fun y => (bd_go n4.1 bm p3 y).2.2.1
  have c7 := n6.1.up4 (o2 := o - 1) e7 (fun y => by
    have q := (n6.1.2.2.2.2.2.2.2 y).1
    rw [q]
    have := (bd_go n4.1 bm p3 y).2.1
    exact w32_of (by omega) (by omega))
  refine (sg 41 c7.1).imp (fun _ s9 n9 => ?_)
  rw [n9.1.2.2.1]
  have bz : (msS t 41 st3).1 = 0 → ((L ++ L1 ++ L3).length : Int) < 1600 := fun y => by
    have m := ms_gd c7.1 y
    have := b3 m.1
    have := n16 c7.1 m.1
    omega
  have C := K_emit (g := g) (e := e + 8 * h + 10) (c := chC i) n9.1 (fun u => by have := bz u; omega)
  rw [show e + 8 * h + 10 + 1 = e + 8 * h + 11 by omega] at C
  refine C.imp (fun _ s11 n11 => hq s11 ?_ (((((n2.2.tr n4.2).tr n6.2).tr c7.2).tr n9.2).tr n11.2))
  rw [p2]
  by_cases u : (msS t 41 st3).1 = 0
  · rw [pN (by rw [p2]; exact u), ← List.append_assoc, ← List.append_assoc]
    exact n11.1
  · exact n11.1.anyL u
theorem cc_go (h0 : CMw g t fo mb k 0 M_X4_testPart 11) (ht : ∀ i, CCt g t fo mb k i) (i : Nat) (hi : i ≤ 2) : CCh g t fo mb (k + 1) i := by
  intro e h o s st st2 L N oh o0 hb hp hc
  have I : ∀ {s : Sg} {st : Int × Int} {L : List Int}, CFm s t fo mb o st L → Mw g (e + 8 * h + 3) M_X6_isSign [(15, 47), (0, 40)] s (Ex (if st.1 = 0 ∧ kdT t st.2 = 3 ∧ vlT t st.2 = 40 then 1 else 0) s) := fun hc => K_is0 (e := e + 8 * h + 2) hc
  have A : ∀ {s : Sg} {st : Int × Int} {L : List Int}, CFm s t fo mb o st L → Mw g (e + 8 * h + 3) M_X6_advance [(15, 47)] s (fun _ s' => CFm s' t fo mb o (avS t st) L ∧ Ff fo s s') := fun hc => K_adv (e := e + 8 * h) hc
  have F : ∀ {s : Sg} {st : Int × Int} {L : List Int}, CFm s t fo mb o st L → Mw g (e + 8 * h + 3) M_X6_failHere [(15, 47), (0, 1)] s (fun _ s' => CFm s' t fo mb o (flS1 1 st) L ∧ Ff fo s s') := fun hc => K_fh (e := e + 8 * h + 1) hc (by decide)
  by_cases z : st.1 = 0
  · rw [pH_good z] at hp
    obtain ⟨b1, b2⟩ := hb z
    -- the two shapes as one
    have hp' : ∃ f : Int → PR1, (i ≠ 2 → f = (fun y => pF t mb k (i + 14) (o + 1) y)) ∧ (i = 2 → f = (fun y => pB (pF t mb k 0 (o + 1) y) (fun z => pB (pM t 44 z) (fun u => pF t mb k 16 (o + 1) u)))) ∧ pB (pV t st.2) (fun x => if kdT t x = 3 ∧ vlT t x = 40 then pB (pD t o x) f else pX 1 x) = some (st2, N) := by
      rcases (show i = 0 ∨ i = 1 ∨ i = 2 by omega) with y | y | y <;> subst y
      · exact ⟨_, fun _ => rfl, fun y => by omega, hp⟩
      · exact ⟨_, fun _ => rfl, fun y => by omega, hp⟩
      · exact ⟨_, fun y => absurd rfl y, fun _ => rfl, hp⟩
    obtain ⟨f, f1, f2, hp⟩ := hp'
    obtain ⟨st1, L1, L2, a1, a2, a3⟩ := pB_some hp
    have e1 := some2 a1
    have i0 := hc.in z
    have av := av_in i0.1.1 i0.1.2
    refine S_X4_chosenPart (fun _ => (A hc).imp (fun _ s2 n2 => ?_))
    have ea : avS t st = st1 := by unfold avS; rw [if_pos z]; exact e1.1.symm
    rw [ea] at n2
    have hN : N = L2 := by rw [a3, e1.2, List.nil_append]
    refine Mw.ex (I n2.1) ⟨fun q => ?_, fun q => ?_⟩
    · have yq : st1.1 = 0 ∧ kdT t st1.2 = 3 ∧ vlT t st1.2 = 40 := Classical.byContradiction (fun u => q (if_neg u))
      rw [pH_good yq.1] at a2
      have a2 : (if kdT t st1.2 = 3 ∧ vlT t st1.2 = 40 then pB (pD t o st1.2) f else pX 1 st1.2) = some (st2, L2) := a2
      rw [if_pos yq.2] at a2
      obtain ⟨st3, L3, L4, c1, c2, c3⟩ := pB_some a2
      have pd := pH_D (st := st1) (by rw [pH_good yq.1]; exact c1)
      have D := K_deep (g := g) (e := e + 8 * h - 1) n2.1 (fun _ => ⟨o0, b1⟩)
      rw [show e + 8 * h - 1 + 4 = e + 8 * h + 3 by omega] at D
      refine D.imp (fun _ s6 n6 => ?_)
      rw [← pd.1] at n6
      have le1 : st.2 ≤ st1.2 := by have := yq.1; rw [e1.1] at this ⊢; exact (av.2.2 this).1
      have b3 : st3.1 = 0 → o + 1 ≤ 7 ∧ (L.length : Int) < st3.2 := fun y => by
        rw [pd.1] at y ⊢
        have := dp_gd n2.1 (fun _ => by omega) y
        exact ⟨by omega, by omega⟩
      have fin : ∀ (s' : Sg) (st4 : Int × Int) (L5 L6 : List Int) (j : Nat), (j = i) → CFm s' t fo mb (o + 1) st4 (L ++ L5) → (st4.1 = 0 → o + 1 ≤ 7 ∧ ((L ++ L5).length : Int) < st4.2) → pH (pF t mb k (j + 14) (o + 1)) st4 = some (st2, L6) → (st2.1 = 0 → N = L5 ++ L6) → Ff fo s s' → P_X4_chosenPart_48 g (e + 8 * h + 3) (PC s t fo mb o st2 (L ++ N)) s' (chC i) := fun s' st4 L5 L6 j hj c4 b4 p4 hN4 f4 => by
        subst hj
        have := ht j e (h - 1) (o + 1) s' st4 st2 (L ++ L5) L6 (PC s t fo mb o st2 (L ++ N)) (by omega) (by omega) b4 p4 c4 (fun s'' c5 f5 => ?_)
        · rw [show e + 8 * (h - 1) + 11 = e + 8 * h + 3 by omega] at this
          exact this
        · refine ⟨?_, f4.tr f5⟩
          rw [show o + 1 - 1 = o by omega] at c5
          by_cases u : st2.1 = 0
          · rw [hN4 u, ← List.append_assoc]; exact c5
          · exact c5.anyL u
      refine ⟨fun y => ?_, fun y => ?_⟩
      · have i2 : i ≠ 2 := fun u => y (by rw [u]; rfl)
        rw [f1 i2] at c2
        refine fin s6 st3 [] L4 i rfl (by rw [List.append_nil]; exact n6.1) (fun u => by rw [List.append_nil]; exact b3 u) c2 (fun _ => ?_) (n2.2.tr n6.2)
        rw [hN, c3, pd.2]
      · have i2 : i = 2 := by
          rcases (show i = 0 ∨ i = 1 ∨ i = 2 by omega) with u | u | u
          · rw [u] at y; exact absurd y (by decide)
          · rw [u] at y; exact absurd y (by decide)
          · exact u
        rw [f2 i2] at c2
        obtain ⟨st4, L5, L6, d1, d2, d3⟩ := pH_B c2
        obtain ⟨st5, L7, L8, m1, m2, m3⟩ := pH_B d2
        have pm := pH_M m1
        have T := h0 e (h - 1) (o + 1) s6 st3 st4 L L5 (by omega) (by omega) b3 d1 n6.1
        rw [show e + 8 * (h - 1) + 11 = e + 8 * h + 3 by omega] at T
        refine T.imp (fun _ s8 n8 => ?_)
        have S := K_sign (g := g) (e := e + 8 * h - 1) (c := 44) n8.1
        rw [show e + 8 * h - 1 + 4 = e + 8 * h + 3 by omega] at S
        refine S.imp (fun _ s10 n10 => ?_)
        rw [← pm.1] at n10
        refine fin s10 st5 L5 L8 2 i2.symm n10.1 (fun u => ?_) m2 (fun _ => ?_) (((n2.2.tr n6.2).tr n8.2).tr n10.2)
        · rw [pm.1] at u ⊢
          have mg := ms_gd n8.1 u
          have := bd_go n6.1 b3 d1 mg.1
          exact ⟨this.2.1, by omega⟩
        · rw [hN, c3, pd.2, d3, m3, pm.2, List.nil_append, List.nil_append]
    · have nq : ¬ (st1.1 = 0 ∧ kdT t st1.2 = 3 ∧ vlT t st1.2 = 40) := fun u => by rw [if_pos u] at q; omega
      refine (F n2.1).imp (fun _ s12 n12 => ⟨?_, n2.2.tr n12.2⟩)
      by_cases u : st1.1 = 0
      · rw [pH_good u] at a2
        have a2 : (if kdT t st1.2 = 3 ∧ vlT t st1.2 = 40 then pB (pD t o st1.2) f else pX 1 st1.2) = some (st2, L2) := a2
        rw [if_neg (fun w => nq ⟨u, w⟩)] at a2
        have e2 := some2 a2
        have ef : flS1 1 st1 = st2 := by unfold flS1; rw [if_pos u]; exact e2.1.symm
        rw [ef] at n12
        exact n12.1.anyL (by rw [e2.1]; show ¬ ((1 : Int) = 0); decide)
      · have b := pH_bad u a2
        rw [fl_bad u] at n12
        rw [b.1]
        exact n12.1.anyL u
  · have b := pH_bad z hp
    rw [b.1, b.2, List.append_nil]
    refine S_X4_chosenPart (fun _ => (A hc).imp (fun _ s2 n2 => ?_))
    rw [av_bad z] at n2
    refine Mw.ex (I n2.1) ⟨fun q => absurd (if_neg (fun u => z u.1)) q, fun _ => (F n2.1).imp (fun _ s12 n12 => ?_)⟩
    rw [fl_bad z] at n12
    exact ⟨n12.1, n2.2.tr n12.2⟩
theorem cm_single (hm : mb = 0 ∨ mb = 1) (h6 : CMw g t fo mb k 6 M_X4_sumPart 7) (hch : ∀ i, i ≤ 2 → CCh g t fo mb k i) : CMw g t fo mb (k + 1) 10 M_X4_singlePart 5 := by
  intro e h o s st st2 L N oh o0 hb hp hc
  by_cases z : st.1 = 0
  · rw [pH_good z] at hp
    obtain ⟨b1, b2⟩ := hb z
    have hp : (if kdT t st.2 = 2 then pB (pE (40 + vlT t st.2) st.2) (fun x => pV t x) else if kdT t st.2 = 3 ∧ vlT t st.2 = 40 then pB (pD t o st.2) (fun x => pB (pF t mb k 6 (o + 1) x) (fun y => pM t 41 y)) else if wdT t st.2 = 29 then pF t mb k 11 o st.2 else if wdT t st.2 = 30 then pF t mb k 12 o st.2 else if wdT t st.2 = 24 then pF t mb k 13 o st.2 else if fcT t mb st.2 = -1 then pX 1 st.2 else pB (pE (20 + fcT t mb st.2) st.2) (fun x => pV t x)) = some (st2, N) := hp
    obtain ⟨g1, g2, g3⟩ := hc.gd z
    have i0 := hc.in z
    have n6 := hc.1.2.1
    have av := av_in i0.1.1 i0.1.2
    have EV : ∀ (d : Nat) (c : Int), pB (pE c st.2) (fun x => pV t x) = some (st2, N) → Mw g (e + d + 3) M_X2_add [(11, fo), (0, c)] s (fun _ s19 => Mw g (e + d + 3) M_X6_advance [(15, 47)] s19 (fun _ s21 => PC s t fo mb o st2 (L ++ N) 0 s21)) := fun d c hp => by
      obtain ⟨st1, L1, L2, a1, a2, a3⟩ := pB_some hp
      have e1 := some2 a1
      rw [e1.1] at a2
      have pv := pH_V a2
      refine (K_emit (e := e + d + 2) (c := c) hc (fun _ => by omega)).imp (fun _ s19 n => (K_adv (e := e + d) n.1).imp (fun _ s21 n2 => ⟨?_, n.2.tr n2.2⟩))
      have ea : avS t st = st2 := by rw [pv.1, st_0 z]
      rw [ea] at n2
      rw [a3, e1.2, pv.2, List.append_nil]
      exact n2.1
    refine S_X4_singlePart ?_
    rw [g1, g2]
    refine ⟨fun y => ?_, fun y => ?_⟩
    · rw [if_neg y] at hp
      refine Mw.ex (K_is0 (e := e + 8 * h + 3) hc) ⟨fun x => ?_, fun x => ?_⟩
      · have nx : ¬ (kdT t st.2 = 3 ∧ vlT t st.2 = 40) := fun u => by rw [if_pos ⟨z, u⟩] at x; omega
        rw [if_neg nx] at hp
        rw [g3]
        refine ⟨fun w => ⟨fun w2 => ⟨fun w3 => ?_, fun w3 => ?_⟩, fun w2 => ?_⟩, fun w => ?_⟩
        · rw [if_neg w, if_neg w2, if_neg w3] at hp
          refine S_X4_factWord (fun _ => ?_)
          have f22 : fcT t mb st.2 = -1 → P_X4_factWord_22 g (e + 8 * h + 3) (PC s t fo mb o st2 (L ++ N)) s := fun u => by
            rw [if_pos u] at hp
            have e2 := some2 hp
            refine S_X4_factWord_22 ((K_fh (e := e + 8 * h + 1) (k := 1) hc (by decide)).imp (fun _ s4 n => ⟨?_, n.2⟩))
            have ef : flS1 1 st = st2 := by unfold flS1; rw [if_pos z]; exact e2.1.symm
            rw [ef] at n
            exact n.1.anyL (by rw [e2.1]; show ¬ ((1 : Int) = 0); decide)
          have f31 : ∀ v, v = fcT t mb st.2 → fcT t mb st.2 ≠ -1 → P_X4_factWord_31 g (e + 8 * h + 3) (PC s t fo mb o st2 (L ++ N)) s v := fun v hv u => by
            rw [if_neg u] at hp
            have fb : fcT t mb st.2 ≤ 7 ∧ -1 ≤ fcT t mb st.2 := by
              have wb := wd_bd t st.2
              have ch : ∀ i : Nat, i < 32 → -1 ≤ enF.getD i 0 ∧ enF.getD i 0 ≤ 7 := by decide +kernel
              have := ch (wdT t st.2).toNat (by omega)
              unfold fcT
              split
              · omega
              · omega
            refine S_X4_factWord_31 ?_
            rw [hc.2.2.1, hv, w32_of (by omega) (by omega)]
            exact EV (8 * h) _ hp
          have hmb := hc.2.2.2.1
          refine ⟨fun u => f22 ?_, fun u => ⟨fun v => f31 _ ?_ ?_, fun v => ⟨fun x => f31 _ ?_ ?_, fun x => f22 ?_⟩⟩⟩
          · unfold fcT; split
            · rfl
            · exact u
          · rw [hmb] at v; unfold fcT; rw [if_neg (fun q => v q.1)]
          · rw [hmb] at v; unfold fcT; rw [if_neg (fun q => v q.1)]; exact u
          · unfold fcT; rw [if_neg (fun q => by omega)]
          · unfold fcT; rw [if_neg (fun q => by omega)]; exact u
          · rw [hmb] at v; unfold fcT; rw [if_pos ⟨v, by omega⟩]
        · rw [if_neg w, if_neg w2, if_pos w3] at hp
          exact hch 2 (by decide) e h o s st st2 L N oh o0 hb (by rw [pH_good z]; exact hp) hc
        · rw [if_neg w, if_pos w2] at hp
          exact hch 1 (by decide) e h o s st st2 L N oh o0 hb (by rw [pH_good z]; exact hp) hc
        · rw [if_pos w] at hp
          exact hch 0 (by decide) e h o s st st2 L N oh o0 hb (by rw [pH_good z]; exact hp) hc
      · have yx : st.1 = 0 ∧ kdT t st.2 = 3 ∧ vlT t st.2 = 40 := Classical.byContradiction (fun u => x (if_neg u))
        rw [if_pos yx.2] at hp
        refine cd_go (d := 8 * h + 4) (Q := fun _ s15 => Mw g (e + (8 * h + 4)) M_X4_sign [(13, 46), (0, 41)] s15 (fun _ s17 => PC s t fo mb o st2 (L ++ N) 0 s17)) h6 oh (by omega) o0 z b1 b2 (by omega) hc hp (by omega) (by omega) (fun s' s'' st3 L3 L4 c3 f3 _ m2 m3 b3 => ?_)
        have pm := pH_M m2
        have S := K_sign (g := g) (e := e + 8 * h) (c := 41) c3
        rw [show e + 8 * h + 4 = e + (8 * h + 4) by omega] at S
        refine S.imp (fun _ s15 n => ⟨?_, f3.tr n.2⟩)
        rw [m3, pm.2, List.append_nil, pm.1]
        exact n.1
    · rw [if_pos y] at hp
      have vb : 0 ≤ vlT t st.2 ∧ vlT t st.2 ≤ 9999 := by
        have l4 := lx_D y i0.2 i0.1.1
        have sp := lnD_spec (t := t) (a := st.2) i0.1.2
        have nb := nu_bd (B := t.2) (a := st.2) (lnD t st.2) l4 (fun k hk => isD_b (sp.2.1 k hk))
        have : (10 : Int) ^ (lnD t st.2) ≤ 10 ^ 4 := by
          rcases (show lnD t st.2 = 0 ∨ lnD t st.2 = 1 ∨ lnD t st.2 = 2 ∨ lnD t st.2 = 3 ∨ lnD t st.2 = 4 by omega) with z | z | z | z | z <;> rw [z] <;> decide
        have t4 : (10 : Int) ^ 4 = 10000 := by decide
        unfold vlT
        rw [y]
        show 0 ≤ nuF t.2 st.2 (lnD t st.2) ∧ nuF t.2 st.2 (lnD t st.2) ≤ 9999
        omega
      rw [hc.2.2.1, w32_of (show _ ≤ 40 + vlT t st.2 by omega) (by omega)]
      have := EV (8 * h + 1) _ hp
      rw [show e + (8 * h + 1) + 3 = e + 8 * h + 4 by omega] at this
      exact this
  · have b := pH_bad z hp
    rw [b.1, b.2, List.append_nil]
    exact X_single (e := e + 8 * h) hc z
/-- without fuel nothing is told of good states, and behind a fault all is known -/
theorem cm_zero {nt r : Nat} {M : MI} (hX : ∀ (e : Nat) (o : Int) (s : Sg) (st : Int × Int) (L : List Int), CFm s t fo mb o st L → st.1 ≠ 0 → Mw g (e + r) M [(13, 46)] s (PC s t fo mb o st L)) : CMw g t fo mb 0 nt M r := by
  intro e h o s st st2 L N oh o0 hb hp hc
  by_cases z : st.1 = 0
  · rw [pH_good z] at hp; cases hp
  · have b := pH_bad z hp
    rw [b.1, b.2, List.append_nil]
    exact hX (e + 8 * h) o s st L hc z
theorem C_desc (hm : mb = 0 ∨ mb = 1) : ∀ k : Nat, (CMw g t fo mb k 0 M_X4_testPart 11 ∧ CMw g t fo mb k 2 M_X4_bothPart 10 ∧ CMw g t fo mb k 4 M_X4_factPart 9 ∧ CMw g t fo mb k 5 M_X4_comparePart 8 ∧ CMw g t fo mb k 6 M_X4_sumPart 7 ∧ CMw g t fo mb k 8 M_X4_productPart 6 ∧ CMw g t fo mb k 10 M_X4_singlePart 5) ∧
    (CLp g t fo mb k 1 P_X4_testPart_6 10 ∧ CLp g t fo mb k 3 P_X4_bothPart_6 9 ∧ CLp g t fo mb k 7 P_X4_sumPart_6 6 ∧ CLp g t fo mb k 9 P_X4_productPart_6 5) ∧ (∀ i, i ≤ 2 → CCh g t fo mb k i) ∧ ∀ i, CCt g t fo mb k i := by
  intro k
  induction k with
  | zero =>
    refine ⟨⟨cm_zero (fun e o s st L hc z => X_test hc z), cm_zero (fun e o s st L hc z => X_both hc z), cm_zero (fun e o s st L hc z => X_fact hc z), cm_zero (fun e o s st L hc z => X_cmp hc z), cm_zero (fun e o s st L hc z => X_sum hc z), cm_zero (fun e o s st L hc z => X_prod hc z), cm_zero (fun e o s st L hc z => X_single hc z)⟩, ⟨?_, ?_, ?_, ?_⟩, ?_, ?_⟩
    · intro e h o v s st st2 L N Q oh o0 hb v0 v1 hp hc hq
      by_cases z : st.1 = 0
      · rw [pH_good z] at hp; cases hp
      · have b := pH_bad z hp
        have fin : Q 0 s := hq s (by rw [b.1, b.2, List.append_nil]; exact hc) Ff.rf
        refine S_X4_testPart_6 ?_
        rw [(hc.bad z).2]
        exact ⟨fun _ => fin, fun _ => ⟨fun _ => fin, fun q => absurd q (by decide)⟩⟩
    · intro e h o v s st st2 L N Q oh o0 hb v0 v1 hp hc hq
      by_cases z : st.1 = 0
      · rw [pH_good z] at hp; cases hp
      · have b := pH_bad z hp
        have fin : Q 0 s := hq s (by rw [b.1, b.2, List.append_nil]; exact hc) Ff.rf
        refine S_X4_bothPart_6 ?_
        rw [(hc.bad z).2]
        exact ⟨fun _ => fin, fun _ => ⟨fun _ => fin, fun q => absurd q (by decide)⟩⟩
    · intro e h o v s st st2 L N Q oh o0 hb v0 v1 hp hc hq
      have I : ∀ c, Mw g (e + 8 * h + 6) M_X6_isSign [(15, 47), (0, c)] s (Ex (if st.1 = 0 ∧ kdT t st.2 = 3 ∧ vlT t st.2 = c then 1 else 0) s) := fun c => K_is0 (e := e + 8 * h + 5) hc
      by_cases z : st.1 = 0
      · rw [pH_good z] at hp; cases hp
      · have b := pH_bad z hp
        have fin : Q 0 s := hq s (by rw [b.1, b.2, List.append_nil]; exact hc) Ff.rf
        refine S_X4_sumPart_6 ⟨fun _ => fin, fun _ => Mw.ex (I 43) ⟨fun q => absurd (if_neg (fun u => z u.1)) q, fun _ => Mw.ex (I 45) ⟨fun _ => fin, fun q => absurd (if_neg (fun u => z u.1)) q⟩⟩⟩
    · intro e h o v s st st2 L N Q oh o0 hb v0 v1 hp hc hq
      have I : ∀ c, Mw g (e + 8 * h + 5) M_X6_isSign [(15, 47), (0, c)] s (Ex (if st.1 = 0 ∧ kdT t st.2 = 3 ∧ vlT t st.2 = c then 1 else 0) s) := fun c => K_is0 (e := e + 8 * h + 4) hc
      by_cases z : st.1 = 0
      · rw [pH_good z] at hp; cases hp
      · have b := pH_bad z hp
        have fin : Q 0 s := hq s (by rw [b.1, b.2, List.append_nil]; exact hc) Ff.rf
        have no : ∀ c, (if st.1 = 0 ∧ kdT t st.2 = 3 ∧ vlT t st.2 = c then (1 : Int) else 0) = 0 := fun c => if_neg (fun u => z u.1)
        refine S_X4_productPart_6 ⟨fun _ => fin, fun _ => Mw.ex (I 42) ⟨fun _ => Mw.ex (I 47) ⟨fun _ => Mw.ex (I 37) ⟨fun _ => S_X4_productPart_62 ⟨fun q => absurd rfl q, fun _ => fin⟩, fun q => absurd (no _) q⟩, fun q => absurd (no _) q⟩, fun q => absurd (no _) q⟩⟩
    · intro i _ e h o s st st2 L N oh o0 hb hp hc
      by_cases z : st.1 = 0
      · rw [pH_good z] at hp; cases hp
      · have b := pH_bad z hp
        rw [b.1, b.2, List.append_nil]
        refine S_X4_chosenPart (fun _ => (K_adv (e := e + 8 * h) hc).imp (fun _ s2 n2 => ?_))
        rw [av_bad z] at n2
        refine Mw.ex (K_is0 (e := e + 8 * h + 2) n2.1) ⟨fun q => absurd (if_neg (fun u => z u.1)) q, fun _ => (K_fh (e := e + 8 * h + 1) n2.1 (by decide)).imp (fun _ s12 n12 => ?_)⟩
        rw [fl_bad z] at n12
        exact ⟨n12.1, n2.2.tr n12.2⟩
    · intro i e h o s st st2 L N Q oh o1 hb hp hc hq
      by_cases z : st.1 = 0
      · rw [pH_good z] at hp; cases hp
      · have b := pH_bad z hp
        have ms : ∀ c, msS t c st = st := fun c => by unfold msS; rw [if_neg z]
        refine S_X4_chosenPart_48 ((X_sum (e := e + 8 * h + 4) hc z).imp (fun _ s2 n2 => (K_sign (e := e + 8 * h + 7) n2.1).imp (fun _ s4 n4 => ?_)))
        rw [ms] at n4
        refine (X_sum (e := e + 8 * h + 4) n4.1 z).imp (fun _ s6 n6 s7 e7 => ?_)
        have c7 := n6.1.up4 (o2 := o - 1) e7 (fun y => absurd y z)
        refine (K_sign (e := e + 8 * h + 7) c7.1).imp (fun _ s9 n9 => ?_)
        rw [ms] at n9
        rw [n9.1.2.2.1]
        refine (K_emit (e := e + 8 * h + 10) n9.1 (fun y => absurd y z)).imp (fun _ s11 n11 => hq s11 ?_ (((((n2.2.tr n4.2).tr n6.2).tr c7.2).tr n9.2).tr n11.2))
        rw [b.1]
        exact n11.1.anyL z
  | succ k ih =>
    obtain ⟨⟨i0, i2, i4, i5, i6, i8, i10⟩, ⟨l1, l3, l7, l9⟩, ic, it⟩ := ih
    exact ⟨⟨cm_test i2 l1, cm_both i4 l3, cm_fact i4 i0 i5, cm_cmp i6, cm_sum i8 l7, cm_prod i10 l9, cm_single hm i6 ic⟩, ⟨cl_test i2 l1, cl_both i4 l3, cl_sum i8 l7, cl_prod i10 l9⟩, fun i hi => cc_go i0 it i hi, fun i => ct_go i6 i⟩
end CFORM4
