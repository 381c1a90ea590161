/-! the descent and the stacks: brackets -/
section SIM3
variable {g : GT} {e : Nat} {s : Sg} {t : Tp} {ib mb c0 kd ph bg bf pr op opn a l o : Int} {f : Nat} {st : Int × Int} {O R E : List Int} {Q : Int → Sg → Prop}
theorem na_of {a : Int} (h1 : muT t a = -1) (h2 : adT t a = -1) : ¬ arT t a := fun u => u.elim (fun v => v h2) (fun v => v h1)
theorem ms_some {c : Int} {st st2 : Int × Int} {M : List Int} (z : st.1 = 0) (h : pH (pM t c) st = some (st2, M)) : ((kdT t st.2 = 3 ∧ vlT t st.2 = c) → st2 = avT t st.2) ∧ (¬ (kdT t st.2 = 3 ∧ vlT t st.2 = c) → st2 = (1, st.2)) ∧ M = [] := by
  have q := pH_M h
  unfold msS at q
  rw [if_pos z] at q
  exact ⟨fun y => by rw [if_pos y] at q; exact q.1, fun y => by rw [if_neg y] at q; exact q.1, q.2⟩
/-- a frame ends: what the frame below gets -/
theorem sim_cl {s1 : Sg} {c kd1 ph1 bf1 pr1 b o1 : Int} {st1 st2 : Int × Int} {O1 E1 E2 : List Int} {N : List Int} (h1 : RCf s1 t ib mb c0 f kd1 ph1 0 bf1 pr1 0 o1 st1 O1 E1) (hx : Fx ib c0 (f + 1) (bf1 + O1.length) s1 s)
    (h : RCf s t ib mb c0 (f + 1) kd ph 0 (bf1 + O1.length) pr 1 (o + 1 + ntN R) (0, b) R E) (hf : f < 15) (o0 : 0 ≤ o) (ob : o + 1 + ntN R ≤ 7) (ha : 2 ≤ ph ∨ ¬ arT t b) (hw : tst kd → ph ≠ 0 ∧ wdT t b ≠ 26 ∧ wdT t b ≠ 25) (hk : kd = 2 ∨ kd = 4 ∨ kd = 5) (hp : kd = 4 → 36 ≤ pr ∧ pr ≤ 44) (rp : rP 0 R) (lb : bf1 + O1.length + R.length < 500) (hcb : c0 + E.length + R.length < 1600)
    (hc : c = if kd = 5 then 93 else 41) (hm : pH (pM t c) (0, b) = some (st2, N)) (he : E2 = E ++ R.reverse ++ (if kd = 4 then [pr - 30] else []))
    (hq : st2.1 = 0 → ∀ s2, RCf s2 t ib mb c0 f kd1 (if kd = 5 then 2 else ph1) 0 bf1 pr1 1 o st2 O1 E2 → Fx ib c0 f bf1 s1 s2 → P_X13_reads_43 g (e + 4) Q s2 1)
    (hb : st2.1 ≠ 0 → ∀ s2, RRs s2 t st2 → Fx ib c0 f bf1 s1 s2 → Q 0 s2) : P_X13_reads_43 g (e + 4) Q s 1 := by
  have m := ms_some (t := t) rfl hm
  have n0 := ntN_0 R
  have hj : JOk c0 (bf1 + O1.length) (o + 1 + ntN R) 1 [] R E := ⟨fun c hc => absurd hc (List.not_mem_nil), fun c hc => ⟨(rk_bd c).1, (rp c hc).2⟩, fun c hc => absurd hc (List.not_mem_nil), by omega, by show bf1 + (O1.length : Int) + ((0 : Nat) : Int) + R.length < 500; omega, by omega, by omega⟩
  refine rg_close h1 hx h hf ha hw hk hj (by omega) hp hcb (fun y s2 c2 f2 => ?_) (fun y s2 r2 f2 => ?_)
  · rw [← hc] at y
    have e2 := m.1 y
    rw [show o + 1 + ntN R - ntN R - 1 = o by omega, ← he] at c2
    have e2' : st2 = avT t b := e2
    rw [← e2'] at c2
    by_cases z : st2.1 = 0
    · exact hq z s2 c2 f2
    · exact rl_bad c2 z (fun s3 r3 f3 => hb z s3 r3 (f2.tr f3))
  · rw [← hc] at y
    have e2 : st2 = (1, b) := m.2.1 y
    exact hb (by rw [e2]; show ¬ (1 : Int) = 0; decide) s2 (by rw [e2]; exact r2) f2
theorem dp_some {o a : Int} {st2 : Int × Int} {M : List Int} (h : pD t o a = some (st2, M)) : (o ≤ 6 → st2 = avT t a) ∧ (¬ o ≤ 6 → st2 = (5, a)) ∧ M = [] := by
  unfold pD at h
  by_cases y : 7 ≤ o
  · rw [if_pos y] at h
    have e := some2 h
    exact ⟨fun z => by omega, fun _ => e.1, e.2⟩
  · rw [if_neg y] at h
    have e := some2 h
    exact ⟨fun _ => e.1, fun z => by omega, e.2⟩
theorem sim_4 {k : Nat} (h4 : SmA g t mb k 4) (h0 : SmA g t mb k 0) (h5 : SmA g t mb k 5) : SmA g t mb (k + 1) 4 := by
  intro e s ib c0 f kd ph bg bf pr o a O E st2 N Q h ha hb hp hk
  have hp : (if wdT t a = 27 then pB (pD t o a) (fun x => pB (pF t mb k 4 (o + 1) x) (fun y => pE 13 y)) else if kdT t a = 3 ∧ vlT t a = 91 then pB (pD t o a) (fun x => pB (pF t mb k 0 (o + 1) x) (fun y => pM t 93 y)) else if wdT t a = 28 then pB (pV t a) (fun x => pE 41 x) else pF t mb k 5 o a) = some (st2, N) := hp
  obtain ⟨ab, ax, tb, c00, bf0⟩ := h.ab
  obtain ⟨ht, hph, hbg, hsp⟩ := ha.1 (by decide)
  subst hph
  subst hbg
  have b3 := hb.2.2.1
  have b4 := hb.2.2.2
  have f0 := hb.1
  obtain ⟨l0, l4, l5, l6, _, k0, k4, k5, k6, _, r0, r4, r5, r6, _⟩ := lv_all
  have v := av_in (t := t) ab.1 ab.2
  by_cases y : wdT t a = 27
  · rw [if_pos y] at hp
    obtain ⟨st1, L1, L2, p1, p2, p3⟩ := pB_some hp
    have d := dp_some p1
    have kn : kdT t a ≠ 0 := kd_w (by omega)
    refine ro_not h (by omega) ht (by decide) y (by omega) (by omega) (fun o6 s2 c2 f2 => ?_) (fun o7 s2 r2 f2 => ?_)
    · rw [← d.1 o6] at c2
      by_cases z : st1.1 = 0
      · have z' := z
        rw [d.1 o6] at z'
        have va := (v.2.2 z').2 kn
        rw [← d.1 o6] at va
        rw [pH_good z] at p2
        rw [p_eta z] at c2
        obtain ⟨st3, L3, L4, q1, q2, q3⟩ := pB_some p2
        have x := pH_E q2
        rw [x.1] at hk
        have lO1 : ((O ++ [13]).length : Int) = O.length + 1 := by rw [List.length_append]; rfl
        refine h4 c2 ⟨fun _ => ⟨ht, rfl, rfl, fun w => absurd w (by decide)⟩, fun w => absurd w (by decide)⟩ ⟨by omega, fun c hc => ?_, by omega, by omega⟩ q1 ⟨fun z5 s5 ph5 M5 R5 c5 f5 em5 rp5 lb5 ob5 ep5 => ?_, fun z5 s5 r5 f5 => hk.2 z5 s5 r5 (f2.tr f5)⟩
        · rcases List.mem_append.1 hc with u | u
          · exact hb.2.1 c u
          · rw [List.mem_singleton.1 u]; exact ⟨by decide, ⟨by decide, by decide⟩⟩
        · have en : ntN (13 :: R5) = 1 + ntN R5 := rfl
          refine hk.1 z5 s5 ph5 M5 (13 :: R5) ?_ (f2.tr f5) ?_ (fun c hc => ?_) (by rw [List.length_cons]; omega) (by rw [en]; omega) ⟨fun _ => ⟨(ep5.1 (by decide)).1, (ep5.1 (by decide)).2.1, fun w => absurd w (by decide), fun w => absurd w (by decide)⟩, fun w => absurd w (by decide)⟩
          · rw [en, show O ++ (13 :: R5) = O ++ [13] ++ R5 by rw [List.append_assoc]; rfl, show o + (1 + ntN R5) = o + 1 + ntN R5 by omega]
            exact c5
          · rw [p3, q3, x.2.1 z5, d.2.2, ← em5, List.reverse_cons]
            simp only [List.append_assoc, List.nil_append]
          · rcases List.mem_cons.1 hc with u | u
            · rw [u]; exact ⟨by decide, ⟨by decide, by decide⟩⟩
            · exact rp5 c u
      · have b := pH_bad z p2
        rw [b.1] at hk
        exact rl_bad c2 z (fun s3 r3 f3 => hk.2 z s3 r3 (f2.tr f3))
    · have e1 := d.2.1 (by omega)
      have z : st1.1 ≠ 0 := by rw [e1]; show ¬ (5 : Int) = 0; decide
      have b := pH_bad z p2
      rw [b.1] at hk
      exact hk.2 z s2 (by rw [e1]; exact r2) f2
  · rw [if_neg y] at hp
    by_cases x : kdT t a = 3 ∧ vlT t a = 91
    · rw [if_pos x] at hp
      obtain ⟨st1, L1, L2, p1, p2, p3⟩ := pB_some hp
      have d := dp_some p1
      refine ro_brk h (by omega) ht (by decide) x (by omega) (by omega) (fun o6 s1 s2 c1 f1 c2' f2 => ?_) (fun o7 s2 r2 f2 => ?_)
      · obtain ⟨p, c2⟩ := c2'
        rw [← d.1 o6] at c2
        by_cases z : st1.1 = 0
        · have z' := z
          rw [d.1 o6] at z'
          have va := (v.2.2 z').2 (by omega)
          have vi := v.1 z'
          rw [← d.1 o6] at va vi
          rw [pH_good z] at p2
          rw [p_eta z] at c2
          obtain ⟨st3, L3, L4, q1, q2, q3⟩ := pB_some p2
          have gd := pF_gd t mb k 0 (o + 1) _ st3 L3 vi.1.1 vi.1.2 vi.2 q1
          refine h0 c2 ⟨fun _ => ⟨Or.inr (Or.inl rfl), rfl, rfl, fun w => absurd w (by decide)⟩, fun w => absurd w (by decide)⟩ ⟨by omega, fun c hc => absurd hc List.not_mem_nil, by show bf + (O.length : Int) + ((0 : Nat) : Int) ≤ _; omega, by show c0 + (E.length : Int) + (bf + O.length) + ((0 : Nat) : Int) + ((f + 1 : Nat) : Int) < _; omega⟩ q1 ⟨fun z5 s5 ph5 M5 R5 c5 f5 em5 rp5 lb5 ob5 ep5 => ?_, fun z5 s5 r5 f5 => ?_⟩
          · have g3 := gd.2.2 z5
            have gi := gd.2.1 z5
            have e5 := ep5.1 (by decide)
            have lm : M5.length + R5.length = L3.length := by rw [← em5, List.length_append, List.length_reverse]
            have lE : ((E ++ M5).length : Int) = E.length + M5.length := by rw [List.length_append]; omega
            rw [p_eta z5] at c5 q2
            refine sim_cl (N := L4) (E2 := E ++ (M5 ++ R5.reverse)) c1 (f2.tr f5) c5 (by omega) (by omega) ob5 e5.2.1 (fun _ => ⟨e5.1, e5.2.2.1 (by decide), e5.2.2.2 (by decide)⟩) (Or.inr (Or.inr rfl)) (fun w => absurd w (by decide)) rp5 (by have : bf + (O.length : Int) + ((0 : Nat) : Int) + R5.length < 500 := lb5; omega) (by omega) rfl q2 (by rw [if_neg (by decide), List.append_nil, List.append_assoc]) (fun z6 s6 c6 f6 => ?_) (fun z6 s6 r6 f6 => hk.2 z6 s6 r6 (f1.tr f6))
            have m := pH_M q2
            refine hk.1 z6 s6 2 (M5 ++ R5.reverse) [] ?_ (f1.tr f6) ?_ (fun c hc => absurd hc List.not_mem_nil) (by show bf + (O.length : Int) + ((0 : Nat) : Int) < 500; omega) (by show o + 0 ≤ 7; omega) ⟨fun _ => ⟨by decide, Or.inl (by decide), fun w => absurd w (by decide), fun w => absurd w (by decide)⟩, fun w => absurd w (by decide)⟩
            · rw [show o + ntN [] = o from Int.add_zero o, List.append_nil]
              exact c6
            · rw [p3, q3, d.2.2, m.2, ← em5]
              simp only [List.append_assoc, List.nil_append, List.append_nil, List.reverse_nil]
          · have b := pH_bad z5 q2
            rw [b.1] at hk
            exact hk.2 z5 s5 r5 (f1.tr ((f2.tr f5).wk (by omega) (by omega)))
        · have b := pH_bad z p2
          rw [b.1] at hk
          exact rl_bad c2 z (fun s3 r3 f3 => hk.2 z s3 r3 (f1.tr ((f2.tr f3).wk (by omega) (by omega))))
      · have e1 := d.2.1 (by omega)
        have z : st1.1 ≠ 0 := by rw [e1]; show ¬ (5 : Int) = 0; decide
        have b := pH_bad z p2
        rw [b.1] at hk
        exact hk.2 z s2 (by rw [e1]; exact r2) f2
    · rw [if_neg x] at hp
      by_cases w : wdT t a = 28
      · rw [if_pos w] at hp
        obtain ⟨st1, L1, L2, p1, p2, p3⟩ := pB_some hp
        have e1 := some2 p1
        have xe := pH_E p2
        refine ro_all h (by omega) ht (by decide) w (by omega) (fun s2 c2 f2 => ?_)
        rw [← e1.1] at c2
        rw [xe.1] at hk
        by_cases z : st1.1 = 0
        · refine hk.1 z s2 2 [41] [] ?_ f2 ?_ (fun c hc => absurd hc List.not_mem_nil) (by show bf + (O.length : Int) + ((0 : Nat) : Int) < 500; omega) (by show o + 0 ≤ 7; omega) ⟨fun _ => ⟨by decide, Or.inl (by decide), fun w => absurd w (by decide), fun w => absurd w (by decide)⟩, fun w => absurd w (by decide)⟩
          · rw [show o + ntN [] = o from Int.add_zero o, List.append_nil]
            exact c2
          · rw [p3, e1.2, xe.2.1 z]; rfl
        · exact rl_bad c2 z (fun s3 r3 f3 => hk.2 z s3 r3 (f2.tr f3))
      · rw [if_neg w] at hp
        refine h5 h ⟨fun _ => ⟨ht, rfl, rfl, fun _ u => ?_⟩, fun w => absurd w (by decide)⟩ ⟨hb.1, fun c hc => ⟨by have := (hb.2.1 c hc).1; omega, (hb.2.1 c hc).2⟩, by omega, b4⟩ hp ⟨fun z5 s5 ph5 M5 R5 c5 f5 em5 rp5 lb5 ob5 ep5 => ?_, hk.2⟩
        · rcases u with u | u | u
          · exact y u
          · exact x u
          · exact w u
        · exact hk.1 z5 s5 ph5 M5 R5 c5 f5 em5 (fun c hc => ⟨by have := (rp5 c hc).1; omega, (rp5 c hc).2⟩) lb5 ob5 ⟨fun _ => ⟨(ep5.1 (by decide)).1, (ep5.1 (by decide)).2.1, fun w => absurd w (by decide), fun w => absurd w (by decide)⟩, fun w => absurd w (by decide)⟩
theorem nt_3 : ¬ tst 3 ∧ ¬ tst 4 ∧ ¬ tst 2 := by unfold tst; omega
/-- the two sums of min, max, if -/
theorem sim_tail {k i : Nat} {s1 : Sg} {kd1 ph1 bf1 pr1 : Int} {st1 st2 : Int × Int} {O1 E1 N : List Int} (h6 : SmA g t mb k 6) (hi : i < 3) (h1 : RCf s1 t ib mb c0 f kd1 ph1 0 bf1 pr1 0 (o + 1) st1 O1 E1) (hx : Fx ib c0 (f + 1) (bf1 + O1.length) s1 s)
    (h : RCf s t ib mb c0 (f + 1) 3 0 bg (bf1 + O1.length) (chC i + 30) 0 (o + 1) (0, a) [] E) (hf : (f : Int) ≤ o ∧ o ≤ 6) (hb : bf1 + O1.length ≤ 6 * o + 5) (ha : c0 + E.length + bf1 + O1.length + f + 1 < a)
    (hp : pF t mb (k + 1) (i + 14) (o + 1) a = some (st2, N))
    (hq : st2.1 = 0 → ∀ s2, RCf s2 t ib mb c0 f kd1 ph1 0 bf1 pr1 1 o st2 O1 (E ++ N) → Fx ib c0 f bf1 s1 s2 → P_X13_reads_43 g (e + 4) Q s2 1)
    (hbad : st2.1 ≠ 0 → ∀ s2, RRs s2 t st2 → Fx ib c0 f bf1 s1 s2 → Q 0 s2) : P_X13_reads_43 g (e + 4) Q s 1 := by
  have hp : pB (pF t mb k 6 (o + 1) a) (fun x => pB (pM t 44 x) (fun y => pB (pF t mb k 6 (o + 1) y) (fun z => pB (pM t 41 z) (fun u => pE (chC i) u)))) = some (st2, N) := hp
  obtain ⟨ab, ax, tb, c00, bf0⟩ := h.ab
  obtain ⟨l0, l4, l5, l6, _, k0, k4, k5, k6, _, r0, r4, r5, r6, _⟩ := lv_all
  obtain ⟨sa, La, Lb, p1, p2, p3⟩ := pB_some hp
  have gd := pF_gd t mb k 6 (o + 1) a sa La ab.1 ab.2 ax p1
  refine h6 h ⟨fun z => absurd z (by decide), fun _ => ⟨by decide, fun z => absurd z.1 nt_3.1⟩⟩ ⟨by omega, fun c hc => absurd hc List.not_mem_nil, by show bf1 + (O1.length : Int) + ((0 : Nat) : Int) ≤ _; omega, by show c0 + (E.length : Int) + (bf1 + O1.length) + ((0 : Nat) : Int) + ((f + 1 : Nat) : Int) < _; omega⟩ p1 ⟨fun z s2 ph2 M R c2 f2 em rp lb ob ep => ?_, fun z s2 r2 f2 => ?_⟩
  · rw [pH_good z] at p2
    obtain ⟨sb, Lc, Ld, q1, q2, q3⟩ := pB_some p2
    have g2 := gd.2.2 z
    have gi := gd.2.1 z
    rw [p_eta z] at c2
    rw [List.nil_append] at c2
    obtain ⟨ep1, ep2, ep3⟩ := ep.2 (by decide)
    subst ep1
    have lm : M.length + R.length = La.length := by rw [← em, List.length_append, List.length_reverse]
    have lE : ((E ++ M).length : Int) = E.length + M.length := by rw [List.length_append]; omega
    have n0 := ntN_0 R
    have lb' : bf1 + (O1.length : Int) + ((0 : Nat) : Int) + R.length < 500 := lb
    have hj : JOk c0 (bf1 + O1.length) (o + 1 + ntN R) 1 [] R (E ++ M) := ⟨fun c hc => absurd hc (List.not_mem_nil), fun c hc => ⟨(rk_bd c).1, (rp c hc).2⟩, fun c hc => absurd hc (List.not_mem_nil), by omega, lb, by omega, by omega⟩
    have m := ms_some (st := (0, sa.2)) (t := t) rfl q1
    refine rg_comma c2 (by omega) (Or.inr (na_of (ep2 (by decide)) (ep3 (by decide)))) (fun w => absurd w nt_3.1) (Or.inl rfl) hj (fun y s3 c3 f3 => ?_) (fun y s3 r3 f3 => ?_)
    · have eb : sb = avT t sa.2 := m.1 y
      rw [← eb, if_pos rfl, show o + 1 + ntN R - ntN R = o + 1 by omega] at c3
      by_cases z2 : sb.1 = 0
      · have v := av_in (t := t) gi.1.1 gi.1.2
        have z' := z2
        rw [eb] at z'
        have va := (v.2.2 z').2 (by omega)
        have vi := v.1 z'
        rw [← eb] at va vi
        rw [pH_good z2] at q2
        rw [p_eta z2] at c3
        obtain ⟨sc, Le, Lf, u1, u2, u3⟩ := pB_some q2
        have gd2 := pF_gd t mb k 6 (o + 1) _ sc Le vi.1.1 vi.1.2 vi.2 u1
        have lE2 : ((E ++ M ++ R.reverse).length : Int) = E.length + La.length := by rw [List.length_append, List.length_append, List.length_reverse]; omega
        refine h6 c3 ⟨fun z => absurd z (by decide), fun _ => ⟨by decide, fun z => absurd z.1 nt_3.2.1⟩⟩ ⟨by omega, fun c hc => absurd hc List.not_mem_nil, by show bf1 + (O1.length : Int) + ((0 : Nat) : Int) ≤ _; omega, by show c0 + ((E ++ M ++ R.reverse).length : Int) + (bf1 + O1.length) + ((0 : Nat) : Int) + ((f + 1 : Nat) : Int) < _; omega⟩ u1 ⟨fun z5 s5 ph5 M5 R5 c5 f5 em5 rp5 lb5 ob5 ep5 => ?_, fun z5 s5 r5 f5 => ?_⟩
        · obtain ⟨ep51, ep52, ep53⟩ := ep5.2 (by decide)
          subst ep51
          have g5 := gd2.2.2 z5
          have gi5 := gd2.2.1 z5
          have lm5 : M5.length + R5.length = Le.length := by rw [← em5, List.length_append, List.length_reverse]
          have lE5 : ((E ++ M ++ R.reverse ++ M5).length : Int) = E.length + La.length + M5.length := by rw [List.length_append]; omega
          rw [p_eta z5] at c5 u2
          have u2 : pB (pM t 41 sc.2) (fun u => pE (chC i) u) = some (st2, Lf) := u2
          obtain ⟨sd, Lg, Lh, w1, w2, w3⟩ := pB_some u2
          have xe := pH_E w2
          have mm := pH_M (st := (0, sc.2)) w1
          rw [xe.1] at hq hbad
          have cb : 36 ≤ chC i + 30 ∧ chC i + 30 ≤ 44 := by rcases (show i = 0 ∨ i = 1 ∨ i = 2 by omega) with w | w | w <;> subst w <;> decide
          have lb5' : bf1 + (O1.length : Int) + ((0 : Nat) : Int) + R5.length < 500 := lb5
          refine sim_cl (N := Lg) (E2 := E ++ M ++ R.reverse ++ M5 ++ R5.reverse ++ [chC i]) h1 (((hx.tr f2).tr f3).tr f5) c5 (by omega) (by omega) ob5 (Or.inr (na_of (ep52 (by decide)) (ep53 (by decide)))) (fun w => absurd w nt_3.2.1) (Or.inr (Or.inl rfl)) (fun _ => cb) (fun c hc => ⟨(rk_bd c).1, (rp5 c hc).2⟩) (by omega) (by omega) (by rw [if_neg (by decide)]) w1 (by rw [if_pos rfl, show chC i + 30 - 30 = chC i by omega]) (fun z6 s6 c6 f6 => ?_) (fun z6 s6 r6 f6 => hbad z6 s6 r6 f6)
          refine hq z6 s6 ?_ f6
          rw [if_neg (by decide)] at c6
          have : E ++ N = E ++ M ++ R.reverse ++ M5 ++ R5.reverse ++ [chC i] := by
            rw [p3, q3, u3, w3, m.2.2, mm.2, xe.2.1 z6, ← em, ← em5]
            simp only [List.append_assoc, List.nil_append, List.append_nil]
          rw [this]
          exact c6
        · have b := pH_bad z5 u2
          rw [b.1] at hbad
          exact hbad z5 s5 r5 ((((hx.tr f2).tr f3).tr f5).wk (by omega) (by omega))
      · have b := pH_bad z2 q2
        rw [b.1] at hbad
        exact rl_bad c3 z2 (fun s4 r4 f4 => hbad z2 s4 r4 ((((hx.tr f2).tr f3).tr f4).wk (by omega) (by omega)))
    · have eb : sb = (1, sa.2) := m.2.1 y
      have z2 : sb.1 ≠ 0 := by rw [eb]; show ¬ (1 : Int) = 0; decide
      have b := pH_bad z2 q2
      rw [b.1] at hbad
      exact hbad z2 s3 (by rw [eb]; exact r3) (((hx.tr f2).tr f3).wk (by omega) (by omega))
  · have b := pH_bad z p2
    rw [b.1] at hbad
    exact hbad z s2 r2 ((hx.tr f2).wk (by omega) (by omega))
end SIM3
section SIM4
variable {g : GT} {t : Tp} {mb : Int}
theorem vl_bd {a : Int} (y : kdT t a = 2) (a0 : 0 ≤ a) (a1 : a ≤ t.1) (hx : lxT t a = -1) : 0 ≤ vlT t a ∧ vlT t a ≤ 9999 := by
  have l4 := lx_D y hx a0
  have sp := lnD_spec (t := t) (a := a) a1
  have nb := nu_bd (B := t.2) (a := a) (lnD t a) l4 (fun k hk => isD_b (sp.2.1 k hk))
  have : (10 : Int) ^ (lnD t a) ≤ 10 ^ 4 := by
    rcases (show lnD t a = 0 ∨ lnD t a = 1 ∨ lnD t a = 2 ∨ lnD t a = 3 ∨ lnD t a = 4 by omega) with z | z | z | z | z <;> rw [z] <;> decide
  have t4 : (10 : Int) ^ 4 = 10000 := by decide
  unfold vlT
  rw [y]
  show 0 ≤ nuF t.2 a (lnD t a) ∧ nuF t.2 a (lnD t a) ≤ 9999
  omega
/-- the three words before the sums -/
theorem sim_ch {k i : Nat} (hi : i < 3) (h0 : ∀ j, j < k → SmA g t mb j 0) (h6 : ∀ j, j < k → SmA g t mb j 6) : ∀ ⦃e : Nat⦄ ⦃s : Sg⦄ ⦃ib c0 : Int⦄ ⦃f : Nat⦄ ⦃kd ph bg bf pr o a : Int⦄ ⦃O E : List Int⦄ ⦃st2 : Int × Int⦄ ⦃N : List Int⦄ ⦃Q : Int → Sg → Prop⦄, ((i = 0 ∧ wdT t a = 29) ∨ (i = 1 ∧ wdT t a = 30) ∨ (i = 2 ∧ wdT t a = 24)) → RCf s t ib mb c0 f kd ph bg bf pr 0 o (0, a) O E → bD c0 bf o a f 10 O E → pF t mb k (11 + i) o a = some (st2, N) → KG g e Q s t ib mb c0 f kd ph bf pr o O E 10 st2 N → P_X13_reads_43 g (e + 4) Q s 1 := by
  intro e s ib c0 f kd ph bg bf pr o a O E st2 N Q hw h hb hp hk
  cases k with
  | zero => cases hp
  | succ k =>
  obtain ⟨ab, ax, tb, c00, bf0⟩ := h.ab
  have b3 := hb.2.2.1
  have b4 := hb.2.2.2
  have f0 := hb.1
  obtain ⟨l0, l4, l5, l6, l10, k0, k4, k5, k6, _, r0, r4, r5, r6, _⟩ := lv_all
  have v := av_in (t := t) ab.1 ab.2
  have hp : pB (pV t a) (fun x => if kdT t x = 3 ∧ vlT t x = 40 then pB (pD t o x) (fun y => if i = 2 then pB (pF t mb k 0 (o + 1) y) (fun z => pB (pM t 44 z) (fun u => pF t mb k 16 (o + 1) u)) else pF t mb k (14 + i) (o + 1) y) else pX 1 x) = some (st2, N) := by
    rcases (show i = 0 ∨ i = 1 ∨ i = 2 by omega) with w | w | w <;> subst w <;> exact hp
  obtain ⟨sa, La, Lb, p1, p2, p3⟩ := pB_some hp
  have e1 := some2 p1
  rw [e1.1] at p2
  have fin : ∀ (s2 : Sg) (M : List Int), N = M → st2.1 = 0 → RCf s2 t ib mb c0 f kd ph 0 bf pr 1 o st2 O (E ++ M) → Fx ib c0 f bf s s2 → P_X13_reads_43 g (e + 4) Q s2 1 := fun s2 M hN z c2 f2 => by
    have gd := 0
    refine hk.1 z s2 ph M [] (by rw [show o + ntN [] = o from Int.add_zero o, List.append_nil]; exact c2) f2 (by rw [hN, List.reverse_nil, List.append_nil]) (fun c hc => absurd hc List.not_mem_nil) (by show bf + (O.length : Int) + ((0 : Nat) : Int) < 500; omega) (by show o + 0 ≤ 7; omega) ⟨fun w => absurd w (by decide), fun _ => ⟨rfl, fun w => absurd w (by decide), fun w => absurd w (by decide)⟩⟩
  refine ro_ch h (by omega) hw (by omega) (by omega) (fun z y o6 s1 s2 c1 f1 c2 f2 => ?_) (fun sx hx s2 r2 f2 => ?_)
  · rw [pH_good z, if_pos y] at p2
    obtain ⟨sb, Lc, Ld, q1, q2, q3⟩ := pB_some p2
    have d := dp_some q1
    rw [← d.1 o6] at c2
    have vi := v.1 z
    have va := (v.2.2 z).1
    have v2 := av_in (t := t) vi.1.1 vi.1.2
    have eN : N = Ld := by rw [p3, e1.2, q3, d.2.2]; rfl
    by_cases z2 : sb.1 = 0
    · have z' := z2
      rw [d.1 o6] at z'
      have va2 := (v2.2.2 z').2 (by omega)
      have vi2 := v2.1 z'
      rw [← d.1 o6] at va2 vi2
      rw [pH_good z2] at q2
      rw [p_eta z2] at c2
      by_cases i2 : i = 2
      · rw [if_pos i2] at q2 c2
        have q2 : pB (pF t mb k 0 (o + 1) sb.2) (fun z => pB (pM t 44 z) (fun u => pF t mb k 16 (o + 1) u)) = some (st2, Ld) := q2
        obtain ⟨sc, Le, Lf, u1, u2, u3⟩ := pB_some q2
        have gd := pF_gd t mb k 0 (o + 1) _ sc Le vi2.1.1 vi2.1.2 vi2.2 u1
        refine h0 k (by omega) c2 ⟨fun _ => ⟨Or.inr (Or.inr rfl), rfl, rfl, fun w => absurd w (by decide)⟩, fun w => absurd w (by decide)⟩ ⟨by omega, fun c hc => absurd hc List.not_mem_nil, by show bf + (O.length : Int) + ((0 : Nat) : Int) ≤ _; omega, by show c0 + (E.length : Int) + (bf + O.length) + ((0 : Nat) : Int) + ((f + 1 : Nat) : Int) < _; omega⟩ u1 ⟨fun z5 s5 ph5 M5 R5 c5 f5 em5 rp5 lb5 ob5 ep5 => ?_, fun z5 s5 r5 f5 => ?_⟩
        · rw [pH_good z5] at u2
          obtain ⟨sd, Lg, Lh, w1, w2, w3⟩ := pB_some u2
          rw [p_eta z5, List.nil_append] at c5
          have g5 := gd.2.2 z5
          have gi5 := gd.2.1 z5
          have e5 := ep5.1 (by decide)
          have lm : M5.length + R5.length = Le.length := by rw [← em5, List.length_append, List.length_reverse]
          have lE : ((E ++ M5).length : Int) = E.length + M5.length := by rw [List.length_append]; omega
          have n0 := ntN_0 R5
          have lb5' : bf + (O.length : Int) + ((0 : Nat) : Int) + R5.length < 500 := lb5
          have hj : JOk c0 (bf + O.length) (o + 1 + ntN R5) 1 [] R5 (E ++ M5) := ⟨fun c hc => absurd hc (List.not_mem_nil), fun c hc => ⟨(rk_bd c).1, (rp5 c hc).2⟩, fun c hc => absurd hc (List.not_mem_nil), by omega, lb5, by omega, by omega⟩
          have m := ms_some (st := (0, sc.2)) (t := t) rfl w1
          refine rg_comma c5 (by omega) e5.2.1 (fun _ => ⟨e5.1, e5.2.2.1 (by decide), e5.2.2.2 (by decide)⟩) (Or.inr rfl) hj (fun y s3 c3 f3 => ?_) (fun y s3 r3 f3 => ?_)
          · have eb : sd = avT t sc.2 := m.1 y
            rw [← eb, if_neg (by decide), show o + 1 + ntN R5 - ntN R5 = o + 1 by omega] at c3
            by_cases z6 : sd.1 = 0
            · have v3 := av_in (t := t) gi5.1.1 gi5.1.2
              have z' := z6
              rw [eb] at z'
              have va3 := (v3.2.2 z').2 (by omega)
              rw [← eb] at va3
              rw [pH_good z6] at w2
              rw [p_eta z6] at c3
              have lE2 : ((E ++ M5 ++ R5.reverse).length : Int) = E.length + Le.length := by rw [List.length_append, List.length_append, List.length_reverse]; omega
              cases k with
              | zero => cases w2
              | succ k =>
              rw [i2] at c3
              refine sim_tail (i := 2) (N := Lh) (h6 k (by omega)) (by decide) c1 ((f2.tr f5).tr f3) c3 (by omega) (by omega) (by omega) w2 (fun z7 s7 c7 f7 => fin s7 (M5 ++ R5.reverse ++ Lh) ?_ z7 (by rw [← List.append_assoc, ← List.append_assoc]; exact c7) (f1.tr f7)) (fun z7 s7 r7 f7 => hk.2 z7 s7 r7 (f1.tr f7))
              rw [eN, u3, w3, m.2.2, ← em5]; rfl
            · have b := pH_bad z6 w2
              rw [b.1] at hk
              exact rl_bad c3 z6 (fun s4 r4 f4 => hk.2 z6 s4 r4 (f1.tr ((((f2.tr f5).tr f3).tr f4).wk (by omega) (by omega))))
          · have eb : sd = (1, sc.2) := m.2.1 y
            have z6 : sd.1 ≠ 0 := by rw [eb]; show ¬ (1 : Int) = 0; decide
            have b := pH_bad z6 w2
            rw [b.1] at hk
            exact hk.2 z6 s3 (by rw [eb]; exact r3) (f1.tr (((f2.tr f5).tr f3).wk (by omega) (by omega)))
        · have b := pH_bad z5 u2
          rw [b.1] at hk
          exact hk.2 z5 s5 r5 (f1.tr ((f2.tr f5).wk (by omega) (by omega)))
      · rw [if_neg i2] at q2 c2
        have q2 : pF t mb k (14 + i) (o + 1) sb.2 = some (st2, Ld) := q2
        rw [Nat.add_comm] at q2
        cases k with
        | zero => cases q2
        | succ k =>
        exact sim_tail (N := Ld) (h6 k (by omega)) hi c1 f2 c2 (by omega) (by omega) (by omega) q2 (fun z7 s7 c7 f7 => fin s7 Ld eN z7 c7 (f1.tr f7)) (fun z7 s7 r7 f7 => hk.2 z7 s7 r7 (f1.tr f7))
    · have b := pH_bad z2 q2
      rw [b.1] at hk
      exact rl_bad c2 z2 (fun s3 r3 f3 => hk.2 z2 s3 r3 (f1.tr ((f2.tr f3).wk (by omega) (by omega))))
  · rcases hx with ⟨x1, x2⟩ | ⟨x1, x2, x3⟩ | ⟨x1, x2, x3, x4⟩
    · have b := pH_bad x1 p2
      rw [b.1] at hk
      exact hk.2 x1 s2 (by rw [← x2]; exact r2) f2
    · rw [pH_good x1, if_neg x2] at p2
      have e2 := some2 p2
      rw [e2.1, ← x3] at hk
      exact hk.2 (by rw [x3]; show ¬ (1 : Int) = 0; decide) s2 r2 f2
    · rw [pH_good x1, if_pos x2] at p2
      obtain ⟨sb, Lc, Ld, q1, q2, q3⟩ := pB_some p2
      have d := (dp_some q1).2.1 (by omega)
      have z2 : sb.1 ≠ 0 := by rw [d]; show ¬ (5 : Int) = 0; decide
      have b := pH_bad z2 q2
      rw [b.1, d, ← x4] at hk
      exact hk.2 (by rw [x4]; show ¬ (5 : Int) = 0; decide) s2 r2 f2
theorem sim_10 {k : Nat} (hm : mb = 0 ∨ mb = 1) (h0 : ∀ j, j ≤ k → SmA g t mb j 0) (h6 : ∀ j, j ≤ k → SmA g t mb j 6) : SmA g t mb (k + 1) 10 := by
  intro e s ib c0 f kd ph bg bf pr o a O E st2 N Q h ha hb hp hk
  have hp : (if kdT t a = 2 then pB (pE (40 + vlT t a) a) (fun x => pV t x) else if kdT t a = 3 ∧ vlT t a = 40 then pB (pD t o a) (fun x => pB (pF t mb k 6 (o + 1) x) (fun y => pM t 41 y)) else if wdT t a = 29 then pF t mb k 11 o a else if wdT t a = 30 then pF t mb k 12 o a else if wdT t a = 24 then pF t mb k 13 o a else if fcT t mb a = -1 then pX 1 a else pB (pE (20 + fcT t mb a) a) (fun x => pV t x)) = some (st2, N) := hp
  obtain ⟨ab, ax, tb, c00, bf0⟩ := h.ab
  have b3 := hb.2.2.1
  have b4 := hb.2.2.2
  have f0 := hb.1
  obtain ⟨l0, l4, l5, l6, l10, k0, k4, k5, k6, _, r0, r4, r5, r6, _⟩ := lv_all
  have v := av_in (t := t) ab.1 ab.2
  obtain ⟨hph, hsp⟩ := ha.2 (by decide)
  have fin : ∀ (s2 : Sg) (M : List Int), N = M → st2.1 = 0 → RCf s2 t ib mb c0 f kd ph 0 bf pr 1 o st2 O (E ++ M) → Fx ib c0 f bf s s2 → P_X13_reads_43 g (e + 4) Q s2 1 := fun s2 M hN z c2 f2 => by
    refine hk.1 z s2 ph M [] (by rw [show o + ntN [] = o from Int.add_zero o, List.append_nil]; exact c2) f2 (by rw [hN, List.reverse_nil, List.append_nil]) (fun c hc => absurd hc List.not_mem_nil) (by show bf + (O.length : Int) + ((0 : Nat) : Int) < 500; omega) (by show o + 0 ≤ 7; omega) ⟨fun w => absurd w (by decide), fun _ => ⟨rfl, fun w => absurd w (by decide), fun w => absurd w (by decide)⟩⟩
  have one : ∀ c, pB (pE c a) (fun x => pV t x) = some (st2, N) → st2 = avT t a ∧ N = [c] := fun c q => by
    obtain ⟨sa, La, Lb, p1, p2, p3⟩ := pB_some q
    have e1 := some2 p1
    rw [e1.1] at p2
    have e2 := some2 (show some (avT t a, []) = some (st2, Lb) from p2)
    exact ⟨e2.1, by rw [p3, e1.2, e2.2]; rfl⟩
  have step : ∀ (s2 : Sg) (c : Int), st2 = avT t a ∧ N = [c] → RCf s2 t ib mb c0 f kd ph 0 bf pr 1 o (avT t a) O (E ++ [c]) → Fx ib c0 f bf s s2 → P_X13_reads_43 g (e + 4) Q s2 1 := fun s2 c q c2 f2 => by
    rw [← q.1] at c2
    by_cases z : st2.1 = 0
    · exact fin s2 [c] q.2 z c2 f2
    · exact rl_bad c2 z (fun s3 r3 f3 => hk.2 z s3 r3 (f2.tr f3))
  have vb := fun y => vl_bd (t := t) y ab.1 ab.2 ax
  have w31 : kdT t a = 2 → wdT t a = 31 := fun y => by unfold wdT; rw [if_neg (by omega)]
  by_cases y : kdT t a = 2
  · rw [if_pos y] at hp
    have w := w31 y
    exact ro_one h (by omega) hsp hm (by omega) (fun u => by omega) (by omega) (Or.inl ⟨y, rfl⟩) vb (fun _ s2 c2 f2 => step s2 _ (one _ hp) c2 f2) (fun u => absurd y u)
  rw [if_neg y] at hp
  by_cases x : kdT t a = 3 ∧ vlT t a = 40
  · rw [if_pos x] at hp
    obtain ⟨st1, L1, L2, p1, p2, p3⟩ := pB_some hp
    have d := dp_some p1
    refine ro_par h (by omega) x (by omega) (by omega) (fun o6 s1 s2 c1 f1 c2' f2 => ?_) (fun o7 s2 r2 f2 => ?_)
    · obtain ⟨p, c2⟩ := c2'
      rw [← d.1 o6] at c2
      by_cases z : st1.1 = 0
      · have z' := z
        rw [d.1 o6] at z'
        have va := (v.2.2 z').2 (by omega)
        have vi := v.1 z'
        rw [← d.1 o6] at va vi
        rw [pH_good z] at p2
        rw [p_eta z] at c2
        obtain ⟨st3, L3, L4, q1, q2, q3⟩ := pB_some p2
        have gd := pF_gd t mb k 6 (o + 1) _ st3 L3 vi.1.1 vi.1.2 vi.2 q1
        refine h6 k (by omega) c2 ⟨fun w => absurd w (by decide), fun _ => ⟨by decide, fun w => absurd w.1 nt_3.2.2⟩⟩ ⟨by omega, fun c hc => absurd hc List.not_mem_nil, by show bf + (O.length : Int) + ((0 : Nat) : Int) ≤ _; omega, by show c0 + (E.length : Int) + (bf + O.length) + ((0 : Nat) : Int) + ((f + 1 : Nat) : Int) < _; omega⟩ q1 ⟨fun z5 s5 ph5 M5 R5 c5 f5 em5 rp5 lb5 ob5 ep5 => ?_, fun z5 s5 r5 f5 => ?_⟩
        · have g3 := gd.2.2 z5
          have gi := gd.2.1 z5
          have e5 := ep5.2 (by decide)
          have lm : M5.length + R5.length = L3.length := by rw [← em5, List.length_append, List.length_reverse]
          have lE : ((E ++ M5).length : Int) = E.length + M5.length := by rw [List.length_append]; omega
          have m := pH_M q2
          rw [p_eta z5] at c5 q2
          refine sim_cl (N := L4) (E2 := E ++ (M5 ++ R5.reverse)) c1 (f2.tr f5) c5 (by omega) (by omega) ob5 (Or.inr (na_of (e5.2.1 (by decide)) (e5.2.2 (by decide)))) (fun w => absurd w nt_3.2.2) (Or.inl rfl) (fun w => absurd w (by decide)) (fun c hc => ⟨(rk_bd c).1, (rp5 c hc).2⟩) (by have : bf + (O.length : Int) + ((0 : Nat) : Int) + R5.length < 500 := lb5; omega) (by omega) rfl q2 (by rw [if_neg (by decide), List.append_nil, List.append_assoc]) (fun z6 s6 c6 f6 => ?_) (fun z6 s6 r6 f6 => hk.2 z6 s6 r6 (f1.tr f6))
          refine fin s6 (M5 ++ R5.reverse) ?_ z6 c6 (f1.tr f6)
          rw [p3, q3, d.2.2, m.2, ← em5]
          simp only [List.nil_append, List.append_nil]
        · have b := pH_bad z5 q2
          rw [b.1] at hk
          exact hk.2 z5 s5 r5 (f1.tr ((f2.tr f5).wk (by omega) (by omega)))
      · have b := pH_bad z p2
        rw [b.1] at hk
        exact rl_bad c2 z (fun s3 r3 f3 => hk.2 z s3 r3 (f1.tr ((f2.tr f3).wk (by omega) (by omega))))
    · have e1 := d.2.1 (by omega)
      have z : st1.1 ≠ 0 := by rw [e1]; show ¬ (5 : Int) = 0; decide
      have b := pH_bad z p2
      rw [b.1] at hk
      exact hk.2 z s2 (by rw [e1]; exact r2) f2
  rw [if_neg x] at hp
  have h0' : ∀ j, j < k → SmA g t mb j 0 := fun j hj => h0 j (by omega)
  have h6' : ∀ j, j < k → SmA g t mb j 6 := fun j hj => h6 j (by omega)
  by_cases w9 : wdT t a = 29
  · rw [if_pos w9] at hp
    exact sim_ch (i := 0) (by decide) h0' h6' (Or.inl ⟨rfl, w9⟩) h hb hp hk
  rw [if_neg w9] at hp
  by_cases w10 : wdT t a = 30
  · rw [if_pos w10] at hp
    exact sim_ch (i := 1) (by decide) h0' h6' (Or.inr (Or.inl ⟨rfl, w10⟩)) h hb hp hk
  rw [if_neg w10] at hp
  by_cases w4 : wdT t a = 24
  · rw [if_pos w4] at hp
    exact sim_ch (i := 2) (by decide) h0' h6' (Or.inr (Or.inr ⟨rfl, w4⟩)) h hb hp hk
  rw [if_neg w4] at hp
  by_cases fc : fcT t mb a = -1
  · rw [if_pos fc] at hp
    have e1 := some2 hp
    rw [e1.1] at hk
    exact ro_one (c := 0) h (by omega) hsp hm (by omega) x ⟨w9, w10, w4⟩ (Or.inr (Or.inr ⟨y, fc⟩)) vb (fun u => u.elim (fun u => absurd u y) (fun u => absurd fc u)) (fun _ _ s2 r2 f2 => hk.2 (by show ¬ (1 : Int) = 0; decide) s2 r2 f2)
  · rw [if_neg fc] at hp
    exact ro_one h (by omega) hsp hm (by omega) x ⟨w9, w10, w4⟩ (Or.inr (Or.inl ⟨y, fc, rfl⟩)) vb (fun _ s2 c2 f2 => step s2 _ (one _ hp) c2 f2) (fun _ u => absurd u fc)
theorem sim_all (hm : mb = 0 ∨ mb = 1) : ∀ k : Nat, ∀ j, j ≤ k → SmA g t mb j 0 ∧ SmB g t mb j 1 ∧ SmA g t mb j 2 ∧ SmB g t mb j 3 ∧ SmA g t mb j 4 ∧ SmA g t mb j 5 ∧ SmA g t mb j 6 ∧ SmB g t mb j 7 ∧ SmA g t mb j 8 ∧ SmB g t mb j 9 ∧ SmA g t mb j 10 := by
  have zA : ∀ nt, SmA g t mb 0 nt := fun nt e s ib c0 f kd ph bg bf pr o a O E st2 N Q _ _ _ hp => by cases hp
  have zB : ∀ nt, SmB g t mb 0 nt := fun nt e s ib c0 f kd ph bf pr o a O R E st2 N Q _ _ _ _ _ _ hp => by cases hp
  intro k
  induction k with
  | zero =>
    intro j hj
    have : j = 0 := by omega
    subst this
    exact ⟨zA 0, zB 1, zA 2, zB 3, zA 4, zA 5, zA 6, zB 7, zA 8, zB 9, zA 10⟩
  | succ k ih =>
    intro j hj
    by_cases z : j ≤ k
    · exact ih j z
    · have : j = k + 1 := by omega
      subst this
      obtain ⟨i0, i1, i2, i3, i4, i5, i6, i7, i8, i9, i10⟩ := ih k (Nat.le_refl k)
      exact ⟨sim_0 i2 i1, sim_1 i2 i1, sim_2 i4 i3, sim_3 i4 i3, sim_4 i4 i0 i5, sim_5 i6, sim_6 i8 i7, sim_7 i8 i7, sim_8 i10 i9, sim_9 i10 i9, sim_10 hm (fun j q => (ih j q).1) (fun j q => (ih j q).2.2.2.2.2.2.1)⟩
end SIM4
