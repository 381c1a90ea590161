/-! the descent and the stacks, part by part -/
section SIM2
variable {g : GT} {e : Nat} {s : Sg} {t : Tp} {ib mb c0 kd ph bg bf pr op opn a l o : Int} {f : Nat} {st : Int × Int} {O R E : List Int} {Q : Int → Sg → Prop}
theorem mu_ad (h : muT t a ≠ -1) : adT t a = -1 := by
  unfold muT at h
  unfold adT
  by_cases x : kdT t a = 3 ∧ vlT t a = 43
  · rw [if_neg (fun u => by omega), if_neg (fun u => by omega), if_neg (fun u => by omega)] at h; exact absurd rfl h
  · rw [if_neg x]
    by_cases y : kdT t a = 3 ∧ vlT t a = 45
    · rw [if_neg (fun u => by omega), if_neg (fun u => by omega), if_neg (fun u => by omega)] at h; exact absurd rfl h
    · rw [if_neg y]
theorem mu_v : muT t a = -1 ∨ muT t a = 3 ∨ muT t a = 4 ∨ muT t a = 5 := by
  unfold muT
  repeat' split
  all_goals omega
theorem ad_v : adT t a = -1 ∨ adT t a = 1 ∨ adT t a = 2 := by
  unfold adT
  repeat' split
  all_goals omega
theorem cm_v : cmT t a = -1 ∨ cmT t a = 8 ∨ cmT t a = 9 ∨ cmT t a = 10 := by
  unfold cmT
  repeat' split
  all_goals omega
theorem sim_8 {k : Nat} (hY : SmA g t mb k 10) (hZ : SmB g t mb k 9) : SmA g t mb (k + 1) 8 :=
  sim_seq hY hZ (fun _ _ => rfl) (fun _ _ _ _ q => ⟨fun z => absurd z (by decide), fun _ => q.2 (by decide)⟩) ⟨by decide, by decide⟩
    (fun _ _ _ _ _ _ q r => ⟨fun z => absurd z (by decide), fun _ => ⟨by rw [(r.2 (by decide)).1]; exact (q.2 (by decide)).1, fun z => absurd z (by decide)⟩⟩) (by decide) ⟨rfl, rfl⟩ (by decide)
    (fun _ _ _ _ _ q r => ⟨fun z => absurd z (by decide), fun _ => ⟨(r.2 (by decide)).1.trans (q.2 (by decide)).1, fun _ => (r.2 (by decide)).2.1 (by decide), fun z => absurd z (by decide)⟩⟩)
theorem sim_6 {k : Nat} (hY : SmA g t mb k 8) (hZ : SmB g t mb k 7) : SmA g t mb (k + 1) 6 :=
  sim_seq hY hZ (fun _ _ => rfl) (fun _ _ _ _ q => ⟨fun z => absurd z (by decide), fun _ => q.2 (by decide)⟩) ⟨by decide, by decide⟩
    (fun _ _ _ _ _ _ q r => ⟨fun z => absurd z (by decide), fun _ => ⟨by rw [(r.2 (by decide)).1]; exact (q.2 (by decide)).1, fun _ => (r.2 (by decide)).2.1 (by decide)⟩⟩) (by decide) ⟨rfl, rfl⟩ (by decide)
    (fun _ _ _ _ _ q r => ⟨fun z => absurd z (by decide), fun _ => ⟨(r.2 (by decide)).1.trans (q.2 (by decide)).1, fun _ => (r.2 (by decide)).2.1 (by decide), fun _ => (r.2 (by decide)).2.2 (by decide)⟩⟩)
theorem sim_2 {k : Nat} (hY : SmA g t mb k 4) (hZ : SmB g t mb k 3) : SmA g t mb (k + 1) 2 :=
  sim_seq hY hZ (fun _ _ => rfl) (fun _ _ _ _ q => ⟨fun _ => ⟨(q.1 (by decide)).1, (q.1 (by decide)).2.1, (q.1 (by decide)).2.2.1, fun z => absurd z (by decide)⟩, fun z => absurd z (by decide)⟩) ⟨by decide, by decide⟩
    (fun _ _ _ _ _ _ q r => ⟨fun _ => ⟨(q.1 (by decide)).1, (r.1 (by decide)).1, (r.1 (by decide)).2.1, fun z => absurd z (by decide)⟩, fun z => absurd z (by decide)⟩) (by decide) ⟨rfl, rfl⟩ (by decide)
    (fun _ _ _ _ _ _ r => ⟨fun _ => ⟨(r.1 (by decide)).1, (r.1 (by decide)).2.1, fun _ => (r.1 (by decide)).2.2.1 (by decide), fun z => absurd z (by decide)⟩, fun z => absurd z (by decide)⟩)
theorem sim_0 {k : Nat} (hY : SmA g t mb k 2) (hZ : SmB g t mb k 1) : SmA g t mb (k + 1) 0 :=
  sim_seq hY hZ (fun _ _ => rfl) (fun _ _ _ _ q => ⟨fun _ => ⟨(q.1 (by decide)).1, (q.1 (by decide)).2.1, (q.1 (by decide)).2.2.1, fun z => absurd z (by decide)⟩, fun z => absurd z (by decide)⟩) ⟨by decide, by decide⟩
    (fun _ _ _ _ _ _ q r => ⟨fun _ => ⟨(q.1 (by decide)).1, (r.1 (by decide)).1, (r.1 (by decide)).2.1, fun _ => (r.1 (by decide)).2.2.1 (by decide)⟩, fun z => absurd z (by decide)⟩) (by decide) ⟨rfl, rfl⟩ (by decide)
    (fun _ _ _ _ _ _ r => ⟨fun _ => ⟨(r.1 (by decide)).1, (r.1 (by decide)).2.1, fun _ => (r.1 (by decide)).2.2.1 (by decide), fun _ => (r.1 (by decide)).2.2.2 (by decide)⟩, fun z => absurd z (by decide)⟩)
theorem sim_9 {k : Nat} (hY : SmA g t mb k 10) (hZ : SmB g t mb k 9) : SmB g t mb (k + 1) 9 := by
  refine sim_rest (cnd := fun a => muT t a ≠ -1) (cc := fun a => muT t a) hY hZ (fun o a y => if_neg y) (fun o a y => if_pos (Classical.byContradiction y)) (fun a y => ?_) ⟨by decide, by decide, rfl, by decide⟩ (fun h hb y hf hj hq => ?_) (fun _ _ _ _ _ _ q r u => ?_) (fun _ _ _ q y => ?_) (fun _ _ _ _ _ _ q r u => ?_)
  · refine ⟨by have := mu_kd y; omega, ?_⟩
    rcases mu_v (t := t) (a := a) with z | z | z | z
    · exact absurd z y
    all_goals (show rkC (muT t a) < cO 10 ∧ rR 9 ≤ rkC (muT t a) ∧ opC (muT t a) ∧ muT t a ≠ 13; rw [z]; exact ⟨by decide, by decide, ⟨by decide, by decide⟩, by decide⟩)
  · have p := (hb.2 (by decide)).1
    exact rg_arith h hf p (Or.inr ⟨mu_ad y, y, rfl, rfl⟩) hj (fun s2 c2 f2 => hq s2 _ 0 c2 f2 (fun _ => ⟨fun z => absurd z (by decide), fun _ => ⟨p, fun z => absurd rfl z.2⟩⟩) (fun _ => rfl))
  · exact ⟨fun z => absurd z (by decide), fun _ => ⟨by rw [(u.2 (by decide)).1, r (by decide)]; exact (q.2 (by decide)).1, fun z => absurd z (by decide)⟩⟩
  · exact ⟨fun z => absurd z (by decide), fun _ => ⟨rfl, fun _ => Classical.byContradiction y, fun z => absurd z (by decide)⟩⟩
  · exact ⟨fun z => absurd z (by decide), fun _ => ⟨by rw [(u.2 (by decide)).1, (r.2 (by decide)).1, q (by decide)], (u.2 (by decide)).2⟩⟩
theorem sim_7 {k : Nat} (hY : SmA g t mb k 8) (hZ : SmB g t mb k 7) : SmB g t mb (k + 1) 7 := by
  refine sim_rest (cnd := fun a => adT t a ≠ -1) (cc := fun a => adT t a) hY hZ (fun o a y => if_neg y) (fun o a y => if_pos (Classical.byContradiction y)) (fun a y => ?_) ⟨by decide, by decide, rfl, by decide⟩ (fun h hb y hf hj hq => ?_) (fun _ _ _ _ _ _ q r u => ?_) (fun _ _ _ q y => ?_) (fun _ _ _ _ _ _ q r u => ?_)
  · refine ⟨by have := ad_kd y; omega, ?_⟩
    rcases ad_v (t := t) (a := a) with z | z | z
    · exact absurd z y
    all_goals (show rkC (adT t a) < cO 8 ∧ rR 7 ≤ rkC (adT t a) ∧ opC (adT t a) ∧ adT t a ≠ 13; rw [z]; exact ⟨by decide, by decide, ⟨by decide, by decide⟩, by decide⟩)
  · have p := (hb.2 (by decide)).1
    exact rg_arith h hf p (Or.inl ⟨y, rfl, rfl⟩) hj (fun s2 c2 f2 => hq s2 _ 0 c2 f2 (fun _ => ⟨fun z => absurd z (by decide), fun _ => ⟨p, fun z => absurd rfl z.2⟩⟩) (fun _ => rfl))
  · exact ⟨fun z => absurd z (by decide), fun _ => ⟨by rw [(u.2 (by decide)).1, r (by decide)]; exact (q.2 (by decide)).1, fun _ => (u.2 (by decide)).2.1 (by decide)⟩⟩
  · exact ⟨fun z => absurd z (by decide), fun _ => ⟨rfl, fun _ => (q.2 (by decide)).2 rfl, fun _ => Classical.byContradiction y⟩⟩
  · exact ⟨fun z => absurd z (by decide), fun _ => ⟨by rw [(u.2 (by decide)).1, (r.2 (by decide)).1, q (by decide)], (u.2 (by decide)).2⟩⟩
theorem sim_3 {k : Nat} (hY : SmA g t mb k 4) (hZ : SmB g t mb k 3) : SmB g t mb (k + 1) 3 := by
  refine sim_rest (cnd := fun a => wdT t a = 26) (cc := fun a => 11) hY hZ (fun o a y => if_pos y) (fun o a y => if_neg y) (fun a y => ⟨kd_w (by show wdT t a ≠ 31; have y : wdT t a = 26 := y; omega), by decide, by decide, ⟨by decide, by decide⟩, by decide⟩) ⟨by decide, by decide, rfl, by decide⟩ (fun h hb y hf hj hq => ?_) (fun _ _ _ _ _ _ q r u => ?_) (fun _ _ _ q y => ?_) (fun _ _ _ _ _ _ q r u => ?_)
  · have p := hb.1 (by decide)
    exact rg_and h hf p.1 p.2.1 (Or.inl ⟨y, rfl, rfl⟩) hj (fun s2 c2 f2 => hq s2 0 1 c2 f2 (fun _ => ⟨fun _ => ⟨p.1, rfl, rfl, fun z => absurd z (by decide)⟩, fun z => absurd z (by decide)⟩) (fun z => absurd z (by decide)))
  · exact ⟨fun _ => ⟨(q.1 (by decide)).1, (u.1 (by decide)).1, (u.1 (by decide)).2.1, fun z => absurd z (by decide)⟩, fun z => absurd z (by decide)⟩
  · exact ⟨fun _ => ⟨(q.1 (by decide)).2.1, (q.1 (by decide)).2.2.1, fun _ => y, fun z => absurd z (by decide)⟩, fun z => absurd z (by decide)⟩
  · exact ⟨u.1, fun z => absurd z (by decide)⟩
theorem sim_1 {k : Nat} (hY : SmA g t mb k 2) (hZ : SmB g t mb k 1) : SmB g t mb (k + 1) 1 := by
  refine sim_rest (cnd := fun a => wdT t a = 25) (cc := fun a => 12) hY hZ (fun o a y => if_pos y) (fun o a y => if_neg y) (fun a y => ⟨kd_w (by show wdT t a ≠ 31; have y : wdT t a = 25 := y; omega), by decide, by decide, ⟨by decide, by decide⟩, by decide⟩) ⟨by decide, by decide, rfl, by decide⟩ (fun h hb y hf hj hq => ?_) (fun _ _ _ _ _ _ q r u => ?_) (fun _ _ _ q y => ?_) (fun _ _ _ _ _ _ q r u => ?_)
  · have p := hb.1 (by decide)
    exact rg_and h hf p.1 p.2.1 (Or.inr ⟨y, rfl, rfl⟩) hj (fun s2 c2 f2 => hq s2 0 1 c2 f2 (fun _ => ⟨fun _ => ⟨p.1, rfl, rfl, fun z => absurd z (by decide)⟩, fun z => absurd z (by decide)⟩) (fun z => absurd z (by decide)))
  · exact ⟨fun _ => ⟨(q.1 (by decide)).1, (u.1 (by decide)).1, (u.1 (by decide)).2.1, fun _ => (u.1 (by decide)).2.2.1 (by decide)⟩, fun z => absurd z (by decide)⟩
  · exact ⟨fun _ => ⟨(q.1 (by decide)).2.1, (q.1 (by decide)).2.2.1, fun _ => (q.1 (by decide)).2.2.2 rfl, fun _ => y⟩, fun z => absurd z (by decide)⟩
  · exact ⟨u.1, fun z => absurd z (by decide)⟩
theorem lv_all : lV 0 = 0 ∧ lV 4 = 2 ∧ lV 5 = 2 ∧ lV 6 = 3 ∧ lV 10 = 5 ∧ cO 0 = 1 ∧ cO 4 = 4 ∧ cO 5 = 4 ∧ cO 6 = 5 ∧ cO 10 = 7 ∧ rR 0 = 1 ∧ rR 4 = 3 ∧ rR 5 = 4 ∧ rR 6 = 5 ∧ rR 10 = 7 := by decide
theorem sim_5 {k : Nat} (h6 : SmA g t mb k 6) : SmA g t mb (k + 1) 5 := by
  intro e s ib c0 f kd ph bg bf pr o a O E st2 N Q h ha hb hp hk
  have hp : pB (pF t mb k 6 o a) (fun x => if cmT t x = -1 then pX 1 x else pB (pV t x) (fun y => pB (pF t mb k 6 o y) (fun z => pE (cmT t x) z))) = some (st2, N) := hp
  obtain ⟨st1, L1, L2, p1, p2, p3⟩ := pB_some hp
  obtain ⟨ab, ax, tb, c00, bf0⟩ := h.ab
  have gd := pF_gd t mb k 6 o a st1 L1 ab.1 ab.2 ax p1
  obtain ⟨ht, hph, hbg, hsp⟩ := ha.1 (by decide)
  subst hph
  have b3 := hb.2.2.1
  have b4 := hb.2.2.2
  have f0 := hb.1
  obtain ⟨_, _, l5, l6, _, _, _, k5, k6, _, _, _, r5, r6, _⟩ := lv_all
  refine h6 h ⟨fun z => absurd z (by decide), fun _ => ⟨by decide, fun _ => hsp rfl⟩⟩ ⟨hb.1, fun c hc => ⟨by have := (hb.2.1 c hc).1; omega, (hb.2.1 c hc).2⟩, by omega, b4⟩ p1 ⟨fun z s2 ph2 M R c2 f2 em rp lb ob ep => ?_, fun z s2 r2 f2 => ?_⟩
  · rw [pH_good z] at p2
    rw [p_eta z] at c2
    obtain ⟨ep1, ep2, ep3⟩ := ep.2 (by decide)
    subst ep1
    have g2 := gd.2.2 z
    have gi := gd.2.1 z
    have na : ¬ arT t st1.2 := fun u => u.elim (fun v => v (ep3 (by decide))) (fun v => v (ep2 (by decide)))
    have lm : M.length + R.length = L1.length := by rw [← em, List.length_append, List.length_reverse]
    have p2 : (if cmT t st1.2 = -1 then pX 1 st1.2 else pB (pV t st1.2) (fun y => pB (pF t mb k 6 o y) (fun z => pE (cmT t st1.2) z))) = some (st2, L2) := p2
    by_cases y : cmT t st1.2 = -1
    · rw [if_pos y] at p2
      have e2 := some2 p2
      rw [e2.1] at hk
      exact rg_bad c2 (by omega) ht na y (fun s3 r3 f3 => hk.2 (by show ¬ (1 : Int) = 0; decide) s3 r3 (f2.tr f3))
    · rw [if_neg y] at p2
      obtain ⟨st3, L3, L4, q1, q2, q3⟩ := pB_some p2
      have e3 := some2 q1
      have n0 := ntN_0 R
      have lE : ((E ++ M).length : Int) = E.length + M.length := by rw [List.length_append]; omega
      have hj : JOk c0 bf (o + ntN R) 5 O R (E ++ M) := ⟨fun c hc => by have := (hb.2.1 c hc).1; omega, fun c hc => ⟨by have := (rp c hc).1; omega, (rp c hc).2⟩, fun c hc => (hb.2.1 c hc).2, by omega, lb, by omega, by omega⟩
      refine rg_cmp c2 (by omega) ht na y hj (fun s3 c3 f3 => ?_)
      rw [show o + ntN R - ntN R = o by omega] at c3
      rw [e3.1] at q2
      have v := av_in (t := t) gi.1.1 gi.1.2
      have kc := cm_kd y
      by_cases z2 : (avT t st1.2).1 = 0
      · rw [pH_good z2] at q2
        rw [p_eta z2] at c3
        obtain ⟨st4, L5, L6, u1, u2, u3⟩ := pB_some q2
        have va := (v.2.2 z2).2 (by omega)
        have lO1 : ((O ++ [cmT t st1.2]).length : Int) = O.length + 1 := by rw [List.length_append]; rfl
        have lE1 : ((E ++ M ++ R.reverse).length : Int) = E.length + L1.length := by rw [List.length_append, List.length_append, List.length_reverse]; omega
        have cmv : rkC (cmT t st1.2) = 4 ∧ opC (cmT t st1.2) ∧ cmT t st1.2 ≠ 13 := by
          rcases cm_v (t := t) (a := st1.2) with w | w | w | w
          · exact absurd w y
          all_goals (rw [w]; exact ⟨rfl, ⟨by decide, by decide⟩, by decide⟩)
        refine h6 c3 ⟨fun z => absurd z (by decide), fun _ => ⟨by decide, fun w => absurd rfl w.2⟩⟩ ⟨hb.1, fun c hc => ?_, by omega, by omega⟩ u1 ⟨fun z5 s5 ph5 M5 R5 c5 f5 em5 rp5 lb5 ob5 ep5 => ?_, fun z5 s5 r5 f5 => ?_⟩
        · rcases List.mem_append.1 hc with u | u
          · exact ⟨by have := (hb.2.1 c u).1; omega, (hb.2.1 c u).2⟩
          · rw [List.mem_singleton.1 u]; exact ⟨by omega, cmv.2.1⟩
        · have x := pH_E u2
          rw [x.1] at hk
          have en : ntN (cmT t st1.2 :: R5) = ntN R5 := by
            show (if cmT t st1.2 = 13 then 1 else 0) + ntN R5 = ntN R5
            rw [if_neg cmv.2.2]; omega
          obtain ⟨ep51, ep52, ep53⟩ := ep5.2 (by decide)
          refine hk.1 z5 s5 ph5 (M ++ R.reverse ++ M5) (cmT t st1.2 :: R5) ?_ ((f2.tr f3).tr f5) ?_ (fun c hc => ?_) (by rw [List.length_cons]; omega) (by rw [en]; exact ob5) ⟨fun _ => ⟨by omega, Or.inr (fun u => u.elim (fun v => v (ep53 (by decide))) (fun v => v (ep52 (by decide)))), fun w => absurd w (by decide), fun w => absurd w (by decide)⟩, fun w => absurd w (by decide)⟩
          · rw [en, show O ++ (cmT t st1.2 :: R5) = O ++ [cmT t st1.2] ++ R5 by rw [List.append_assoc]; rfl, ← List.append_assoc, ← List.append_assoc]
            exact c5
          · rw [p3, q3, u3, x.2.1 z5, e3.2, ← em, ← em5, List.reverse_cons]
            simp only [List.append_assoc, List.nil_append]
          · rcases List.mem_cons.1 hc with u | u
            · rw [u]; exact ⟨by omega, cmv.2.1⟩
            · exact ⟨by have := (rp5 c u).1; omega, (rp5 c u).2⟩
        · have x := pH_E u2
          rw [x.1] at hk
          exact hk.2 z5 s5 r5 ((f2.tr f3).tr f5)
      · have b := pH_bad z2 q2
        rw [b.1] at hk
        exact rl_bad c3 z2 (fun s4 r4 f4 => hk.2 z2 s4 r4 ((f2.tr f3).tr f4))
  · have b := pH_bad z p2
    rw [b.1] at hk
    exact hk.2 z s2 r2 f2
end SIM2
