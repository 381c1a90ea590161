/-! formulas: the reference's steps -/
def tst (k : Int) : Prop := k = 1 ∨ k = 5 ∨ k = 6
def arT (t : Tp) (a : Int) : Prop := adT t a ≠ -1 ∨ muT t a ≠ -1
section RGO
variable {g : GT} {e : Nat} {s : Sg} {t : Tp} {ib mb c0 kd ph bg bf pr op opn a : Int} {f : Nat} {st : Int × Int} {O E : List Int} {Q : Int → Sg → Prop}
theorem R_isS0 {c : Int} (h : RTk s t a) (hx : lxT t a = -1) : Mw g (e + 1) M_X13_isSign [(21, 92), (0, c)] s (Ex (if kdT t a = 3 ∧ vlT t a = c then 1 else 0) s) := by
  refine (R_isSign h hx).imp (fun r s' q => ⟨?_, q.2.2⟩)
  by_cases z : kdT t a = 3 ∧ vlT t a = c
  · rw [if_pos z]; exact q.1 z
  · rw [if_neg z]; exact q.2.1 z
theorem R_isTest {k : Int} : Mw g (e + 1) M_X13_isTest [(0, k)] s (fun r s' => (tst k → r = 1) ∧ (¬ tst k → r = 0) ∧ s' = s) := by
  unfold tst
  refine S_X13_isTest (fun _ => ⟨fun q => ⟨fun _ => rfl, fun z => absurd (Or.inl q) z, rfl⟩, fun q => ⟨fun q2 => ⟨fun _ => rfl, fun z => absurd (Or.inr (Or.inl q2)) z, rfl⟩, fun q2 => ⟨fun q3 => ⟨fun z => by omega, fun _ => rfl, rfl⟩, fun q3 => ⟨fun _ => rfl, fun z => absurd (Or.inr (Or.inr q3)) z, rfl⟩⟩⟩⟩)
theorem R_adv2 (ht : RTt s t) (h : RTk s t a) : Mw g (e + 2) M_X13_ahead [(21, 92)] s (fun _ s' => RRw s' t (avT t a) ∧ s' 92 8 = 0 ∧ Fa s s') := by
  obtain ⟨h8, h9, hr, h4, h5, _⟩ := h
  have nd := nd_le hr.2
  exact (R_ahead ht h8 h9 h5 (by omega) nd.2.1).imp (fun _ s' h' => ⟨h'.2.1, h'.1.1, h'.2.2⟩)
theorem RCf.adv (h : RCf s t ib mb c0 f kd ph bg bf pr op opn st O E) (hk : RTk s t a) : Mw g (e + 2) M_X13_ahead [(21, 92)] s (fun _ s' => RCf s' t ib mb c0 f kd ph bg bf pr op opn (avT t a) O E ∧ s' 92 8 = 0 ∧ Fx ib c0 f bf s s') :=
  (R_adv2 h.1 hk).imp (fun _ _ q => ⟨h.fa q.2.2 q.1, q.2.1, Fx.fa q.2.2⟩)
theorem RCf.lex (h : RCf s t ib mb c0 f kd ph bg bf pr op opn (0, a) O E) : Mw g (e + 2) M_X13_lex [(21, 92)] s (fun _ s' => RCf s' t ib mb c0 f kd ph bg bf pr op opn (0, a) O E ∧ RTk s' t a ∧ lxT t a = -1 ∧ Fx ib c0 f bf s s') :=
  (R_lex h.2.1).imp (fun _ _ q => ⟨h.fa q.2 q.1.w, (q.1.2.1 rfl).1, (q.1.2.1 rfl).2, Fx.fa q.2⟩)
/-- a blamed state -/
theorem RCf.blame {k : Int} (h : RCf s t ib mb c0 f kd ph bg bf pr op opn (0, a) O E) (hk : RTk s t a) (k0 : 0 < k) : Mw g (e + 1) M_X13_blame [(21, 92), (0, k), (0, s 92 4)] s (fun _ s' => RRs s' t (k, a) ∧ s' 92 8 = k ∧ Fx ib c0 f bf s s' ∧ (∀ j, j ≠ 8 → j ≠ 9 → s' 92 j = s 92 j)) := by
  refine (R_blame k0).imp (fun _ s' q => ?_)
  have := q.1 hk.1
  exact ⟨⟨by show 0 ≤ k; omega, fun z => absurd z (by show ¬ (k = 0); omega), fun _ => ⟨this.1, by rw [this.2]; exact hk.2.2.2.1⟩⟩, this.1, Fx.fa q.2.2.2, q.2.2.1⟩
theorem R_hold {c : Int} (h : RCf s t ib mb c0 f kd ph bg bf pr op opn st O E) (hb : bf + O.length < 500) : Mw g (e + 1) M_X13_holdsBack [(21, 92), (0, c + 30)] s (fun _ s' => RCf s' t ib mb c0 f kd ph bg bf pr op opn st (O ++ [c]) E ∧ Fx ib c0 f bf s s' ∧ ∀ k, k ≠ 46 → s' 92 k = s 92 k) := by
  obtain ⟨h1, h2, h3, h4, h5, ⟨h6, h6'⟩, h7⟩ := h
  have b0 := h3.2.2.2.2
  refine S_X13_holdsBack (fun _ => ?_)
  rw [h6]
  refine ⟨⟨by omega, by omega⟩, fun s1 e1 s2 e2 => ?_⟩
  have e92 : s1 92 = s 92 := by rw [e1, ups_at _ (by decide)]
  rw [e92, h6, w32_of (show _ ≤ bf + (O.length : Int) + 1 by omega) (by omega)] at e2
  have ek : ∀ k, k ≠ 46 → s2 92 k = s 92 k := fun k hk => by rw [e2, ups_k _ hk, e92]
  have eo : ∀ o, o ≠ 92 → o ≠ 120 → s2 o = s o := fun o a b => by rw [e2, ups_at _ a, e1, ups_at _ b]
  refine ⟨⟨h1.same (ek 2 (by decide)) (eo 93 (by decide) (by decide)), h2.same (fun k hk => ek k (by unfold Ka at hk; omega)), ?_, ?_, ?_, ⟨?_, fun i hi => ?_⟩, ?_⟩, ?_, ek⟩
  · rw [ek 36 (by decide), ek 37 (by decide)]; exact h3
  · rw [ek 43 (by decide), eo 115 (by decide) (by decide), eo 116 (by decide) (by decide), eo 117 (by decide) (by decide), eo 119 (by decide) (by decide), eo 118 (by decide) (by decide)]; exact h4
  · rw [ek 44 (by decide), ek 47 (by decide)]; exact h5
  · rw [e2, ups_eq, List.length_append]; show bf + (O.length : Int) + 1 = bf + ((O.length + 1 : Nat) : Int); omega
  · rw [List.length_append] at hi
    have hi : i < O.length + 1 := hi
    rw [getD_app hi, e2, ups_at _ (by decide), e1]
    by_cases z : i = O.length
    · rw [if_pos z, z, ups_eq]
    · rw [if_neg z, ups_k _ (by omega)]; exact h6' i (by omega)
  · rw [ek 35 (by decide), eo 110 (by decide) (by decide), eo 111 (by decide) (by decide)]; exact h7
  · rw [e2, e1]; exact (Fx.uO (by omega)).tr (Fx.u92 (by omega))
/-- a frame on top -/
theorem R_push {k : Int} (h : RCf s t ib mb c0 f kd ph bg bf pr op opn st O E) (hf : f < 15) (hb : bf + O.length < 500) : Mw g (e + 1) M_X13_pushes [(21, 92), (0, k)] s (fun _ s' => RCf s' t ib mb c0 (f + 1) k 0 1 (bf + O.length) (s 118 (f + 1)) op opn st [] E ∧ Fx ib c0 (f + 1) (bf + O.length) s s' ∧ ∀ k, k ≠ 43 → s' 92 k = s 92 k) := by
  obtain ⟨h1, h2, h3, h4, h5, ⟨h6, h6'⟩, h7⟩ := h
  have b0 := h3.2.2.2.2
  refine S_X13_pushes (fun _ => ?_)
  rw [h4.1]
  refine ⟨⟨by omega, by omega⟩, fun s1 e1 => ?_⟩
  have v1 : s1 92 = s 92 := by rw [e1, ups_at _ (by decide)]
  rw [v1, h4.1]
  refine ⟨⟨by omega, by omega⟩, fun s2 e2 => ?_⟩
  have v2 : s2 92 = s 92 := by rw [e2, ups_at _ (by decide), v1]
  rw [v2, h4.1]
  refine ⟨⟨by omega, by omega⟩, fun s3 e3 => ?_⟩
  have v3 : s3 92 = s 92 := by rw [e3, ups_at _ (by decide), v2]
  rw [v3, h4.1, h6]
  refine ⟨⟨by omega, by omega⟩, fun s4 e4 s5 e5 => ?_⟩
  have v4 : s4 92 = s 92 := by rw [e4, ups_at _ (by decide), v3]
  rw [v4, h4.1, w32_of (by omega) (by omega)] at e5
  have ek : ∀ k, k ≠ 43 → s5 92 k = s 92 k := fun k hk => by rw [e5, ups_k _ hk, v4]
  have eo : ∀ o, o ≠ 92 → o ≠ 115 → o ≠ 116 → o ≠ 117 → o ≠ 119 → s5 o = s o := fun o a b c d x => by rw [e5, ups_at _ a, e4, ups_at _ x, e3, ups_at _ d, e2, ups_at _ c, e1, ups_at _ b]
  refine ⟨⟨h1.same (ek 2 (by decide)) (eo 93 (by decide) (by decide) (by decide) (by decide) (by decide)), h2.same (fun k hk => ek k (by unfold Ka at hk; omega)), ?_, ⟨?_, ?_, ?_, ?_, ?_, ?_⟩, ?_, ⟨?_, fun i hi => absurd hi (by show ¬ i < 0; omega)⟩, ?_⟩, ?_, ek⟩
  · rw [ek 36 (by decide), ek 37 (by decide)]; exact ⟨h3.1, h3.2.1, h3.2.2.1, h3.2.2.2.1, by omega⟩
  · rw [e5, ups_eq]; omega
  · rw [e5, ups_at _ (by decide), e4, ups_at _ (by decide), e3, ups_at _ (by decide), e2, ups_at _ (by decide), e1, show (((f + 1 : Nat)) : Int) = (f : Int) + 1 by omega, ups_eq]
  · rw [e5, ups_at _ (by decide), e4, ups_at _ (by decide), e3, ups_at _ (by decide), e2, show (((f + 1 : Nat)) : Int) = (f : Int) + 1 by omega, ups_eq]
  · rw [e5, ups_at _ (by decide), e4, ups_at _ (by decide), e3, show (((f + 1 : Nat)) : Int) = (f : Int) + 1 by omega, ups_eq]
  · rw [e5, ups_at _ (by decide), e4, show (((f + 1 : Nat)) : Int) = (f : Int) + 1 by omega, ups_eq]
  · rw [eo 118 (by decide) (by decide) (by decide) (by decide) (by decide), show (((f + 1 : Nat)) : Int) = (f : Int) + 1 by omega]
  · rw [ek 44 (by decide), ek 47 (by decide)]; exact h5
  · rw [ek 46 (by decide), h6]; show bf + (O.length : Int) = bf + (O.length : Int) + ((0 : Nat) : Int); omega
  · rw [ek 35 (by decide), eo 110 (by decide) (by decide) (by decide) (by decide) (by decide), eo 111 (by decide) (by decide) (by decide) (by decide) (by decide)]; exact h7
  · rw [e5, e4, e3, e2, e1]
    exact ((((Fx.uF (by decide) (by decide) (by omega)).tr (Fx.uF (by decide) (by decide) (by omega))).tr (Fx.uF (by decide) (by decide) (by omega))).tr (Fx.uF (by decide) (by decide) (by omega))).tr (Fx.u92 (by omega))
/-- back to the frame below -/
theorem RCf.back {s2 s3 : Sg} {k2 p2 b2 r2 o2 op2 : Int} {st2 : Int × Int} {E2 : List Int} (h : RCf s t ib mb c0 f kd ph bg bf pr op opn st O E) (h2 : RCf s2 t ib mb c0 (f + 1) k2 p2 b2 (bf + O.length) r2 op2 o2 st2 [] E2) (hx : Fx ib c0 (f + 1) (bf + O.length) s s2) (e3 : s3 = ups s2 92 43 ((f : Int) + 1)) : RCf s3 t ib mb c0 f kd ph bg bf pr op2 o2 st2 O E2 ∧ Fx ib c0 f bf s s3 := by
  obtain ⟨h1, _, h3, ⟨_, h115, h116, h117, h119, h118⟩, _, ⟨_, h6'⟩, _⟩ := h
  obtain ⟨q1, q2, q3, q4, q5, ⟨q6, _⟩, q7⟩ := h2
  have ek : ∀ k, k ≠ 43 → s3 92 k = s2 92 k := fun k hk => by rw [e3, ups_k _ hk]
  have eo : ∀ o, o ≠ 92 → s3 o = s2 o := fun o a => by rw [e3, ups_at _ a]
  have ef : ∀ o, 115 ≤ o → o ≤ 119 → s3 o f = s o f := fun o a b => by rw [eo o (by omega)]; exact hx.2.2.1 o f a b (by omega)
  refine ⟨⟨q1.same (ek 2 (by decide)) (eo 93 (by decide)), q2.same (fun k hk => ek k (by unfold Ka at hk; omega)), ?_, ⟨by rw [e3, ups_eq], by rw [ef 115 (by decide) (by decide)]; exact h115, by rw [ef 116 (by decide) (by decide)]; exact h116, by rw [ef 117 (by decide) (by decide)]; exact h117, by rw [ef 119 (by decide) (by decide)]; exact h119, by rw [ef 118 (by decide) (by decide)]; exact h118⟩, ?_, ⟨?_, fun i hi => ?_⟩, ?_⟩, (hx.wk (by omega) (by omega)).tr (by rw [e3]; exact Fx.u92 (by omega))⟩
  · rw [ek 36 (by decide), ek 37 (by decide)]; exact ⟨q3.1, q3.2.1, q3.2.2.1, q3.2.2.2.1, h3.2.2.2.2⟩
  · rw [ek 44 (by decide), ek 47 (by decide)]; exact q5
  · rw [ek 46 (by decide), q6]; show bf + (O.length : Int) + ((0 : Nat) : Int) = bf + (O.length : Int); omega
  · rw [eo 120 (by decide), hx.2.2.2.1 _ (by omega)]; exact h6' i hi
  · rw [ek 35 (by decide), eo 110 (by decide), eo 111 (by decide)]; exact q7
/-- the loop's head -/
theorem rl_70 {d : Nat} (h8 : s 92 8 = 0) (h : P_X13_reads_43 g d Q s 1) : P_X13_reads_70 g d Q s 1 := S_X13_reads_70 ⟨fun z => absurd z (by decide), fun _ => ⟨fun z => absurd h8 z, fun _ => h⟩⟩
theorem rl_70b {d : Nat} {v : Int} (h : s 92 8 ≠ 0 ∨ v = 0) (hq : Q 0 s) : P_X13_reads_70 g d Q s v := by
  have fin : P_X13_reads_43 g d Q s 0 := S_X13_reads_43 ⟨fun _ => hq, fun z => absurd rfl z⟩
  refine S_X13_reads_70 ⟨fun _ => fin, fun z => ⟨fun _ => fin, fun y => ?_⟩⟩
  rcases h with x | x
  · exact absurd y x
  · exact absurd x z
/-- a fault ends the loop -/
theorem rl_bad (h : RCf s t ib mb c0 f kd ph bg bf pr op opn st O E) (z : st.1 ≠ 0) (hq : ∀ s', RRs s' t st → Fx ib c0 f bf s s' → Q 0 s') : P_X13_reads_43 g (e + 4) Q s 1 := by
  have s0 := h.2.1.1
  refine S_X13_reads_43 ⟨fun y => absurd y (by decide), fun _ => ⟨fun _ => S_X13_goesOn ((R_lex h.2.1).imp (fun _ s2 q => ?_)), fun _ => S_X13_operand ((R_lex h.2.1).imp (fun _ s2 q => ?_))⟩⟩
  · have b := q.1.2.2 z
    refine ⟨fun y => ?_, fun _ => rl_70b (Or.inr rfl) (hq s2 q.1 (Fx.fa q.2))⟩
    rw [b.1] at y; omega
  · have b := q.1.2.2 z
    refine ⟨fun y => ?_, fun _ => ⟨Or.inr rfl, fun s5 e5 => rl_70b (Or.inl ?_) (hq s5 ?_ ((Fx.fa q.2).tr (by rw [e5]; exact Fx.u92 (by omega))))⟩⟩
    · rw [b.1] at y; omega
    · rw [e5, ups_k _ (by decide), b.1]; exact z
    · refine ⟨s0, fun y => absurd y z, fun _ => ?_⟩
      rw [e5, ups_k _ (by decide), ups_k _ (by decide)]
      exact b
/-- goesOn, dispatched: at the place of lex -/
theorem rg_0 (h : RCf s t ib mb c0 f kd ph bg bf pr 1 opn (0, a) O E) (hf : f < 20)
    (hA : ∀ s2, RCf s2 t ib mb c0 f kd ph bg bf pr 1 opn (0, a) O E → RTk s2 t a → lxT t a = -1 → Fx ib c0 f bf s s2 → ph < 2 → arT t a → P_X13_goesOn_87 g (e + 3) (fun r1 s2 => P_X13_reads_70 g (e + 4) Q s2 r1) s2)
    (hB : ∀ s2 r, RCf s2 t ib mb c0 f kd ph bg bf pr 1 opn (0, a) O E → RTk s2 t a → lxT t a = -1 → Fx ib c0 f bf s s2 → (2 ≤ ph ∨ ¬ arT t a) → ((tst kd → r = 1) ∧ (¬ tst kd → r = 0)) → P_X13_goesOn_188 g (e + 3) (fun r1 s2 => P_X13_reads_70 g (e + 4) Q s2 r1) s2 f kd r) : P_X13_reads_43 g (e + 4) Q s 1 := by
  refine S_X13_reads_43 ⟨fun y => absurd y (by decide), fun _ => ⟨fun _ => S_X13_goesOn ((h.lex).imp (fun _ s2 q => ?_)), fun y => ?_⟩⟩
  · obtain ⟨c2, k2, x2, f2⟩ := q
    have h4 := c2.2.2.2.1
    rw [k2.1, h4.1, w32_of (show _ ≤ (f : Int) + 1 - 1 by omega) (by omega), show (f : Int) + 1 - 1 = (f : Int) by omega, h4.2.1]
    refine ⟨fun _ => ⟨⟨by omega, by omega⟩, (R_isTest).imp (fun r3 s4 q => ?_)⟩, fun y => absurd (by decide) y⟩
    obtain ⟨r1, r2, r3'⟩ := q
    subst r3'
    rw [h4.2.2.1]
    have B := fun (z : 2 ≤ ph ∨ ¬ arT t a) => hB s4 r3 c2 k2 x2 f2 z ⟨r1, r2⟩
    have I : ∀ c, Mw g (e + 3) M_X13_isSign [(21, 92), (0, c)] s4 (Ex (if kdT t a = 3 ∧ vlT t a = c then 1 else 0) s4) := fun c => R_isS0 k2 x2
    have y1 : ∀ c, ¬ (if kdT t a = 3 ∧ vlT t a = c then (1 : Int) else 0) = 0 → kdT t a = 3 ∧ vlT t a = c := fun c q => Classical.byContradiction (fun u => q (if_neg u))
    have n1 : ∀ c, (if kdT t a = 3 ∧ vlT t a = c then (1 : Int) else 0) = 0 → ¬ (kdT t a = 3 ∧ vlT t a = c) := fun c q u => by rw [if_pos u] at q; omega
    refine ⟨⟨by omega, by omega⟩, fun z => B (Or.inl z), fun z => ?_⟩
    have A := fun (u : arT t a) => hA s4 c2 k2 x2 f2 (by omega) u
    refine Mw.ex (I 43) ⟨fun q => A (Or.inl ?_), fun q => Mw.ex (I 45) ⟨fun q2 => A (Or.inl ?_), fun q2 => Mw.ex (I 42) ⟨fun q3 => A (Or.inr ?_), fun q3 => Mw.ex (I 47) ⟨fun q4 => A (Or.inr ?_), fun q4 => Mw.ex (I 37) ⟨fun q5 => B (Or.inr ?_), fun q5 => A (Or.inr ?_)⟩⟩⟩⟩⟩
    · unfold adT; rw [if_pos (y1 _ q)]; decide
    · unfold adT; rw [if_neg (n1 _ q), if_pos (y1 _ q2)]; decide
    · unfold muT; rw [if_pos (y1 _ q3)]; decide
    · unfold muT; rw [if_neg (n1 _ q3), if_pos (y1 _ q4)]; decide
    · rintro (u | u)
      · apply u; unfold adT; rw [if_neg (n1 _ q), if_neg (n1 _ q2)]
      · apply u; unfold muT; rw [if_neg (n1 _ q3), if_neg (n1 _ q4), if_neg (n1 _ q5)]
    · unfold muT; rw [if_neg (n1 _ q3), if_neg (n1 _ q4), if_pos (y1 _ q5)]; decide
  · rw [h.2.2.2.2.1.2] at y; exact absurd y (by decide)
end RGO
