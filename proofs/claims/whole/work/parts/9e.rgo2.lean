/-! formulas: the reference's steps behind an operand -/
section RGO2
variable {g : GT} {e : Nat} {s : Sg} {t : Tp} {ib mb c0 kd ph bg bf pr op opn a l : Int} {f : Nat} {st : Int × Int} {O R E : List Int} {Q : Int → Sg → Prop}
/-- what a step of the stacks wants -/
def JOk (c0 bf opn l : Int) (O R E : List Int) : Prop := (∀ c, c ∈ O → rkC c < l) ∧ (∀ c, c ∈ R → l ≤ rkC c ∧ opC c) ∧ (∀ c, c ∈ O → opC c) ∧ c0 + E.length + R.length ≤ 1600 ∧ bf + O.length + R.length < 500 ∧ ntN R ≤ opn ∧ opn ≤ 100
theorem J_joins (h : RCf s t ib mb c0 f kd ph bg bf pr op opn st (O ++ R) E) (hj : JOk c0 bf opn l O R E) (hf : f < 20) : Mw g (e + 2) M_X13_joins [(21, 92), (0, l)] s (fun _ s' => RCf s' t ib mb c0 f kd ph bg bf pr op (opn - ntN R) st O (E ++ R.reverse) ∧ Fx ib c0 f bf s s') := by
  obtain ⟨j1, j2, j3, j4, j5, j6, j7⟩ := hj
  have h' : RCf s t ib mb c0 f kd ph bg bf pr op opn st (O ++ R.reverse.reverse) E := by rw [List.reverse_reverse]; exact h
  have := R_joins (g := g) (e := e) (s := s) (l := l) j1 hf R.reverse E s opn (fun c hc => j2 c (List.mem_reverse.mp hc)) j3 h' (by rw [List.length_reverse]; exact j4) (by rw [List.reverse_reverse, List.length_append]; omega) (by rw [ntN_rev]; exact ⟨j6, j7⟩) Fx.rf
  rw [ntN_rev] at this
  exact S_X13_joins (fun _ => this)
theorem RCf.tk (h : RCf s t ib mb c0 f kd ph bg bf pr op opn (0, a) O E) : RTk s t a ∧ lxT t a = -1 := h.2.1.2.1 rfl
/-- an op is held back, the next token laid out, an operand wanted -/
theorem rg_174 {c : Int} (h : RCf s t ib mb c0 f kd ph bg bf pr 1 opn (0, a) O E) (hb : bf + O.length < 500) (hq : ∀ s', RCf s' t ib mb c0 f kd ph bg bf pr 0 opn (avT t a) (O ++ [c]) E → Fx ib c0 f bf s s' → P_X13_reads_43 g (e + 4) Q s' 1) : P_X13_goesOn_174 g (e + 3) (fun r1 s2 => P_X13_reads_70 g (e + 4) Q s2 r1) s (c + 30) := by
  refine S_X13_goesOn_174 ((R_hold h hb).imp (fun _ s2 q => ?_))
  refine (q.1.adv q.1.tk.1).imp (fun _ s4 q4 s5 e5 => ?_)
  refine rl_70 (by rw [e5, ups_k _ (by decide)]; exact q4.2.1) (hq s5 (q4.1.u47 e5) ((q.2.1.tr q4.2.2).tr (by rw [e5]; exact Fx.u92 (by omega))))
theorem rg_arith {c : Int} (h : RCf s t ib mb c0 f kd ph bg bf pr 1 opn (0, a) (O ++ R) E) (hf : f < 20) (hp : ph < 2) (hc : (adT t a ≠ -1 ∧ c = adT t a ∧ l = 5) ∨ (adT t a = -1 ∧ muT t a ≠ -1 ∧ c = muT t a ∧ l = 6)) (hj : JOk c0 bf opn l O R E)
    (hq : ∀ s', RCf s' t ib mb c0 f kd ph bg bf pr 0 (opn - ntN R) (avT t a) (O ++ [c]) (E ++ R.reverse) → Fx ib c0 f bf s s' → P_X13_reads_43 g (e + 4) Q s' 1) : P_X13_reads_43 g (e + 4) Q s 1 := by
  refine rg_0 h hf (fun s2 c2 k2 x2 f2 _ _ => ?_) (fun s2 r c2 k2 x2 f2 z _ => ?_)
  · have I : ∀ (s : Sg) (_ : RTk s t a) (c : Int), Mw g (e + 3) M_X13_isSign [(21, 92), (0, c)] s (Ex (if kdT t a = 3 ∧ vlT t a = c then 1 else 0) s) := fun s k2 c => R_isS0 k2 x2
    have y1 : ∀ c, ¬ (if kdT t a = 3 ∧ vlT t a = c then (1 : Int) else 0) = 0 → kdT t a = 3 ∧ vlT t a = c := fun c q => Classical.byContradiction (fun u => q (if_neg u))
    have n1 : ∀ c, (if kdT t a = 3 ∧ vlT t a = c then (1 : Int) else 0) = 0 → ¬ (kdT t a = 3 ∧ vlT t a = c) := fun c q u => by rw [if_pos u] at q; omega
    have j5 := hj.2.2.2.2.1
    have go : P_X13_goesOn_112 g (e + 3) (fun r1 s2 => P_X13_reads_70 g (e + 4) Q s2 r1) s2 l := by
      refine S_X13_goesOn_112 ((J_joins c2 hj hf).imp (fun _ s3 q3 => ?_))
      have k3 := q3.1.tk.1
      have fin : ∀ x, x = c + 30 → P_X13_goesOn_174 g (e + 3) (fun r1 s2 => P_X13_reads_70 g (e + 4) Q s2 r1) s3 x := fun x hx => by
        rw [hx]
        exact rg_174 q3.1 (by omega) (fun s' c' f' => hq s' c' ((f2.tr q3.2).tr f'))
      refine Mw.ex (I s3 k3 43) ⟨fun q => Mw.ex (I s3 k3 45) ⟨fun q2 => Mw.ex (I s3 k3 42) ⟨fun q4 => Mw.ex (I s3 k3 47) ⟨fun q5 => fin 35 ?_, fun q5 => fin 34 ?_⟩, fun q4 => fin 33 ?_⟩, fun q2 => fin 32 ?_⟩, fun q => fin 31 ?_⟩
      · have ad : adT t a = -1 := by unfold adT; rw [if_neg (n1 _ q), if_neg (n1 _ q2)]
        rcases hc with u | u
        · exact absurd ad u.1
        · have m := u.2.1
          rw [u.2.2.1]
          unfold muT at m ⊢
          rw [if_neg (n1 _ q4), if_neg (n1 _ q5)] at m ⊢
          split at m
          · rename_i w; rw [if_pos w]; rfl
          · exact absurd rfl m
      · have ad : adT t a = -1 := by unfold adT; rw [if_neg (n1 _ q), if_neg (n1 _ q2)]
        rcases hc with u | u
        · exact absurd ad u.1
        · rw [u.2.2.1]; unfold muT; rw [if_neg (n1 _ q4), if_pos (y1 _ q5)]; rfl
      · have ad : adT t a = -1 := by unfold adT; rw [if_neg (n1 _ q), if_neg (n1 _ q2)]
        rcases hc with u | u
        · exact absurd ad u.1
        · rw [u.2.2.1]; unfold muT; rw [if_pos (y1 _ q4)]; rfl
      · have ad : adT t a = 2 := by unfold adT; rw [if_neg (n1 _ q), if_pos (y1 _ q2)]
        rcases hc with u | u
        · rw [u.2.1, ad]; rfl
        · omega
      · have ad : adT t a = 1 := by unfold adT; rw [if_pos (y1 _ q)]
        rcases hc with u | u
        · rw [u.2.1, ad]; rfl
        · omega
    refine S_X13_goesOn_87 (Mw.ex (I s2 k2 43) ⟨fun q => S_X13_goesOn_106 ?_, fun q => Mw.ex (I s2 k2 45) ⟨fun q2 => ?_, fun q2 => S_X13_goesOn_106 ?_⟩⟩)
    · have ad : adT t a = 1 := by unfold adT; rw [if_pos (y1 _ q)]
      rcases hc with u | u
      · rw [u.2.2] at go; exact go
      · omega
    · have ad : adT t a = -1 := by unfold adT; rw [if_neg (n1 _ q), if_neg (n1 _ q2)]
      rcases hc with u | u
      · exact absurd ad u.1
      · rw [u.2.2.2] at go; exact go
    · have ad : adT t a = 2 := by unfold adT; rw [if_neg (n1 _ q), if_pos (y1 _ q2)]
      rcases hc with u | u
      · rw [u.2.2] at go; exact go
      · omega
  · exfalso
    rcases z with z | z
    · omega
    · apply z
      rcases hc with u | u
      · exact Or.inl u.1
      · exact Or.inr u.2.1
theorem rg_cmp (h : RCf s t ib mb c0 f kd 0 bg bf pr 1 opn (0, a) (O ++ R) E) (hf : f < 20) (ht : tst kd) (ha : ¬ arT t a) (hc : cmT t a ≠ -1) (hj : JOk c0 bf opn 5 O R E)
    (hq : ∀ s', RCf s' t ib mb c0 f kd 1 bg bf pr 0 (opn - ntN R) (avT t a) (O ++ [cmT t a]) (E ++ R.reverse) → Fx ib c0 f bf s s' → P_X13_reads_43 g (e + 4) Q s' 1) : P_X13_reads_43 g (e + 4) Q s 1 := by
  refine rg_0 h hf (fun s2 c2 k2 x2 f2 _ z => absurd z ha) (fun s2 r c2 k2 x2 f2 _ hr => ?_)
  have r1 := hr.1 ht
  have I : ∀ (s : Sg) (_ : RTk s t a) (c : Int), Mw g (e + 3) M_X13_isSign [(21, 92), (0, c)] s (Ex (if kdT t a = 3 ∧ vlT t a = c then 1 else 0) s) := fun s k2 c => R_isS0 k2 x2
  have y1 : ∀ c, ¬ (if kdT t a = 3 ∧ vlT t a = c then (1 : Int) else 0) = 0 → kdT t a = 3 ∧ vlT t a = c := fun c q => Classical.byContradiction (fun u => q (if_neg u))
  have n1 : ∀ c, (if kdT t a = 3 ∧ vlT t a = c then (1 : Int) else 0) = 0 → ¬ (kdT t a = 3 ∧ vlT t a = c) := fun c q u => by rw [if_pos u] at q; omega
  have j5 := hj.2.2.2.2.1
  have go : P_X13_goesOn_228 g (e + 3) (fun r1 s2 => P_X13_reads_70 g (e + 4) Q s2 r1) s2 f := by
    refine S_X13_goesOn_228 ((J_joins c2 hj hf).imp (fun _ s3 q3 => ?_))
    have k3 := q3.1.tk.1
    have fin : ∀ x, x = cmT t a + 30 → P_X13_goesOn_264 g (e + 3) (fun r1 s2 => P_X13_reads_70 g (e + 4) Q s2 r1) s3 f x := fun x hx => by
      rw [hx]
      refine S_X13_goesOn_264 ((R_hold q3.1 (by omega)).imp (fun _ s4 q4 => ⟨⟨by omega, by omega⟩, fun s5 e5 => ?_⟩))
      have c5 := q4.1.uF (o := 116) (by omega) e5
      refine (c5.adv c5.tk.1).imp (fun _ s6 q6 s7 e7 => ?_)
      refine rl_70 (by rw [e7, ups_k _ (by decide)]; exact q6.2.1) (hq s7 (q6.1.u47 e7) (((((f2.tr q3.2).tr q4.2.1).tr (by rw [e5]; exact Fx.uF (by decide) (by decide) (by omega))).tr q6.2.2).tr (by rw [e7]; exact Fx.u92 (by omega))))
    refine Mw.ex (I s3 k3 60) ⟨fun q => Mw.ex (I s3 k3 62) ⟨fun q2 => fin 40 ?_, fun q2 => fin 39 ?_⟩, fun q => fin 38 ?_⟩
    · unfold cmT at hc ⊢
      rw [if_neg (n1 _ q), if_neg (n1 _ q2)] at hc ⊢
      split at hc
      · rename_i w; rw [if_pos w]; rfl
      · exact absurd rfl hc
    · unfold cmT; rw [if_neg (n1 _ q), if_pos (y1 _ q2)]; rfl
    · unfold cmT; rw [if_pos (y1 _ q)]; rfl
  have p0 := c2.2.2.2.1.2.2.1
  refine S_X13_goesOn_188 ⟨fun q => by omega, fun _ => ⟨⟨by omega, by omega⟩, fun q => absurd p0 q, fun _ => Mw.ex (I s2 k2 60) ⟨fun _ => go, fun q => Mw.ex (I s2 k2 62) ⟨fun _ => go, fun q2 => Mw.ex (I s2 k2 61) ⟨fun q3 => ?_, fun _ => go⟩⟩⟩⟩⟩
  exfalso
  apply hc
  unfold cmT
  rw [if_neg (n1 _ q), if_neg (n1 _ q2), if_neg (n1 _ q3)]
/-- goesOn at 285: no sign of a sum, no comparison -/
theorem rg_285 (h : RCf s t ib mb c0 f kd ph bg bf pr 1 opn (0, a) O E) (hf : f < 20) (ha : 2 ≤ ph ∨ ¬ arT t a) (hc : ¬ tst kd ∨ ph ≠ 0 ∨ cmT t a = -1)
    (hq : ∀ s2 r, RCf s2 t ib mb c0 f kd ph bg bf pr 1 opn (0, a) O E → RTk s2 t a → lxT t a = -1 → Fx ib c0 f bf s s2 → ((tst kd → r = 1) ∧ (¬ tst kd → r = 0)) → P_X13_goesOn_285 g (e + 3) (fun r1 s2 => P_X13_reads_70 g (e + 4) Q s2 r1) s2 f kd r) : P_X13_reads_43 g (e + 4) Q s 1 := by
  refine rg_0 h hf (fun s2 c2 k2 x2 f2 z1 z => ?_) (fun s2 r c2 k2 x2 f2 _ hr => ?_)
  · exfalso
    rcases ha with u | u
    · omega
    · exact u z
  · have fin := hq s2 r c2 k2 x2 f2 hr
    have I : ∀ (c : Int), Mw g (e + 3) M_X13_isSign [(21, 92), (0, c)] s2 (Ex (if kdT t a = 3 ∧ vlT t a = c then 1 else 0) s2) := fun c => R_isS0 k2 x2
    have y1 : ∀ c, ¬ (if kdT t a = 3 ∧ vlT t a = c then (1 : Int) else 0) = 0 → kdT t a = 3 ∧ vlT t a = c := fun c q => Classical.byContradiction (fun u => q (if_neg u))
    have n1 : ∀ c, (if kdT t a = 3 ∧ vlT t a = c then (1 : Int) else 0) = 0 → ¬ (kdT t a = 3 ∧ vlT t a = c) := fun c q u => by rw [if_pos u] at q; omega
    have p0 := c2.2.2.2.1.2.2.1
    refine S_X13_goesOn_188 ⟨fun _ => fin, fun q => ⟨⟨by omega, by omega⟩, fun _ => fin, fun q2 => ?_⟩⟩
    have ht : tst kd := Classical.byContradiction (fun u => q (hr.2 u))
    have cm : cmT t a = -1 := by
      rcases hc with u | u | u
      · exact absurd ht u
      · rw [p0] at q2; exact absurd q2 u
      · exact u
    refine Mw.ex (I 60) ⟨fun q3 => ?_, fun q3 => Mw.ex (I 62) ⟨fun q4 => ?_, fun q4 => Mw.ex (I 61) ⟨fun _ => fin, fun q5 => ?_⟩⟩⟩
    · unfold cmT at cm; rw [if_pos (y1 _ q3)] at cm; omega
    · unfold cmT at cm; rw [if_neg (n1 _ q3), if_pos (y1 _ q4)] at cm; omega
    · unfold cmT at cm; rw [if_neg (n1 _ q3), if_neg (n1 _ q4), if_pos (y1 _ q5)] at cm; omega
theorem wd_ar {t : Tp} {a : Int} (h : wdT t a ≠ 31) : ¬ arT t a ∧ cmT t a = -1 := by
  have k1 : kdT t a = 1 := by
    apply Classical.byContradiction
    intro z
    apply h
    unfold wdT
    rw [if_neg z]
  have n : ∀ c, ¬ (kdT t a = 3 ∧ vlT t a = c) := fun c z => by omega
  refine ⟨?_, ?_⟩
  · rintro (u | u)
    · apply u; unfold adT; rw [if_neg (n _), if_neg (n _)]
    · apply u; unfold muT; rw [if_neg (n _), if_neg (n _), if_neg (n _)]
  · unfold cmT; rw [if_neg (n _), if_neg (n _), if_neg (n _)]
theorem rg_and (h : RCf s t ib mb c0 f kd ph bg bf pr 1 opn (0, a) (O ++ R) E) (hf : f < 20) (ht : tst kd) (hp : ph ≠ 0) {c : Int} (hc : (wdT t a = 26 ∧ c = 11 ∧ l = 2) ∨ (wdT t a = 25 ∧ c = 12 ∧ l = 1)) (hj : JOk c0 bf opn l O R E)
    (hq : ∀ s', RCf s' t ib mb c0 f kd 0 1 bf pr 0 (opn - ntN R) (avT t a) (O ++ [c]) (E ++ R.reverse) → Fx ib c0 f bf s s' → P_X13_reads_43 g (e + 4) Q s' 1) : P_X13_reads_43 g (e + 4) Q s 1 := by
  have w31 : wdT t a ≠ 31 := by omega
  have wa := wd_ar w31
  refine rg_285 h hf (Or.inr wa.1) (Or.inr (Or.inr wa.2)) (fun s2 r c2 k2 x2 f2 hr => ?_)
  have r1 := hr.1 ht
  have j5 := hj.2.2.2.2.1
  have p0 := c2.2.2.2.1.2.2.1
  have W26 := R_isWord (g := g) (e := e + 2) (k := 26) (w := 6385252) c2.1.2.1 k2 x2 (by decide) rfl
  have W25 := R_isWord (g := g) (e := e + 2) (k := 25) (w := 28530) c2.1.2.1 k2 x2 (by decide) rfl
  have fin : ∀ (s3 : Sg) (x : Int), RCf s3 t ib mb c0 f kd ph bg bf pr 1 (opn - ntN R) (0, a) O (E ++ R.reverse) → Fx ib c0 f bf s s3 → x = c + 30 → P_X13_goesOn_372 g (e + 3) (fun r1 s2 => P_X13_reads_70 g (e + 4) Q s2 r1) s3 f x := fun s3 x c3 f3 hx => by
    rw [hx]
    refine S_X13_goesOn_372 ((R_hold c3 (by omega)).imp (fun _ s4 q4 => ⟨⟨by omega, by omega⟩, fun s5 e5 => ⟨⟨by omega, by omega⟩, fun s6 e6 => ?_⟩⟩))
    have c5 := q4.1.uF (o := 116) (by omega) e5
    have c6 := c5.uF (o := 117) (by omega) e6
    refine (c6.adv c6.tk.1).imp (fun _ s7 q7 s8 e8 => ?_)
    have x5 : Fx ib c0 f bf s4 s5 := by rw [e5]; exact Fx.uF (by decide) (by decide) (by omega)
    have x6 : Fx ib c0 f bf s5 s6 := by rw [e6]; exact Fx.uF (by decide) (by decide) (by omega)
    refine rl_70 (by rw [e8, ups_k _ (by decide)]; exact q7.2.1) (hq s8 (q7.1.u47 e8) (((((f3.tr q4.2.1).tr x5).tr x6).tr q7.2.2).tr (by rw [e8]; exact Fx.u92 (by omega))))
  have h327 : P_X13_goesOn_309 g (e + 3) (fun r1 s2 => P_X13_reads_70 g (e + 4) Q s2 r1) s2 f := by
    refine S_X13_goesOn_309 ⟨⟨by omega, by omega⟩, fun _ => S_X13_goesOn_327 ⟨fun _ => Mw.ex W26 ⟨fun q => ?_, fun q => ?_⟩, fun q => absurd (by rw [k2.1]; decide) q⟩, fun q => ?_⟩
    · have n26 : ¬ wdT t a = ((26 : Nat) : Int) := fun u => by rw [if_pos u] at q; omega
      have hc' := hc.resolve_left (fun u => n26 u.1)
      have hj' := hj
      rw [hc'.2.2] at hj'
      refine S_X13_goesOn_356 ((J_joins c2 hj' hf).imp (fun _ s3 q3 => ⟨fun _ => fin s3 42 q3.1 (f2.tr q3.2) (by rw [hc'.2.1]; rfl), fun z => ?_⟩))
      rw [if_neg n26] at z; exact absurd rfl z
    · have y26 : wdT t a = ((26 : Nat) : Int) := Classical.byContradiction (fun u => q (if_neg u))
      have hc' := hc.resolve_right (fun u => by omega)
      have hj' := hj
      rw [hc'.2.2] at hj'
      refine S_X13_goesOn_356 ((J_joins c2 hj' hf).imp (fun _ s3 q3 => ⟨fun z => ?_, fun _ => fin s3 41 q3.1 (f2.tr q3.2) (by rw [hc'.2.1]; rfl)⟩))
      rw [if_pos y26] at z; omega
    · rw [p0] at q; exact absurd q hp
  refine S_X13_goesOn_285 ⟨fun q => by omega, fun _ => Mw.ex W26 ⟨fun _ => h327, fun q => Mw.ex W25 ⟨fun q2 => ?_, fun _ => h327⟩⟩⟩
  exfalso
  rcases hc with u | u
  · rw [if_pos (show wdT t a = ((26 : Nat) : Int) from u.1)] at q; omega
  · rw [if_pos (show wdT t a = ((25 : Nat) : Int) from u.1)] at q2; omega
/-- behind a fault goesOn ends -/
theorem g_422b {x : Int} (h8 : 0 < s 92 8) (hk : 0 ≤ x) (hq : ∀ s', (∀ j, j ≠ 8 → j ≠ 9 → s' 92 j = s 92 j) → s' = s → P_X13_reads_70 g (e + 4) Q s' 0) : P_X13_goesOn_422 g (e + 3) (fun r1 s2 => P_X13_reads_70 g (e + 4) Q s2 r1) s f x := by
  have fin := hq s (fun _ _ _ => rfl) rfl
  have h546 : ∀ y, P_X13_goesOn_546 g (e + 3) (fun r1 s2 => P_X13_reads_70 g (e + 4) Q s2 r1) s f y := fun y => S_X13_goesOn_546 ⟨fun q => by omega, fun _ => fin⟩
  have h470 : ∀ y, P_X13_goesOn_470 g (e + 3) (fun r1 s2 => P_X13_reads_70 g (e + 4) Q s2 r1) s f y := fun y => S_X13_goesOn_470 ⟨fun q => by omega, fun _ => fin⟩
  have bl : ∀ (P : Sg → Prop), P s → Mw g (e + 3) M_X13_blame [(21, 92), (0, 1), (0, s 92 4)] s (fun _ s' => P s') := fun P hP => (R_blame (by decide)).imp (fun _ s' q => by rw [q.2.1 h8]; exact hP)
  have h531 : ∀ y c, P_X13_goesOn_531 g (e + 3) (fun r1 s2 => P_X13_reads_70 g (e + 4) Q s2 r1) s f y c := fun y c => by
    refine S_X13_goesOn_531 (S_X13_isSign (fun _ => ⟨fun _ => ⟨fun _ => h546 y, fun _ => bl _ (h546 y)⟩, fun _ => ⟨fun _ => ⟨fun _ => h546 y, fun _ => bl _ (h546 y)⟩, fun _ => ⟨fun _ => h546 y, fun _ => bl _ (h546 y)⟩⟩⟩))
  have h452 : ∀ y, P_X13_goesOn_452 g (e + 3) (fun r1 s2 => P_X13_reads_70 g (e + 4) Q s2 r1) s f y := fun y => by
    refine S_X13_goesOn_452 (S_X13_isSign (fun _ => ⟨fun _ => ⟨fun _ => h470 y, fun _ => bl _ (h470 y)⟩, fun _ => ⟨fun _ => ⟨fun _ => h470 y, fun _ => bl _ (h470 y)⟩, fun _ => ⟨fun _ => h470 y, fun _ => bl _ (h470 y)⟩⟩⟩))
  exact S_X13_goesOn_422 ⟨fun _ => ⟨fun _ => h452 _, fun _ => ⟨fun _ => ⟨fun _ => h531 _ _, fun _ => h531 _ _⟩, fun _ => h452 _⟩⟩, fun _ => ⟨fun _ => fin, fun z => by omega⟩⟩
/-- a comparison is wanting -/
theorem rg_bad (h : RCf s t ib mb c0 f kd 0 bg bf pr 1 opn (0, a) O E) (hf : f < 20) (ht : tst kd) (ha : ¬ arT t a) (hc : cmT t a = -1) (hq : ∀ s', RRs s' t (1, a) → Fx ib c0 f bf s s' → Q 0 s') : P_X13_reads_43 g (e + 4) Q s 1 := by
  refine rg_285 h hf (Or.inr ha) (Or.inr (Or.inr hc)) (fun s2 r c2 k2 x2 f2 hr => ?_)
  have r1 := hr.1 ht
  have p0 := c2.2.2.2.1.2.2.1
  have W26 := R_isWord (g := g) (e := e + 2) (k := 26) (w := 6385252) c2.1.2.1 k2 x2 (by decide) rfl
  have W25 := R_isWord (g := g) (e := e + 2) (k := 25) (w := 28530) c2.1.2.1 k2 x2 (by decide) rfl
  have kd0 : 0 ≤ kd := by unfold tst at ht; omega
  have end0 : ∀ s3, RRs s3 t (1, a) → s3 92 8 = 1 → Fx ib c0 f bf s s3 → P_X13_reads_70 g (e + 4) Q s3 0 := fun s3 rr h8 f3 => rl_70b (Or.inr rfl) (hq s3 rr f3)
  have h309 : P_X13_goesOn_309 g (e + 3) (fun r1 s2 => P_X13_reads_70 g (e + 4) Q s2 r1) s2 f := by
    refine S_X13_goesOn_309 ⟨⟨by omega, by omega⟩, fun q => absurd p0 q, fun _ => (c2.blame k2 (by decide)).imp (fun _ s3 q3 => S_X13_goesOn_327 ⟨fun q => by rw [q3.2.1] at q; omega, fun _ => end0 s3 q3.1 q3.2.1 (f2.tr q3.2.2.1)⟩)⟩
  have h400 : P_X13_goesOn_400 g (e + 3) (fun r1 s2 => P_X13_reads_70 g (e + 4) Q s2 r1) s2 f kd r := by
    refine S_X13_goesOn_400 ⟨fun q => by omega, fun _ => ⟨⟨by omega, by omega⟩, fun q => absurd p0 q, fun _ => (c2.blame k2 (by decide)).imp (fun _ s3 q3 => ?_)⟩⟩
    exact g_422b (by rw [q3.2.1]; decide) kd0 (fun s' _ e' => by rw [e']; exact end0 s3 q3.1 q3.2.1 (f2.tr q3.2.2.1))
  exact S_X13_goesOn_285 ⟨fun q => by omega, fun _ => Mw.ex W26 ⟨fun _ => h309, fun _ => Mw.ex W25 ⟨fun _ => h400, fun _ => h309⟩⟩⟩
/-- goesOn at 422: what ends a part -/
theorem rg_422 (h : RCf s t ib mb c0 f kd ph bg bf pr 1 opn (0, a) O E) (hf : f < 20) (ha : 2 ≤ ph ∨ ¬ arT t a) (hw : tst kd → ph ≠ 0 ∧ wdT t a ≠ 26 ∧ wdT t a ≠ 25)
    (hq : ∀ s2, RCf s2 t ib mb c0 f kd ph bg bf pr 1 opn (0, a) O E → RTk s2 t a → lxT t a = -1 → Fx ib c0 f bf s s2 → P_X13_goesOn_422 g (e + 3) (fun r1 s2 => P_X13_reads_70 g (e + 4) Q s2 r1) s2 f kd) : P_X13_reads_43 g (e + 4) Q s 1 := by
  have hc : ¬ tst kd ∨ ph ≠ 0 ∨ cmT t a = -1 := by
    by_cases z : tst kd
    · exact Or.inr (Or.inl (hw z).1)
    · exact Or.inl z
  refine rg_285 h hf ha hc (fun s2 r c2 k2 x2 f2 hr => ?_)
  have fin := hq s2 c2 k2 x2 f2
  have p0 := c2.2.2.2.1.2.2.1
  have W26 := R_isWord (g := g) (e := e + 2) (k := 26) (w := 6385252) c2.1.2.1 k2 x2 (by decide) rfl
  have W25 := R_isWord (g := g) (e := e + 2) (k := 25) (w := 28530) c2.1.2.1 k2 x2 (by decide) rfl
  have h400 : P_X13_goesOn_400 g (e + 3) (fun r1 s2 => P_X13_reads_70 g (e + 4) Q s2 r1) s2 f kd r := by
    refine S_X13_goesOn_400 ⟨fun _ => fin, fun q => ⟨⟨by omega, by omega⟩, fun _ => fin, fun q2 => ?_⟩⟩
    have ht : tst kd := Classical.byContradiction (fun u => q (hr.2 u))
    rw [p0] at q2
    exact absurd q2 (hw ht).1
  refine S_X13_goesOn_285 ⟨fun _ => h400, fun q => ?_⟩
  have ht : tst kd := Classical.byContradiction (fun u => q (hr.2 u))
  have nw := hw ht
  refine Mw.ex W26 ⟨fun q2 => absurd (if_neg (show ¬ wdT t a = ((26 : Nat) : Int) from nw.2.1)) q2, fun _ => Mw.ex W25 ⟨fun _ => h400, fun q2 => absurd (if_neg (show ¬ wdT t a = ((25 : Nat) : Int) from nw.2.2)) q2⟩⟩
/-- the whole formula ends -/
theorem rg_top (h : RCf s t ib mb c0 f kd ph bg bf pr 1 opn (0, a) R E) (hf : f < 20) (ha : 2 ≤ ph ∨ ¬ arT t a) (hw : tst kd → ph ≠ 0 ∧ wdT t a ≠ 26 ∧ wdT t a ≠ 25) (hk : kd < 2) (hj : JOk c0 bf opn 1 [] R E)
    (hq : ∀ s', RCf s' t ib mb c0 f kd ph bg bf pr 1 (opn - ntN R) (0, a) [] (E ++ R.reverse) → Fx ib c0 f bf s s' → Q 0 s') : P_X13_reads_43 g (e + 4) Q s 1 := by
  refine rg_422 h hf ha hw (fun s2 c2 k2 x2 f2 => S_X13_goesOn_422 ⟨fun q => by omega, fun _ => ⟨fun q => absurd k2.1 q, fun _ => ?_⟩⟩)
  refine (J_joins (O := []) c2 hj hf).imp (fun _ s3 q3 => ?_)
  exact rl_70b (Or.inr rfl) (hq s3 q3.1 (f2.tr q3.2))
/-- a comma -/
theorem rg_comma (h : RCf s t ib mb c0 f kd ph bg bf pr 1 opn (0, a) R E) (hf : f < 20) (ha : 2 ≤ ph ∨ ¬ arT t a) (hw : tst kd → ph ≠ 0 ∧ wdT t a ≠ 26 ∧ wdT t a ≠ 25) (hk : kd = 3 ∨ kd = 6) (hj : JOk c0 bf opn 1 [] R E)
    (hq : kdT t a = 3 ∧ vlT t a = 44 → ∀ s', RCf s' t ib mb c0 f (if kd = 3 then 4 else 3) 0 bg bf pr 0 (opn - ntN R) (avT t a) [] (E ++ R.reverse) → Fx ib c0 f bf s s' → P_X13_reads_43 g (e + 4) Q s' 1)
    (hb : ¬ (kdT t a = 3 ∧ vlT t a = 44) → ∀ s', RRs s' t (1, a) → Fx ib c0 f bf s s' → Q 0 s') : P_X13_reads_43 g (e + 4) Q s 1 := by
  refine rg_422 h hf ha hw (fun s2 c2 k2 x2 f2 => ?_)
  have h452 : P_X13_goesOn_452 g (e + 3) (fun r1 s2 => P_X13_reads_70 g (e + 4) Q s2 r1) s2 f kd := by
    refine S_X13_goesOn_452 (Mw.ex (R_isS0 k2 x2) ⟨fun q => ?_, fun q => ?_⟩)
    · have y : kdT t a = 3 ∧ vlT t a = 44 := Classical.byContradiction (fun u => q (if_neg u))
      refine S_X13_goesOn_470 ⟨fun _ => (J_joins (O := []) c2 hj hf).imp (fun _ s3 q3 => ?_), fun q2 => absurd (by rw [k2.1]; decide) q2⟩
      have fin : ∀ x, x = (if kd = 3 then (4 : Int) else 3) → P_X13_goesOn_499 g (e + 3) (fun r1 s2 => P_X13_reads_70 g (e + 4) Q s2 r1) s3 f f x := fun x hx => by
        refine S_X13_goesOn_499 ⟨⟨by omega, by omega⟩, fun s4 e4 => ⟨⟨by omega, by omega⟩, fun s5 e5 => ?_⟩⟩
        have c4 := q3.1.uF (o := 115) (by omega) e4
        have c5 := c4.uF (o := 116) (by omega) e5
        refine (c5.adv c5.tk.1).imp (fun _ s6 q6 s7 e7 => ?_)
        have c7 := q6.1.u47 e7
        rw [hx] at c7
        have x4 : Fx ib c0 f bf s3 s4 := by rw [e4]; exact Fx.uF (by decide) (by decide) (by omega)
        have x5 : Fx ib c0 f bf s4 s5 := by rw [e5]; exact Fx.uF (by decide) (by decide) (by omega)
        exact rl_70 (by rw [e7, ups_k _ (by decide)]; exact q6.2.1) (hq y s7 c7 (((((f2.tr q3.2).tr x4).tr x5).tr q6.2.2).tr (by rw [e7]; exact Fx.u92 (by omega))))
      exact ⟨fun z => fin 3 (by rw [if_neg z]), fun z => fin 4 (by rw [if_pos z])⟩
    · have n : ¬ (kdT t a = 3 ∧ vlT t a = 44) := fun u => by rw [if_pos u] at q; omega
      refine (c2.blame k2 (by decide)).imp (fun _ s3 q3 => S_X13_goesOn_470 ⟨fun z => by rw [q3.2.1] at z; omega, fun _ => rl_70b (Or.inr rfl) (hb n s3 q3.1 (f2.tr q3.2.2.1))⟩)
  refine S_X13_goesOn_422 ⟨fun _ => ⟨fun _ => h452, fun _ => ⟨fun z => by omega, fun _ => h452⟩⟩, fun z => by omega⟩
/-- the frame is closed: the one below goes on -/
theorem rg_close {s1 : Sg} {kd1 ph1 bg1 bf1 pr1 op1 opn1 : Int} {st1 : Int × Int} {O1 E1 : List Int} (h1 : RCf s1 t ib mb c0 f kd1 ph1 bg1 bf1 pr1 op1 opn1 st1 O1 E1) (hx : Fx ib c0 (f + 1) (bf1 + O1.length) s1 s)
    (h : RCf s t ib mb c0 (f + 1) kd ph bg (bf1 + O1.length) pr 1 opn (0, a) R E) (hf : f < 15) (ha : 2 ≤ ph ∨ ¬ arT t a) (hw : tst kd → ph ≠ 0 ∧ wdT t a ≠ 26 ∧ wdT t a ≠ 25) (hk : kd = 2 ∨ kd = 4 ∨ kd = 5) (hj : JOk c0 (bf1 + O1.length) opn 1 [] R E) (ho : ntN R + 1 ≤ opn) (hp : kd = 4 → 36 ≤ pr ∧ pr ≤ 44) (hcb : c0 + E.length + R.length < 1600)
    (hq : kdT t a = 3 ∧ vlT t a = (if kd = 5 then 93 else 41) → ∀ s', RCf s' t ib mb c0 f kd1 (if kd = 5 then 2 else ph1) bg1 bf1 pr1 1 (opn - ntN R - 1) (avT t a) O1 (E ++ R.reverse ++ (if kd = 4 then [pr - 30] else [])) → Fx ib c0 f bf1 s1 s' → P_X13_reads_43 g (e + 4) Q s' 1)
    (hb : ¬ (kdT t a = 3 ∧ vlT t a = (if kd = 5 then 93 else 41)) → ∀ s', RRs s' t (1, a) → Fx ib c0 f bf1 s1 s' → Q 0 s') : P_X13_reads_43 g (e + 4) Q s 1 := by
  refine rg_422 h (by omega) ha hw (fun s2 c2 k2 x2 f2 => ?_)
  have j7 := hj.2.2.2.2.2.2
  have h531 : ∀ x, x = (if kd = 5 then (93 : Int) else 41) → P_X13_goesOn_531 g (e + 3) (fun r1 s2 => P_X13_reads_70 g (e + 4) Q s2 r1) s2 ((f + 1 : Nat) : Int) kd x := fun x hxx => by
    rw [hxx]
    refine S_X13_goesOn_531 (Mw.ex (R_isS0 k2 x2) ⟨fun q => ?_, fun q => ?_⟩)
    · have y : kdT t a = 3 ∧ vlT t a = (if kd = 5 then 93 else 41) := Classical.byContradiction (fun u => q (if_neg u))
      refine S_X13_goesOn_546 ⟨fun _ => (J_joins (O := []) c2 hj (by omega)).imp (fun _ s3 q3 s4 e4 s5 e5 => ?_), fun q2 => absurd (by rw [k2.1]; decide) q2⟩
      have v43 : s3 92 43 = ((f + 1 : Nat) : Int) + 1 := q3.1.2.2.2.1.1
      rw [v43, w32_of (by omega) (by omega), show ((f + 1 : Nat) : Int) + 1 - 1 = (f : Int) + 1 by omega] at e4
      have pr3 : s3 118 ((f + 1 : Nat) : Int) = pr := q3.1.2.2.2.1.2.2.2.2.2
      have bk := h1.back q3.1 ((hx.tr f2).tr q3.2) e4
      have v44 : s4 92 44 = opn - ntN R := bk.1.2.2.2.2.1.1
      have nn := ntN_0 R
      rw [v44, w32_of (by omega) (by omega)] at e5
      have c5 := bk.1.u44 e5
      have f5 : Fx ib c0 f bf1 s1 s5 := bk.2.tr (by rw [e5]; exact Fx.u92 (by omega))
      -- what comes behind the step that a pair tells
      have h596 : ∀ (s6 : Sg) (E6 : List Int), RCf s6 t ib mb c0 f kd1 ph1 bg1 bf1 pr1 1 (opn - ntN R - 1) (0, a) O1 E6 → Fx ib c0 f bf1 s1 s6 → E6 = E ++ R.reverse ++ (if kd = 4 then [pr - 30] else []) → P_X13_goesOn_596 g (e + 3) (fun r1 s2 => P_X13_reads_70 g (e + 4) Q s2 r1) s6 kd := fun s6 E6 c6 f6 hE => by
        have h613 : ∀ (s7 : Sg) (p7 : Int), RCf s7 t ib mb c0 f kd1 p7 bg1 bf1 pr1 1 (opn - ntN R - 1) (0, a) O1 E6 → Fx ib c0 f bf1 s1 s7 → p7 = (if kd = 5 then 2 else ph1) → P_X13_goesOn_613 g (e + 3) (fun r1 s2 => P_X13_reads_70 g (e + 4) Q s2 r1) s7 := fun s7 p7 c7 f7 hp7 => by
          refine S_X13_goesOn_613 ((c7.adv c7.tk.1).imp (fun _ s8 q8 => rl_70 q8.2.1 (hq y s8 ?_ (f7.tr q8.2.2))))
          rw [← hp7, ← hE]
          exact q8.1
        have v43 := c6.2.2.2.1.1
        refine S_X13_goesOn_596 ⟨fun z => h613 s6 ph1 c6 f6 (by rw [if_neg z]), fun z => ?_⟩
        rw [v43, w32_of (show _ ≤ (f : Int) + 1 - 1 by omega) (by omega), show (f : Int) + 1 - 1 = (f : Int) by omega]
        refine ⟨⟨by omega, by omega⟩, fun s7 e7 => h613 s7 2 ?_ (f6.tr (by rw [e7]; exact Fx.uF (by decide) (by decide) (by omega))) (by rw [if_pos z])⟩
        have := c6.uF (o := 116) (by omega) e7
        exact this
      refine ⟨fun z => h596 s5 _ c5 f5 (by rw [if_neg z, List.append_nil]), fun z => ⟨⟨by omega, by omega⟩, ?_⟩⟩
      have pr5 : s5 118 ((f + 1 : Nat) : Int) = pr := by rw [e5, ups_at _ (by decide), e4, ups_at _ (by decide)]; exact pr3
      have pb := hp z
      rw [pr5]
      refine (R_add2 c5 (by rw [List.length_append, List.length_reverse]; omega) (Or.inr (Or.inr (Or.inr ⟨by omega, by omega⟩)))).imp (fun _ s6 q6 => h596 s6 _ q6.1 (f5.tr q6.2.1) ?_)
      have ecd : cdM pr 0 = pr - 30 := by
        unfold cdM
        rw [if_neg (by omega), if_neg (by omega), if_neg (by omega)]
      rw [ecd, if_pos z]
    · have n : ¬ (kdT t a = 3 ∧ vlT t a = (if kd = 5 then 93 else 41)) := fun u => by rw [if_pos u] at q; omega
      refine (c2.blame k2 (by decide)).imp (fun _ s3 q3 => S_X13_goesOn_546 ⟨fun z => by rw [q3.2.1] at z; omega, fun _ => rl_70b (Or.inr rfl) (hb n s3 q3.1 (((hx.tr f2).tr q3.2.2.1).wk (by omega) (by omega)))⟩)
  refine S_X13_goesOn_422 ⟨fun _ => ⟨fun z => by omega, fun _ => ⟨fun _ => ⟨fun z => h531 41 (by rw [if_neg z]), fun z => h531 93 (by rw [if_pos z])⟩, fun z => by omega⟩⟩, fun z => by omega⟩
end RGO2
