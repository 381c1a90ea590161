/-! the descent and the stacks: one formula, two readers -/
def cO (nt : Nat) : Int := if nt ≤ 1 then 1 else if nt ≤ 3 then 2 else if nt ≤ 5 then 4 else if nt ≤ 7 then 5 else if nt ≤ 9 then 6 else 7
def rR (nt : Nat) : Int := if nt ≤ 1 then 1 else if nt ≤ 3 then 2 else if nt = 4 then 3 else if nt = 5 then 4 else if nt ≤ 7 then 5 else if nt ≤ 9 then 6 else 7
def lV (nt : Nat) : Int := if nt ≤ 1 then 0 else if nt ≤ 3 then 1 else if nt ≤ 5 then 2 else if nt ≤ 7 then 3 else if nt ≤ 9 then 4 else 5
def hA (nt : Nat) (t : Tp) (kd ph bg a : Int) : Prop := (nt ≤ 5 → tst kd ∧ ph = 0 ∧ bg = 1 ∧ (nt = 5 → ¬ spT t a)) ∧ (6 ≤ nt → ph < 2 ∧ (tst kd ∧ bg ≠ 0 → ¬ spT t a))
def hB (nt : Nat) (t : Tp) (kd ph a : Int) : Prop := (nt ≤ 5 → tst kd ∧ ph ≠ 0 ∧ (2 ≤ ph ∨ ¬ arT t a) ∧ (nt = 1 → wdT t a ≠ 26)) ∧ (6 ≤ nt → ph < 2 ∧ (nt = 7 → muT t a = -1))
def eP (nt : Nat) (t : Tp) (ph ph2 a : Int) : Prop := (nt ≤ 5 → ph2 ≠ 0 ∧ (2 ≤ ph2 ∨ ¬ arT t a) ∧ (nt ≤ 3 → wdT t a ≠ 26) ∧ (nt ≤ 1 → wdT t a ≠ 25)) ∧ (6 ≤ nt → ph2 = ph ∧ (nt ≤ 9 → muT t a = -1) ∧ (nt ≤ 7 → adT t a = -1))
def bD (c0 bf o a : Int) (f nt : Nat) (O E : List Int) : Prop := ((f : Int) ≤ o ∧ o ≤ 7) ∧ (∀ c, c ∈ O → rkC c < cO nt ∧ opC c) ∧ bf + O.length ≤ 6 * o + lV nt ∧ c0 + E.length + bf + O.length + f < a
def rP (nt : Nat) (R : List Int) : Prop := ∀ c, c ∈ R → rR nt ≤ rkC c ∧ opC c
def KG (g : GT) (e : Nat) (Q : Int → Sg → Prop) (s : Sg) (t : Tp) (ib mb c0 : Int) (f : Nat) (kd ph bf pr o : Int) (O E : List Int) (nt : Nat) (st2 : Int × Int) (N : List Int) : Prop :=
  (st2.1 = 0 → ∀ (s2 : Sg) (ph2 : Int) (M R : List Int), RCf s2 t ib mb c0 f kd ph2 0 bf pr 1 (o + ntN R) st2 (O ++ R) (E ++ M) → Fx ib c0 f bf s s2 → M ++ R.reverse = N → rP nt R → bf + O.length + R.length < 500 → o + ntN R ≤ 7 → eP nt t ph ph2 st2.2 → P_X13_reads_43 g (e + 4) Q s2 1) ∧
  (st2.1 ≠ 0 → ∀ s2, RRs s2 t st2 → Fx ib c0 f bf s s2 → Q 0 s2)
def SmA (g : GT) (t : Tp) (mb : Int) (k nt : Nat) : Prop := ∀ ⦃e : Nat⦄ ⦃s : Sg⦄ ⦃ib c0 : Int⦄ ⦃f : Nat⦄ ⦃kd ph bg bf pr o a : Int⦄ ⦃O E : List Int⦄ ⦃st2 : Int × Int⦄ ⦃N : List Int⦄ ⦃Q : Int → Sg → Prop⦄, RCf s t ib mb c0 f kd ph bg bf pr 0 o (0, a) O E → hA nt t kd ph bg a → bD c0 bf o a f nt O E → pF t mb k nt o a = some (st2, N) → KG g e Q s t ib mb c0 f kd ph bf pr o O E nt st2 N → P_X13_reads_43 g (e + 4) Q s 1
def SmB (g : GT) (t : Tp) (mb : Int) (k nt : Nat) : Prop := ∀ ⦃e : Nat⦄ ⦃s : Sg⦄ ⦃ib c0 : Int⦄ ⦃f : Nat⦄ ⦃kd ph bf pr o a : Int⦄ ⦃O R E : List Int⦄ ⦃st2 : Int × Int⦄ ⦃N : List Int⦄ ⦃Q : Int → Sg → Prop⦄, RCf s t ib mb c0 f kd ph 0 bf pr 1 (o + ntN R) (0, a) (O ++ R) E → hB nt t kd ph a → bD c0 bf o a f nt O (E ++ R) → rP nt R → bf + O.length + R.length < 500 → o + ntN R ≤ 7 → pF t mb k nt o a = some (st2, N) → KG g e Q s t ib mb c0 f kd ph bf pr o O E nt st2 (R.reverse ++ N) → P_X13_reads_43 g (e + 4) Q s 1
theorem rk_bd (c : Int) : 1 ≤ rkC c ∧ rkC c ≤ 6 := by
  unfold rkC
  repeat' split
  all_goals omega
theorem p_eta {st : Int × Int} (z : st.1 = 0) : st = (0, st.2) := Prod.ext z rfl
section SIM
variable {g : GT} {e : Nat} {s : Sg} {t : Tp} {ib mb c0 kd ph bg bf pr op opn a l o : Int} {f : Nat} {st : Int × Int} {O R E : List Int} {Q : Int → Sg → Prop}
theorem RCf.ab (h : RCf s t ib mb c0 f kd ph bg bf pr op opn (0, a) O E) : (0 ≤ a ∧ a ≤ t.1) ∧ lxT t a = -1 ∧ t.1 ≤ 1600 ∧ 0 ≤ c0 ∧ 0 ≤ bf := ⟨h.tk.1.2.2.1, h.tk.2, h.1.2.1.1.2, h.2.2.1.2.2.2.1, h.2.2.1.2.2.2.2⟩
/-- a part, then the rest -/
theorem sim_seq {k X Y Z : Nat} (hY : SmA g t mb k Y) (hZ : SmB g t mb k Z) (hx : ∀ o a, pF t mb (k + 1) X o a = pB (pF t mb k Y o a) (fun x => pF t mb k Z o x))
    (h1 : ∀ kd ph bg a, hA X t kd ph bg a → hA Y t kd ph bg a) (h2 : cO X ≤ cO Y ∧ lV X ≤ lV Y) (h3 : ∀ kd ph bg a ph2 a2, hA X t kd ph bg a → eP Y t ph ph2 a2 → hB Z t kd ph2 a2)
    (h4 : rR Z ≤ rR Y) (h5 : cO X = cO Z ∧ lV X = lV Z) (h6 : rR X ≤ rR Z) (h7 : ∀ ph ph2 ph3 a2 a3, eP Y t ph ph2 a2 → eP Z t ph2 ph3 a3 → eP X t ph ph3 a3) : SmA g t mb (k + 1) X := by
  intro e s ib c0 f kd ph bg bf pr o a O E st2 N Q h ha hb hp hk
  rw [hx] at hp
  obtain ⟨st1, L1, L2, p1, p2, p3⟩ := pB_some hp
  obtain ⟨ab, ax, tb, c00, bf0⟩ := h.ab
  have gd := pF_gd t mb k Y o a st1 L1 ab.1 ab.2 ax p1
  refine hY h (h1 _ _ _ _ ha) ⟨hb.1, fun c hc => ⟨by have := (hb.2.1 c hc).1; omega, (hb.2.1 c hc).2⟩, by have := hb.2.2.1; omega, hb.2.2.2⟩ p1 ⟨fun z s2 ph2 M R c2 f2 em rp lb ob ep => ?_, fun z s2 r2 f2 => ?_⟩
  · rw [pH_good z] at p2
    rw [p_eta z] at c2
    have g2 := gd.2.2 z
    have lm : M.length + R.length = L1.length := by rw [← em, List.length_append, List.length_reverse]
    have lE : ((E ++ M ++ R).length : Int) = E.length + L1.length := by rw [List.length_append, List.length_append]; omega
    refine hZ c2 (h3 _ _ _ _ _ _ ha ep) ⟨hb.1, fun c hc => ⟨by have := (hb.2.1 c hc).1; omega, (hb.2.1 c hc).2⟩, by have := hb.2.2.1; omega, by have := hb.2.2.2; omega⟩ (fun c hc => ⟨by have := (rp c hc).1; omega, (rp c hc).2⟩) lb ob p2 ⟨fun z2 s3 ph3 M2 R2 c3 f3 em2 rp2 lb2 ob2 ep2 => ?_, fun z2 s3 r3 f3 => hk.2 z2 s3 r3 (f2.tr f3)⟩
    refine hk.1 z2 s3 ph3 (M ++ M2) R2 (by rw [← List.append_assoc]; exact c3) (f2.tr f3) ?_ (fun c hc => ⟨by have := (rp2 c hc).1; omega, (rp2 c hc).2⟩) lb2 ob2 (h7 _ _ _ _ _ ep ep2)
    rw [p3, ← em, List.append_assoc, em2, List.append_assoc]
  · have b := pH_bad z p2
    rw [b.1] at hk
    exact hk.2 z s2 r2 f2
/-- the rest: an operator, a part, the rest again -/
theorem sim_rest {k Y Z : Nat} {cnd : Int → Prop} {cc : Int → Int} (hY : SmA g t mb k Y) (hZ : SmB g t mb k Z)
    (hx : ∀ o a, cnd a → pF t mb (k + 1) Z o a = pB (pV t a) (fun x => pB (pF t mb k Y o x) (fun y => pB (pE (cc a) y) (fun z => pF t mb k Z o z)))) (hn : ∀ o a, ¬ cnd a → pF t mb (k + 1) Z o a = pN a)
    (hc : ∀ a, cnd a → kdT t a ≠ 0 ∧ rkC (cc a) < cO Y ∧ rR Z ≤ rkC (cc a) ∧ opC (cc a) ∧ cc a ≠ 13)
    (h2 : cO Z ≤ cO Y ∧ lV Z + 1 ≤ lV Y ∧ rR Z = cO Z ∧ rR Z ≤ rR Y)
    (hs : ∀ {e : Nat} {s : Sg} {ib c0 kd ph bf pr opn a : Int} {f : Nat} {O R E : List Int} {Q : Int → Sg → Prop}, RCf s t ib mb c0 f kd ph 0 bf pr 1 opn (0, a) (O ++ R) E → hB Z t kd ph a → cnd a → f < 20 → JOk c0 bf opn (rR Z) O R E → (∀ s2 ph2 bg2, RCf s2 t ib mb c0 f kd ph2 bg2 bf pr 0 (opn - ntN R) (avT t a) (O ++ [cc a]) (E ++ R.reverse) → Fx ib c0 f bf s s2 → (∀ b, hA Y t kd ph2 bg2 b) → (6 ≤ Z → ph2 = ph) → P_X13_reads_43 g (e + 4) Q s2 1) → P_X13_reads_43 g (e + 4) Q s 1)
    (h3 : ∀ kd ph a ph2 a2 ph3, hB Z t kd ph a → (6 ≤ Z → ph2 = ph) → eP Y t ph2 ph3 a2 → hB Z t kd ph3 a2) (h4 : ∀ kd ph a, hB Z t kd ph a → ¬ cnd a → eP Z t ph ph a)
    (h5 : ∀ ph ph2 ph3 ph4 a3 a4, (6 ≤ Z → ph2 = ph) → eP Y t ph2 ph3 a3 → eP Z t ph3 ph4 a4 → eP Z t ph ph4 a4) : SmB g t mb (k + 1) Z := by
  intro e s ib c0 f kd ph bf pr o a O R E st2 N Q h hb hd rp lb ob hp hk
  obtain ⟨ab, ax, tb, c00, bf0⟩ := h.ab
  by_cases y : cnd a
  · rw [hx o a y] at hp
    obtain ⟨st1, L1, L2, p1, p2, p3⟩ := pB_some hp
    have e1 := some2 p1
    have lE : ((E ++ R).length : Int) = E.length + R.length := by rw [List.length_append]; omega
    have lO : 0 ≤ (O.length : Int) := by omega
    have n0 := ntN_0 R
    have f0 := hd.1
    have d3 := hd.2.2.2
    obtain ⟨y1, y2, y3, y4, y5⟩ := hc a y
    have hj : JOk c0 bf (o + ntN R) (rR Z) O R E := ⟨fun c hc => by have := (hd.2.1 c hc).1; omega, rp, fun c hc => (hd.2.1 c hc).2, by omega, lb, by omega, by omega⟩
    refine hs h hb y (by omega) hj (fun s2 ph2 bg2 c2 f2 ha2 hp2 => ?_)
    rw [e1.1] at p2
    have v := av_in (t := t) ab.1 ab.2
    rw [show o + ntN R - ntN R = o by omega] at c2
    by_cases z : (avT t a).1 = 0
    · rw [pH_good z] at p2
      rw [p_eta z] at c2
      have va := (v.2.2 z).2 y1
      have vi := v.1 z
      obtain ⟨st3, L3, L4, q1, q2, q3⟩ := pB_some p2
      have gd := pF_gd t mb k Y o _ st3 L3 vi.1.1 vi.1.2 vi.2 q1
      have lO1 : ((O ++ [cc a]).length : Int) = O.length + 1 := by rw [List.length_append]; rfl
      have lE1 : ((E ++ R.reverse).length : Int) = E.length + R.length := by rw [List.length_append, List.length_reverse]; omega
      refine hY c2 (ha2 _) ⟨hd.1, fun c hc => ?_, by have := hd.2.2.1; omega, by omega⟩ q1 ⟨fun z3 s3 ph3 M R3 c3 f3 em rp3 lb3 ob3 ep => ?_, fun z3 s3 r3 f3 => ?_⟩
      · rcases List.mem_append.1 hc with u | u
        · exact ⟨by have := (hd.2.1 c u).1; omega, (hd.2.1 c u).2⟩
        · rw [List.mem_singleton.1 u]; exact ⟨y2, y4⟩
      · rw [pH_good z3] at q2
        rw [p_eta z3] at c3
        have g3 := gd.2.2 z3
        obtain ⟨st5, L5, L6, u1, u2, u3⟩ := pB_some q2
        have e5 := some2 u1
        rw [e5.1, pH_good (show ((0 : Int), st3.2).1 = 0 from rfl)] at u2
        have lm : M.length + R3.length = L3.length := by rw [← em, List.length_append, List.length_reverse]
        have en : ntN (cc a :: R3) = ntN R3 := by
          show (if cc a = 13 then 1 else 0) + ntN R3 = ntN R3
          rw [if_neg y5]; omega
        have lE3 : ((E ++ R.reverse ++ M ++ (cc a :: R3)).length : Int) = E.length + R.length + L3.length + 1 := by rw [List.length_append, List.length_append, List.length_append, List.length_reverse, List.length_cons]; omega
        have rp4 : rP Z (cc a :: R3) := fun c hc => by
          rcases List.mem_cons.1 hc with u | u
          · rw [u]; exact ⟨y3, y4⟩
          · exact ⟨by have := (rp3 c u).1; omega, (rp3 c u).2⟩
        have c4 : RCf s3 t ib mb c0 f kd ph3 0 bf pr 1 (o + ntN (cc a :: R3)) (0, st3.2) (O ++ (cc a :: R3)) (E ++ R.reverse ++ M) := by
          rw [en, show O ++ (cc a :: R3) = O ++ [cc a] ++ R3 by rw [List.append_assoc]; rfl]
          exact c3
        refine hZ c4 (h3 _ _ _ _ _ _ hb hp2 ep) ⟨hd.1, hd.2.1, hd.2.2.1, by omega⟩ rp4 (by rw [List.length_cons]; omega) (by rw [en]; exact ob3) u2 ⟨fun z6 s6 ph6 M6 R6 c6 f6 em6 rp6 lb6 ob6 ep6 => ?_, fun z6 s6 r6 f6 => hk.2 z6 s6 r6 ((f2.tr f3).tr f6)⟩
        refine hk.1 z6 s6 ph6 (R.reverse ++ M ++ M6) R6 (by rw [← List.append_assoc, ← List.append_assoc]; exact c6) ((f2.tr f3).tr f6) ?_ rp6 lb6 ob6 (h5 _ _ _ _ _ _ hp2 ep ep6)
        rw [p3, q3, u3, e1.2, e5.2, ← em, List.append_assoc, em6, List.reverse_cons]
        simp only [List.append_assoc, List.nil_append]
      · have b := pH_bad z3 q2
        rw [b.1] at hk
        exact hk.2 z3 s3 r3 (f2.tr f3)
    · have b := pH_bad z p2
      rw [b.1] at hk
      exact rl_bad c2 z (fun s3 r3 f3 => hk.2 z s3 r3 (f2.tr f3))
  · rw [hn o a y] at hp
    have e1 := some2 hp
    rw [e1.1, e1.2] at hk
    exact hk.1 rfl s ph [] R (by rw [List.append_nil]; exact h) Fx.rf (by rw [List.append_nil]; rfl) rp lb ob (h4 _ _ _ hb y)
end SIM
