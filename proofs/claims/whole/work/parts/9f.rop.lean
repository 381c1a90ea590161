/-! formulas: the reference's operands -/
section ROP
variable {g : GT} {e : Nat} {s : Sg} {t : Tp} {ib mb c0 kd ph bg bf pr op opn a : Int} {f : Nat} {st : Int × Int} {O E : List Int} {Q : Int → Sg → Prop}
/-- what operand's answer leads to -/
def oQ (g : GT) (e : Nat) (Q : Int → Sg → Prop) : Int → Sg → Prop := fun r3 s4 => (r3 = 0 ∨ r3 = 1) ∧ ∀ s5, s5 = ups s4 92 47 r3 → P_X13_reads_70 g (e + 4) Q s5 1
theorem ro_fin {r : Int} (hr : r = 0 ∨ r = 1) (h : RCf s t ib mb c0 f kd ph bg bf pr op opn st O E) (h8 : s 92 8 = 0) (hq : ∀ s5, RCf s5 t ib mb c0 f kd ph bg bf pr r opn st O E → Fx ib c0 f bf s s5 → P_X13_reads_43 g (e + 4) Q s5 1) : oQ g e Q r s :=
  ⟨hr, fun s5 e5 => rl_70 (by rw [e5, ups_k _ (by decide)]; exact h8) (hq s5 (h.u47 e5) (by rw [e5]; exact Fx.u92 (by omega)))⟩
theorem ro_end {r : Int} (hr : r = 0 ∨ r = 1) (z : st.1 ≠ 0) (h : RRs s t st) (hq : ∀ s5, RRs s5 t st → Fx ib c0 f bf s s5 → Q 0 s5) : oQ g e Q r s := by
  refine ⟨hr, fun s5 e5 => rl_70b (Or.inl ?_) (hq s5 ⟨h.1, fun y => absurd y z, fun _ => ?_⟩ (by rw [e5]; exact Fx.u92 (by omega)))⟩
  · rw [e5, ups_k _ (by decide), (h.2.2 z).1]; exact z
  · rw [e5, ups_k _ (by decide), ups_k _ (by decide)]; exact h.2.2 z
theorem ro_0 (h : RCf s t ib mb c0 f kd ph bg bf pr 0 opn (0, a) O E) (hf : f < 20)
    (hq : ∀ s2 x, RCf s2 t ib mb c0 f kd ph bg bf pr 0 opn (0, a) O E → RTk s2 t a → lxT t a = -1 → Fx ib c0 f bf s s2 → ((tst kd ∧ bg ≠ 0 → x = 1) ∧ (¬ (tst kd ∧ bg ≠ 0) → x = 0)) → P_X13_operand_46 g (e + 3) (oQ g e Q) s2 f x) : P_X13_reads_43 g (e + 4) Q s 1 := by
  refine S_X13_reads_43 ⟨fun y => absurd y (by decide), fun _ => ⟨fun y => ?_, fun _ => S_X13_operand ((h.lex).imp (fun _ s2 q => ?_))⟩⟩
  · rw [h.2.2.2.2.1.2] at y; exact absurd rfl y
  · obtain ⟨c2, k2, x2, f2⟩ := q
    have h4 := c2.2.2.2.1
    rw [k2.1, h4.1, w32_of (show _ ≤ (f : Int) + 1 - 1 by omega) (by omega), show (f : Int) + 1 - 1 = (f : Int) by omega, h4.2.1]
    refine ⟨fun _ => ⟨⟨by omega, by omega⟩, (R_isTest).imp (fun r3 s4 q => ?_)⟩, fun y => absurd (by decide) y⟩
    obtain ⟨r1, r2, r3'⟩ := q
    subst r3'
    rw [h4.2.2.2.1]
    refine ⟨fun z => S_X13_operand_45 (hq s4 0 c2 k2 x2 f2 ⟨fun u => ?_, fun _ => rfl⟩), fun z => ⟨⟨by omega, by omega⟩, fun y => S_X13_operand_45 (hq s4 0 c2 k2 x2 f2 ⟨fun u => absurd y u.2, fun _ => rfl⟩), fun y => hq s4 1 c2 k2 x2 f2 ⟨fun _ => rfl, fun u => ?_⟩⟩⟩
    · have := r1 u.1; omega
    · exfalso
      exact u ⟨Classical.byContradiction (fun w => z (r2 w)), y⟩
theorem ro_not (h : RCf s t ib mb c0 f kd ph bg bf pr 0 opn (0, a) O E) (hf : f < 20) (ht : tst kd) (hbg : bg ≠ 0) (hw : wdT t a = 27) (ho : 0 ≤ opn ∧ opn ≤ 7) (hb : bf + O.length < 500)
    (hq : opn ≤ 6 → ∀ s', RCf s' t ib mb c0 f kd ph bg bf pr 0 (opn + 1) (avT t a) (O ++ [13]) E → Fx ib c0 f bf s s' → P_X13_reads_43 g (e + 4) Q s' 1)
    (hbad : opn = 7 → ∀ s', RRs s' t (5, a) → Fx ib c0 f bf s s' → Q 0 s') : P_X13_reads_43 g (e + 4) Q s 1 := by
  refine ro_0 h hf (fun s2 x c2 k2 x2 f2 hx => ?_)
  have x1 := hx.1 ⟨ht, hbg⟩
  have W := R_isWord (g := g) (e := e + 2) (k := 27) (w := 7237492) c2.1.2.1 k2 x2 (by decide) rfl
  have v44 : s2 92 44 = opn := c2.2.2.2.2.1.1
  refine S_X13_operand_46 ⟨fun q => by omega, fun _ => Mw.ex W ⟨fun q => ?_, fun _ => ?_⟩⟩
  · rw [if_pos (show wdT t a = ((27 : Nat) : Int) from hw)] at q; omega
  · rw [v44]
    refine ⟨fun q => S_X13_operand_79 ⟨fun _ s3 e3 => ?_, fun q2 => absurd (by rw [k2.1]; decide) q2⟩, fun q => (c2.blame k2 (by decide)).imp (fun _ s4 q4 => S_X13_operand_79 ⟨fun q2 => by rw [q4.2.1] at q2; omega, fun _ => ?_⟩)⟩
    · rw [v44, w32_of (by omega) (by omega)] at e3
      have c3 := c2.u44 e3
      refine (R_hold (c := 13) c3 hb).imp (fun _ s4 q4 => ?_)
      refine (q4.1.adv q4.1.tk.1).imp (fun _ s5 q5 => ?_)
      refine ro_fin (Or.inl rfl) q5.1 q5.2.1 (fun s6 c6 f6 => hq (by omega) s6 c6 ?_)
      exact ((((f2.tr (by rw [e3]; exact Fx.u92 (by omega))).tr q4.2.1).tr q5.2.2).tr f6)
    · exact ro_end (ib := ib) (c0 := c0) (f := f) (bf := bf) (st := (5, a)) (Or.inr rfl) (by show ¬ ((5 : Int) = 0); decide) q4.1 (fun s5 r5 f5 => hbad q s5 r5 ((f2.tr q4.2.2.1).tr f5))
/-- opens: a frame for what stands in brackets -/
theorem ro_open {k : Int} (h : RCf s t ib mb c0 f kd ph bg bf pr op opn (0, a) O E) (hk : RTk s t a) (hf : f < 15) (ho : 0 ≤ opn ∧ opn ≤ 7) (hb : bf + O.length < 500) : Mw g (e + 3) M_X13_opens [(21, 92), (0, k)] s (fun _ s' => (opn ≤ 6 → ∃ s1, RCf s1 t ib mb c0 f kd ph bg bf pr op (opn + 1) (avT t a) O E ∧ Fx ib c0 f bf s s1 ∧ RCf s' t ib mb c0 (f + 1) k 0 1 (bf + O.length) (s1 118 (f + 1)) op (opn + 1) (avT t a) [] E ∧ Fx ib c0 (f + 1) (bf + O.length) s1 s' ∧ s' 92 8 = 0) ∧ (opn = 7 → RRs s' t (5, a) ∧ s' 92 8 = 5 ∧ Fx ib c0 f bf s s')) := by
  have v44 : s 92 44 = opn := h.2.2.2.2.1.1
  refine S_X13_opens (fun _ => ?_)
  rw [v44]
  refine ⟨fun q => S_X13_opens_18 ⟨fun _ s3 e3 => ?_, fun q2 => absurd (by rw [hk.1]; decide) q2⟩, fun q => (h.blame hk (by decide)).imp (fun _ s4 q4 => S_X13_opens_18 ⟨fun q2 => by rw [q4.2.1] at q2; omega, fun _ => ⟨fun z => by omega, fun _ => ⟨q4.1, q4.2.1, q4.2.2.1⟩⟩⟩)⟩
  rw [v44, w32_of (by omega) (by omega)] at e3
  have c3 := h.u44 e3
  refine (c3.adv c3.tk.1).imp (fun _ s4 q4 => (R_push q4.1 hf hb).imp (fun _ s5 q5 => ⟨fun _ => ⟨s4, q4.1, ?_, q5.1, q5.2.1, ?_⟩, fun z => absurd z q⟩))
  · exact Fx.tr (by rw [e3]; exact Fx.u92 (by omega)) q4.2.2
  · rw [q5.2.2 8 (by decide)]; exact q4.2.1
/-- special words at the beginning of a fact -/
def spT (t : Tp) (a : Int) : Prop := wdT t a = 27 ∨ (kdT t a = 3 ∧ vlT t a = 91) ∨ wdT t a = 28
theorem ro_brk (h : RCf s t ib mb c0 f kd ph bg bf pr 0 opn (0, a) O E) (hf : f < 15) (ht : tst kd) (hbg : bg ≠ 0) (hw : kdT t a = 3 ∧ vlT t a = 91) (ho : 0 ≤ opn ∧ opn ≤ 7) (hb : bf + O.length < 500)
    (hq : opn ≤ 6 → ∀ s1 s', RCf s1 t ib mb c0 f kd ph 0 bf pr 0 (opn + 1) (avT t a) O E → Fx ib c0 f bf s s1 → (∃ p, RCf s' t ib mb c0 (f + 1) 5 0 1 (bf + O.length) p 0 (opn + 1) (avT t a) [] E) → Fx ib c0 (f + 1) (bf + O.length) s1 s' → P_X13_reads_43 g (e + 4) Q s' 1)
    (hbad : opn = 7 → ∀ s', RRs s' t (5, a) → Fx ib c0 f bf s s' → Q 0 s') : P_X13_reads_43 g (e + 4) Q s 1 := by
  refine ro_0 h (by omega) (fun s2 x c2 k2 x2 f2 hx => ?_)
  have x1 := hx.1 ⟨ht, hbg⟩
  have W := R_isWord (g := g) (e := e + 2) (k := 27) (w := 7237492) c2.1.2.1 k2 x2 (by decide) rfl
  have n27 : ¬ wdT t a = ((27 : Nat) : Int) := fun z => by unfold wdT at z; rw [if_neg (by omega)] at z; omega
  rw [x1]
  refine S_X13_operand_46 ⟨fun q => by omega, fun _ => Mw.ex W ⟨fun _ => S_X13_operand_110 ⟨⟨by omega, by omega⟩, fun s3 e3 => ⟨fun q => by omega, fun _ => ?_⟩⟩, fun q => absurd (if_neg n27) q⟩⟩
  have c3 := c2.uF (o := 117) (by omega) e3
  have f3 : Fx ib c0 f bf s2 s3 := by rw [e3]; exact Fx.uF (by decide) (by decide) (by omega)
  refine Mw.ex (R_isS0 c3.tk.1 x2) ⟨fun q => by rw [if_pos hw] at q; omega, fun _ => (ro_open c3 c3.tk.1 hf ho hb).imp (fun _ s5 q5 => ?_)⟩
  by_cases o7 : opn = 7
  · obtain ⟨rr, h8, fx⟩ := q5.2 o7
    exact ro_end (ib := ib) (c0 := c0) (f := f) (bf := bf) (st := (5, a)) (Or.inl rfl) (by show ¬ ((5 : Int) = 0); decide) rr (fun s6 r6 f6 => hbad o7 s6 r6 (((f2.tr f3).tr fx).tr f6))
  · obtain ⟨s1, c1, f1, cc, ff, h8⟩ := q5.1 (by omega)
    exact ro_fin (Or.inl rfl) cc h8 (fun s6 c6 f6 => hq (by omega) s1 s6 c1 ((f2.tr f3).tr f1) ⟨_, c6⟩ (ff.tr f6))
theorem ro_all (h : RCf s t ib mb c0 f kd ph bg bf pr 0 opn (0, a) O E) (hf : f < 20) (ht : tst kd) (hbg : bg ≠ 0) (hw : wdT t a = 28) (hb : c0 + E.length < 1600)
    (hq : ∀ s', RCf s' t ib mb c0 f kd 2 0 bf pr 1 opn (avT t a) O (E ++ [41]) → Fx ib c0 f bf s s' → P_X13_reads_43 g (e + 4) Q s' 1) : P_X13_reads_43 g (e + 4) Q s 1 := by
  refine ro_0 h hf (fun s2 x c2 k2 x2 f2 hx => ?_)
  have x1 := hx.1 ⟨ht, hbg⟩
  have W := R_isWord (g := g) (e := e + 2) (k := 27) (w := 7237492) c2.1.2.1 k2 x2 (by decide) rfl
  have n27 : ¬ wdT t a = ((27 : Nat) : Int) := fun z => by omega
  have nb : ¬ (kdT t a = 3 ∧ vlT t a = 91) := fun z => by unfold wdT at hw; rw [if_neg (by omega)] at hw; omega
  rw [x1]
  refine S_X13_operand_46 ⟨fun q => by omega, fun _ => Mw.ex W ⟨fun _ => S_X13_operand_110 ⟨⟨by omega, by omega⟩, fun s3 e3 => ⟨fun q => by omega, fun _ => ?_⟩⟩, fun q => absurd (if_neg n27) q⟩⟩
  have c3 := c2.uF (o := 117) (by omega) e3
  have f3 : Fx ib c0 f bf s2 s3 := by rw [e3]; exact Fx.uF (by decide) (by decide) (by omega)
  have W28 := R_isWord (g := g) (e := e + 2) (k := 28) (w := 6384748) c3.1.2.1 c3.tk.1 x2 (by decide) rfl
  refine Mw.ex (R_isS0 c3.tk.1 x2) ⟨fun _ => S_X13_operand_137 ⟨fun q => by omega, fun _ => Mw.ex W28 ⟨fun q => ?_, fun _ => ?_⟩⟩, fun q => absurd (if_neg nb) q⟩
  · rw [if_pos (show wdT t a = ((28 : Nat) : Int) from hw)] at q; omega
  · refine (R_add2 c3 hb (Or.inr (Or.inr (Or.inl rfl)))).imp (fun _ s4 q4 => ⟨⟨by omega, by omega⟩, fun s5 e5 => ?_⟩)
    have c5 := q4.1.uF (o := 116) (by omega) e5
    have f5 : Fx ib c0 f bf s4 s5 := by rw [e5]; exact Fx.uF (by decide) (by decide) (by omega)
    refine (c5.adv c5.tk.1).imp (fun _ s6 q6 => ?_)
    exact ro_fin (Or.inr rfl) q6.1 q6.2.1 (fun s7 c7 f7 => hq s7 c7 (((((f2.tr f3).tr q4.2.1).tr f5).tr q6.2.2).tr f7))
/-- at 171: no fact begins here -/
theorem ro_171 (h : RCf s t ib mb c0 f kd ph bg bf pr 0 opn (0, a) O E) (hf : f < 20) (hs : tst kd ∧ bg ≠ 0 → ¬ spT t a)
    (hq : ∀ s2, RCf s2 t ib mb c0 f kd ph 0 bf pr 0 opn (0, a) O E → RTk s2 t a → lxT t a = -1 → Fx ib c0 f bf s s2 → P_X13_operand_171 g (e + 3) (oQ g e Q) s2) : P_X13_reads_43 g (e + 4) Q s 1 := by
  refine ro_0 h hf (fun s2 x c2 k2 x2 f2 hx => ?_)
  have h110 : P_X13_operand_110 g (e + 3) (oQ g e Q) s2 f x := by
    refine S_X13_operand_110 ⟨⟨by omega, by omega⟩, fun s3 e3 => ?_⟩
    have c3 := c2.uF (o := 117) (by omega) e3
    have f3 : Fx ib c0 f bf s2 s3 := by rw [e3]; exact Fx.uF (by decide) (by decide) (by omega)
    have fin := hq s3 c3 c3.tk.1 x2 (f2.tr f3)
    by_cases z : tst kd ∧ bg ≠ 0
    · have x1 := hx.1 z
      have ns := hs z
      have W28 := R_isWord (g := g) (e := e + 2) (k := 28) (w := 6384748) c3.1.2.1 c3.tk.1 x2 (by decide) rfl
      have h137 : P_X13_operand_137 g (e + 3) (oQ g e Q) s3 f x := S_X13_operand_137 ⟨fun _ => fin, fun _ => Mw.ex W28 ⟨fun _ => fin, fun q => absurd (if_neg (show ¬ wdT t a = ((28 : Nat) : Int) from fun u => ns (Or.inr (Or.inr u)))) q⟩⟩
      exact ⟨fun _ => h137, fun _ => Mw.ex (R_isS0 c3.tk.1 x2) ⟨fun _ => h137, fun q => absurd (if_neg (fun u => ns (Or.inr (Or.inl u)))) q⟩⟩
    · have x0 := hx.2 z
      refine ⟨fun _ => S_X13_operand_137 ⟨fun _ => fin, fun q => absurd x0 q⟩, fun q => absurd x0 q⟩
  have W := R_isWord (g := g) (e := e + 2) (k := 27) (w := 7237492) c2.1.2.1 k2 x2 (by decide) rfl
  refine S_X13_operand_46 ⟨fun _ => h110, fun q => Mw.ex W ⟨fun _ => h110, fun q2 => ?_⟩⟩
  exfalso
  have z : tst kd ∧ bg ≠ 0 := Classical.byContradiction (fun u => q (hx.2 u))
  exact q2 (if_neg (show ¬ wdT t a = ((27 : Nat) : Int) from fun u => hs z (Or.inl u)))
theorem ro_par (h : RCf s t ib mb c0 f kd ph bg bf pr 0 opn (0, a) O E) (hf : f < 15) (hw : kdT t a = 3 ∧ vlT t a = 40) (ho : 0 ≤ opn ∧ opn ≤ 7) (hb : bf + O.length < 500)
    (hq : opn ≤ 6 → ∀ s1 s', RCf s1 t ib mb c0 f kd ph 0 bf pr 0 (opn + 1) (avT t a) O E → Fx ib c0 f bf s s1 → (∃ p, RCf s' t ib mb c0 (f + 1) 2 0 1 (bf + O.length) p 0 (opn + 1) (avT t a) [] E) → Fx ib c0 (f + 1) (bf + O.length) s1 s' → P_X13_reads_43 g (e + 4) Q s' 1)
    (hbad : opn = 7 → ∀ s', RRs s' t (5, a) → Fx ib c0 f bf s s' → Q 0 s') : P_X13_reads_43 g (e + 4) Q s 1 := by
  refine ro_171 h (by omega) (fun _ z => ?_) (fun s2 c2 k2 x2 f2 => ?_)
  · rcases z with z | z | z
    · unfold wdT at z; rw [if_neg (by omega)] at z; omega
    · omega
    · unfold wdT at z; rw [if_neg (by omega)] at z; omega
  · refine S_X13_operand_171 (Mw.ex (R_isS0 k2 x2) ⟨fun q => by rw [if_pos hw] at q; omega, fun _ => (ro_open c2 k2 hf ho hb).imp (fun _ s5 q5 => ?_)⟩)
    by_cases o7 : opn = 7
    · obtain ⟨rr, h8, fx⟩ := q5.2 o7
      exact ro_end (ib := ib) (c0 := c0) (f := f) (bf := bf) (st := (5, a)) (Or.inl rfl) (by show ¬ ((5 : Int) = 0); decide) rr (fun s6 r6 f6 => hbad o7 s6 r6 ((f2.tr fx).tr f6))
    · obtain ⟨s1, c1, f1, cc, ff, h8⟩ := q5.1 (by omega)
      exact ro_fin (Or.inl rfl) cc h8 (fun s6 c6 f6 => hq (by omega) s1 s6 c1 (f2.tr f1) ⟨_, c6⟩ (ff.tr f6))
/-- a number or a word that tells one step -/
theorem ro_one {c : Int} (h : RCf s t ib mb c0 f kd ph bg bf pr 0 opn (0, a) O E) (hf : f < 20) (hs : tst kd ∧ bg ≠ 0 → ¬ spT t a) (hm : mb = 0 ∨ mb = 1) (hb : c0 + E.length < 1600) (hp : ¬ (kdT t a = 3 ∧ vlT t a = 40)) (hc : wdT t a ≠ 29 ∧ wdT t a ≠ 30 ∧ wdT t a ≠ 24)
    (hv : (kdT t a = 2 ∧ c = 40 + vlT t a) ∨ (kdT t a ≠ 2 ∧ fcT t mb a ≠ -1 ∧ c = 20 + fcT t mb a) ∨ (kdT t a ≠ 2 ∧ fcT t mb a = -1)) (vb : kdT t a = 2 → 0 ≤ vlT t a ∧ vlT t a ≤ 9999)
    (hq : (kdT t a = 2 ∨ fcT t mb a ≠ -1) → ∀ s', RCf s' t ib mb c0 f kd ph 0 bf pr 1 opn (avT t a) O (E ++ [c]) → Fx ib c0 f bf s s' → P_X13_reads_43 g (e + 4) Q s' 1)
    (hbad : kdT t a ≠ 2 → fcT t mb a = -1 → ∀ s', RRs s' t (1, a) → Fx ib c0 f bf s s' → Q 0 s') : P_X13_reads_43 g (e + 4) Q s 1 := by
  refine ro_171 h hf hs (fun s2 c2 k2 x2 f2 => ?_)
  have W : ∀ (k : Nat) (w : Int), k < 31 → rcL.getD k 0 = w → Mw g (e + 3) M_X13_isWord [(21, 92), (2, w)] s2 (Ex (if wdT t a = k then 1 else 0) s2) := fun k w hk hw => R_isWord (e := e + 2) c2.1.2.1 k2 x2 hk hw
  have h37 : s2 92 37 = mb := c2.2.2.1.2.2.1
  have v3 : s2 92 3 = kdT t a := k2.2.2.2.2.2.1
  have wb := wd_bd t a
  -- the end: sort x (1 to 8), 0 a number, -1 none
  have h470 : ∀ x, (x = 0 ∧ kdT t a = 2) ∨ (kdT t a ≠ 2 ∧ x = fcT t mb a + 1 ∧ fcT t mb a ≠ -1) → P_X13_operand_456 g (e + 3) (oQ g e Q) s2 x := fun x hx => by
    have fb : -1 ≤ fcT t mb a ∧ fcT t mb a ≤ 7 := by
      have ch : ∀ i : Nat, i < 32 → -1 ≤ enF.getD i 0 ∧ enF.getD i 0 ≤ 7 := by decide +kernel
      have := ch (wdT t a).toNat (by omega)
      unfold fcT
      split <;> omega
    refine S_X13_operand_456 ⟨fun _ => S_X13_operand_470 ⟨fun _ => ?_, fun q => absurd (by rw [k2.1]; decide) q⟩, fun q => by omega⟩
    have v6 : kdT t a = 2 → s2 92 6 = vlT t a := fun z => k2.2.2.2.2.2.2.2.2 x2 (Or.inl z)
    have okc : okC x (s2 92 6) := by
      rcases hx with u | u
      · left; rw [v6 u.2]; exact ⟨u.1, vb u.2⟩
      · right; left; omega
    refine (R_add2 c2 hb okc).imp (fun _ s4 q4 => (q4.1.adv q4.1.tk.1).imp (fun _ s6 q6 => ?_))
    have ec : cdM x (s2 92 6) = c := by
      unfold cdM
      rcases hx with u | u
      · rw [if_pos u.1, v6 u.2]
        rcases hv with v | v | v
        · exact v.2.symm
        · exact absurd u.2 v.1
        · exact absurd u.2 v.1
      · rw [if_neg (by omega), if_pos (by omega)]
        rcases hv with v | v | v
        · exact absurd v.1 u.1
        · omega
        · exact absurd v.2 u.2.2
    rw [ec] at q6
    refine ro_fin (Or.inr rfl) q6.1 q6.2.1 (fun s7 c7 f7 => hq ?_ s7 c7 (((f2.tr q4.2.1).tr q6.2.2).tr f7))
    rcases hx with u | u
    · exact Or.inl u.2
    · exact Or.inr u.2.2
  have hno : kdT t a ≠ 2 → fcT t mb a = -1 → P_X13_operand_456 g (e + 3) (oQ g e Q) s2 (-1) := fun z1 z2 => by
    refine S_X13_operand_456 ⟨fun q => absurd rfl q, fun _ => (c2.blame k2 (by decide)).imp (fun _ s4 q4 => S_X13_operand_470 ⟨fun q => by rw [q4.2.1] at q; omega, fun _ => ?_⟩)⟩
    exact ro_end (ib := ib) (c0 := c0) (f := f) (bf := bf) (st := (1, a)) (Or.inr rfl) (by show ¬ ((1 : Int) = 0); decide) q4.1 (fun s5 r5 f5 => hbad z1 z2 s5 r5 ((f2.tr q4.2.2.1).tr f5))
  -- a fact's word by its number
  have hfw : ∀ (k : Nat) (x : Int), kdT t a ≠ 2 → wdT t a = k → enF.getD k 0 = x - 1 → 1 ≤ x → x ≤ 8 → P_X13_operand_441 g (e + 3) (oQ g e Q) s2 x := fun k x z hk hx x1 x8 => by
    have ef : fcT t mb a = if mb = 0 ∧ 5 ≤ x - 1 then -1 else x - 1 := by
      unfold fcT
      rw [hk, Int.toNat_natCast, hx]
    refine S_X13_operand_441 ⟨fun q => h470 x (Or.inr ⟨z, ?_, ?_⟩), fun q => ⟨fun q2 => h470 x (Or.inr ⟨z, ?_, ?_⟩), fun q2 => hno z ?_⟩⟩
    · rw [ef, if_neg (fun u => by omega)]; omega
    · rw [ef, if_neg (fun u => by omega)]; omega
    · rw [h37] at q2; rw [ef, if_neg (fun u => q2 u.1)]; omega
    · rw [h37] at q2; rw [ef, if_neg (fun u => q2 u.1)]; omega
    · rw [h37] at q2; rw [ef, if_pos ⟨q2, by omega⟩]
  have ny : ∀ k : Nat, ¬ (if wdT t a = (k : Int) then (1 : Int) else 0) = 0 → wdT t a = k := fun k q => Classical.byContradiction (fun u => q (if_neg u))
  have nn : ∀ k : Nat, (if wdT t a = (k : Int) then (1 : Int) else 0) = 0 → wdT t a ≠ k := fun k q u => by rw [if_pos u] at q; omega
  refine S_X13_operand_171 (Mw.ex (R_isS0 k2 x2) ⟨fun _ => Mw.ex (W 29 7170414 (by decide) rfl) ⟨fun q => absurd (ny 29 q) hc.1, fun _ => Mw.ex (W 30 7168376 (by decide) rfl) ⟨fun q => absurd (ny 30 q) hc.2.1, fun _ => Mw.ex (W 24 26982 (by decide) rfl) ⟨fun _ => ?_, fun q => absurd (ny 24 q) hc.2.2⟩⟩⟩, fun q => absurd (if_neg hp) q⟩)
  rw [v3]
  refine ⟨fun z => ?_, fun z => S_X13_operand_441 ⟨fun _ => h470 0 (Or.inl ⟨rfl, z⟩), fun q => absurd (by decide) q⟩⟩
  refine Mw.ex (W 1 1952541803 (by decide) rfl) ⟨fun q1 => Mw.ex (W 2 2002874989 (by decide) rfl) ⟨fun q2 => Mw.ex (W 18 6383461 (by decide) rfl) ⟨fun q3 => Mw.ex (W 19 126943973305959 (by decide) rfl) ⟨fun q4 => Mw.ex (W 20 2036687218 (by decide) rfl) ⟨fun q5 => Mw.ex (W 21 109330362954597 (by decide) rfl) ⟨fun q6 => Mw.ex (W 22 1818584692 (by decide) rfl) ⟨fun q7 => Mw.ex (W 23 504363246962 (by decide) rfl) ⟨fun q8 => ?_, fun q => hfw 23 8 z (ny 23 q) rfl (by decide) (by decide)⟩, fun q => hfw 22 7 z (ny 22 q) rfl (by decide) (by decide)⟩, fun q => hfw 21 6 z (ny 21 q) rfl (by decide) (by decide)⟩, fun q => hfw 20 5 z (ny 20 q) rfl (by decide) (by decide)⟩, fun q => hfw 19 4 z (ny 19 q) rfl (by decide) (by decide)⟩, fun q => hfw 18 3 z (ny 18 q) rfl (by decide) (by decide)⟩, fun q => hfw 2 2 z (ny 2 q) rfl (by decide) (by decide)⟩, fun q => hfw 1 1 z (ny 1 q) rfl (by decide) (by decide)⟩
  have n1 := nn 1 q1
  have n2 := nn 2 q2
  have n3 := nn 18 q3
  have n4 := nn 19 q4
  have n5 := nn 20 q5
  have n6 := nn 21 q6
  have n7 := nn 22 q7
  have n8 := nn 23 q8
  have ef : enF.getD (wdT t a).toNat 0 = -1 := by
    have ch : ∀ i : Nat, i < 32 → (i = 1 ∨ i = 2 ∨ i = 18 ∨ i = 19 ∨ i = 20 ∨ i = 21 ∨ i = 22 ∨ i = 23) ∨ enF.getD i 0 = -1 := by decide +kernel
    exact (ch (wdT t a).toNat (by omega)).resolve_left (fun u => by omega)
  have efc : fcT t mb a = -1 := by unfold fcT; rw [ef]; split <;> rfl
  exact S_X13_operand_441 ⟨fun _ => hno z efc, fun q => absurd (by decide) q⟩
/-- min, max, if -/
theorem ro_ch {i : Nat} (h : RCf s t ib mb c0 f kd ph bg bf pr 0 opn (0, a) O E) (hf : f < 15) (hi : (i = 0 ∧ wdT t a = 29) ∨ (i = 1 ∧ wdT t a = 30) ∨ (i = 2 ∧ wdT t a = 24)) (ho : 0 ≤ opn ∧ opn ≤ 7) (hb : bf + O.length < 500)
    (hq : (avT t a).1 = 0 → (kdT t (avT t a).2 = 3 ∧ vlT t (avT t a).2 = 40) → opn ≤ 6 → ∀ s1 s', RCf s1 t ib mb c0 f kd ph 0 bf pr 0 (opn + 1) (avT t (avT t a).2) O E → Fx ib c0 f bf s s1 → RCf s' t ib mb c0 (f + 1) (if i = 2 then 6 else 3) 0 1 (bf + O.length) (chC i + 30) 0 (opn + 1) (avT t (avT t a).2) [] E → Fx ib c0 (f + 1) (bf + O.length) s1 s' → P_X13_reads_43 g (e + 4) Q s' 1)
    (hbad : ∀ st2, ((avT t a).1 ≠ 0 ∧ st2 = avT t a) ∨ ((avT t a).1 = 0 ∧ ¬ (kdT t (avT t a).2 = 3 ∧ vlT t (avT t a).2 = 40) ∧ st2 = (1, (avT t a).2)) ∨ ((avT t a).1 = 0 ∧ (kdT t (avT t a).2 = 3 ∧ vlT t (avT t a).2 = 40) ∧ opn = 7 ∧ st2 = (5, (avT t a).2)) → ∀ s', RRs s' t st2 → Fx ib c0 f bf s s' → Q 0 s') : P_X13_reads_43 g (e + 4) Q s 1 := by
  have w31 : wdT t a ≠ 31 := by omega
  have k1 : kdT t a = 1 := by
    apply Classical.byContradiction
    intro z
    apply w31
    unfold wdT
    rw [if_neg z]
  refine ro_171 h (by omega) (fun _ z => ?_) (fun s2 c2 k2 x2 f2 => ?_)
  · rcases z with z | z | z <;> omega
  have W : ∀ (k : Nat) (w : Int), k < 31 → rcL.getD k 0 = w → Mw g (e + 3) M_X13_isWord [(21, 92), (2, w)] s2 (Ex (if wdT t a = k then 1 else 0) s2) := fun k w hk hw => R_isWord (e := e + 2) c2.1.2.1 k2 x2 hk hw
  have ny : ∀ k : Nat, ¬ (if wdT t a = (k : Int) then (1 : Int) else 0) = 0 → wdT t a = k := fun k q => Classical.byContradiction (fun u => q (if_neg u))
  have nn : ∀ k : Nat, (if wdT t a = (k : Int) then (1 : Int) else 0) = 0 → wdT t a ≠ k := fun k q u => by rw [if_pos u] at q; omega
  have h249 : P_X13_operand_249 g (e + 3) (oQ g e Q) s2 (chC i + 30) := by
    refine S_X13_operand_249 ((c2.adv k2).imp (fun _ s3 q3 => ?_))
    by_cases z : (avT t a).1 = 0
    · have e0 : avT t a = (0, (avT t a).2) := by rw [← z]
      have c3 := q3.1
      rw [e0] at c3
      refine (c3.lex).imp (fun _ s4 q4 => ?_)
      obtain ⟨c4, k4, x4, f4⟩ := q4
      have F := (f2.tr q3.2.2).tr f4
      refine Mw.ex (R_isS0 k4 x4) ⟨fun q => ?_, fun q => ?_⟩
      · have y := (Classical.byContradiction (fun u => q (if_neg u)) : kdT t (avT t a).2 = 3 ∧ vlT t (avT t a).2 = 40)
        have h289 : ∀ x, x = (if i = 2 then (6 : Int) else 3) → P_X13_operand_289 g (e + 3) (oQ g e Q) s4 (chC i + 30) x := fun x hx => by
          rw [hx]
          refine S_X13_operand_289 ((ro_open c4 k4 hf ho hb).imp (fun _ s5 q5 => ?_))
          by_cases o7 : opn = 7
          · obtain ⟨rr, h8, fx⟩ := q5.2 o7
            refine ⟨fun _ => ro_end (ib := ib) (c0 := c0) (f := f) (bf := bf) (st := (5, (avT t a).2)) (Or.inl rfl) (by show ¬ ((5 : Int) = 0); decide) rr (fun s6 r6 f6 => hbad _ (Or.inr (Or.inr ⟨z, y, o7, rfl⟩)) s6 r6 ((F.tr fx).tr f6)), fun u => by rw [h8] at u; omega⟩
          · obtain ⟨s1, c1, f1, cc, ff, h8⟩ := q5.1 (by omega)
            refine ⟨fun u => absurd h8 u, fun _ => ?_⟩
            have v43 : s5 92 43 = ((f + 1 : Nat) : Int) + 1 := cc.2.2.2.1.1
            rw [v43, w32_of (show _ ≤ ((f + 1 : Nat) : Int) + 1 - 1 by omega) (by omega), show ((f + 1 : Nat) : Int) + 1 - 1 = ((f + 1 : Nat) : Int) by omega]
            refine ⟨⟨by omega, by omega⟩, fun s6 e6 => ?_⟩
            have c6 := cc.uF (o := 118) (by omega) e6
            have f6 : Fx ib c0 (f + 1) (bf + O.length) s5 s6 := by rw [e6]; exact Fx.uF (by decide) (by decide) (by omega)
            exact ro_fin (Or.inl rfl) c6 (by rw [e6, ups_at _ (by decide)]; exact h8) (fun s7 c7 f7 => hq z y (by omega) s1 s7 c1 (F.tr f1) c7 ((ff.tr f6).tr f7))
        refine S_X13_operand_276 ⟨fun u => h289 3 ?_, fun u => h289 6 ?_⟩
        · rw [if_neg]; intro w; rw [w] at u; exact u rfl
        · rw [if_pos]
          rcases hi with w | w | w
          · rw [w.1] at u; exact absurd u (by decide)
          · rw [w.1] at u; exact absurd u (by decide)
          · exact w.1
      · have y : ¬ (kdT t (avT t a).2 = 3 ∧ vlT t (avT t a).2 = 40) := fun u => by rw [if_pos u] at q; omega
        refine (c4.blame k4 (by decide)).imp (fun _ s5 q5 => ?_)
        have end5 : ∀ s6, RRs s6 t (1, (avT t a).2) → Fx ib c0 f bf s s6 → Q 0 s6 := hbad _ (Or.inr (Or.inl ⟨z, y, rfl⟩))
        have h289 : ∀ x, P_X13_operand_289 g (e + 3) (oQ g e Q) s5 (chC i + 30) x := fun x => by
          have fin : oQ g e Q 0 s5 := ro_end (ib := ib) (c0 := c0) (f := f) (bf := bf) (st := (1, (avT t a).2)) (Or.inl rfl) (by show ¬ ((1 : Int) = 0); decide) q5.1 (fun s6 r6 f6 => end5 s6 r6 ((F.tr q5.2.2.1).tr f6))
          have h18 : P_X13_opens_18 g (e + 2) (fun _ s2 => ((¬ (s2 92 8) = 0 → oQ g e Q 0 s2) ∧ ((s2 92 8) = 0 → ((0 ≤ (w32 ((s2 92 43) - 1)) ∧ (w32 ((s2 92 43) - 1)) < 20) ∧ ∀ s3, s3 = ups s2 118 (w32 ((s2 92 43) - 1)) (chC i + 30) → oQ g e Q 0 s3)))) s5 x := S_X13_opens_18 ⟨fun u => by rw [q5.2.1] at u; omega, fun _ => ⟨fun _ => fin, fun u => by rw [q5.2.1] at u; omega⟩⟩
          refine S_X13_operand_289 (S_X13_opens (fun _ => ⟨fun _ => h18, fun _ => (R_blame (by decide)).imp (fun _ s6 q6 => ?_)⟩))
          rw [q6.2.1 (by rw [q5.2.1]; decide)]
          exact h18
        exact S_X13_operand_276 ⟨fun _ => h289 _, fun _ => h289 _⟩
    · refine (R_lex q3.1.2.1).imp (fun _ s4 q4 => ?_)
      have b := q4.1.2.2 z
      have s0 := q4.1.1
      have F := (f2.tr q3.2.2).tr (Fx.fa q4.2)
      have fin : oQ g e Q 0 s4 := ro_end (ib := ib) (c0 := c0) (f := f) (bf := bf) (st := avT t a) (Or.inl rfl) z q4.1 (fun s6 r6 f6 => hbad _ (Or.inl ⟨z, rfl⟩) s6 r6 (F.tr f6))
      have h289 : ∀ x, P_X13_operand_289 g (e + 3) (oQ g e Q) s4 (chC i + 30) x := fun x => by
        have h18 : P_X13_opens_18 g (e + 2) (fun _ s2 => ((¬ (s2 92 8) = 0 → oQ g e Q 0 s2) ∧ ((s2 92 8) = 0 → ((0 ≤ (w32 ((s2 92 43) - 1)) ∧ (w32 ((s2 92 43) - 1)) < 20) ∧ ∀ s3, s3 = ups s2 118 (w32 ((s2 92 43) - 1)) (chC i + 30) → oQ g e Q 0 s3)))) s4 x := S_X13_opens_18 ⟨fun u => by rw [b.1] at u; omega, fun _ => ⟨fun _ => fin, fun u => by rw [b.1] at u; exact absurd u z⟩⟩
        refine S_X13_operand_289 (S_X13_opens (fun _ => ⟨fun _ => h18, fun _ => (R_blame (by decide)).imp (fun _ s6 q6 => ?_)⟩))
        rw [q6.2.1 (by rw [b.1]; omega)]
        exact h18
      have h276 : P_X13_operand_276 g (e + 3) (oQ g e Q) s4 (chC i + 30) := S_X13_operand_276 ⟨fun _ => h289 _, fun _ => h289 _⟩
      have bl : Mw g (e + 3) M_X13_blame [(21, 92), (0, 1), (0, s4 92 4)] s4 (fun _ s8 => P_X13_operand_276 g (e + 3) (oQ g e Q) s8 (chC i + 30)) := (R_blame (by decide)).imp (fun _ s' q => by rw [q.2.1 (by rw [b.1]; omega)]; exact h276)
      exact S_X13_isSign (fun _ => ⟨fun _ => ⟨fun u => absurd rfl u, fun _ => bl⟩, fun _ => ⟨fun _ => ⟨fun u => absurd rfl u, fun _ => bl⟩, fun _ => ⟨fun _ => h276, fun u => absurd u (by decide)⟩⟩⟩)
  have h217 : P_X13_operand_217 g (e + 3) (oQ g e Q) s2 := by
    refine S_X13_operand_217 (Mw.ex (W 29 7170414 (by decide) rfl) ⟨fun q => Mw.ex (W 30 7168376 (by decide) rfl) ⟨fun q2 => ?_, fun q2 => ?_⟩, fun q => ?_⟩)
    · rcases hi with w | w | w
      · exact absurd w.2 (nn 29 q)
      · exact absurd w.2 (nn 30 q2)
      · rw [w.1] at h249; exact h249
    · have := ny 30 q2
      rcases hi with w | w | w
      · omega
      · rw [w.1] at h249; exact h249
      · omega
    · have := ny 29 q
      rcases hi with w | w | w
      · rw [w.1] at h249; exact h249
      · omega
      · omega
  have hp : ¬ (kdT t a = 3 ∧ vlT t a = 40) := fun u => by omega
  refine S_X13_operand_171 (Mw.ex (R_isS0 k2 x2) ⟨fun _ => Mw.ex (W 29 7170414 (by decide) rfl) ⟨fun _ => h217, fun q => Mw.ex (W 30 7168376 (by decide) rfl) ⟨fun _ => h217, fun q2 => Mw.ex (W 24 26982 (by decide) rfl) ⟨fun q3 => ?_, fun _ => h217⟩⟩⟩, fun q => absurd (if_neg hp) q⟩)
  exfalso
  rcases hi with w | w | w
  · exact absurd w.2 (nn 29 q)
  · exact absurd w.2 (nn 30 q2)
  · exact absurd w.2 (nn 24 q3)
end ROP
