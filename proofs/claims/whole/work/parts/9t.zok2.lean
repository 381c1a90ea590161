/-! a statement read well makes a town of a town -/
section ZOK2
variable {t : Tp} {T T2 : Tn} {st : Int × Int}
theorem twF_bd (hb : T 1 1 ≤ 8) : ∀ (n : Nat) (c a : Int), 0 ≤ c → c + n ≤ 8 → 0 ≤ a → a < 256 → 0 ≤ twF T n c a ∧ twF T n c a < 256 := by
  intro n
  induction n with
  | zero => intro c a _ _ a0 a1; exact ⟨a0, a1⟩
  | succ n ih =>
    intro c a c0 c8 a0 a1
    have ch : ∀ k : Nat, k < 8 → 0 ≤ bShl 1 (k : Int) ∧ bShl 1 (k : Int) < 256 := by decide +kernel
    have q := ch c.toNat (by omega)
    rw [Int.toNat_of_nonneg c0] at q
    have r : 0 ≤ bOr a (if T 10 c = -1 then 0 else bShl 1 c) ∧ bOr a (if T 10 c = -1 then 0 else bShl 1 c) < 2 ^ 8 := by
      refine bOr_lt a0 (by omega) ?_ ?_ (by decide)
      · split
        · decide
        · exact q.1
      · split
        · decide
        · have := q.2; omega
    exact ih (c + 1) _ (by omega) (by omega) r.1 (by have := r.2; omega)
theorem twS_bd (hT : TOK T) : 0 ≤ twS T ∧ twS T < 256 := by
  have := hT.2.1
  exact twF_bd this.2 (T 1 1).toNat 0 0 (Int.le_refl 0) (by omega) (Int.le_refl 0) (by decide)
theorem sh_bd {x : Int} (h : 0 ≤ x ∧ x < 8) : 0 ≤ bShl 1 x ∧ bShl 1 x < 256 := by
  have ch : ∀ k : Nat, k < 8 → 0 ≤ bShl 1 (k : Int) ∧ bShl 1 (k : Int) < 256 := by decide +kernel
  have q := ch x.toNat (by omega)
  rw [Int.toNat_of_nonneg h.1] at q
  exact q
theorem or_bd {a b : Int} (ha : 0 ≤ a ∧ a < 256) (hb : 0 ≤ b ∧ b < 256) : 0 ≤ bOr a b ∧ bOr a b < 256 := by
  have := bOr_lt (n := 8) ha.1 (by omega) hb.1 (by omega) (by decide)
  exact ⟨this.1, by have := this.2; omega⟩
/-- what is barred by its own bit is another -/
theorem bar_ne {m x y : Int} (hm : 0 ≤ m ∧ m < 256) (hx : 0 ≤ x ∧ x < 8) (hy : 0 ≤ y ∧ y < 8) (h : bAnd (bOr m (bShl 1 x)) (bShl 1 y) = 0) : x ≠ y := by
  intro e
  subst e
  have o := or_bd hm (sh_bd hx)
  have q := (bAnd_bit o.1 (by omega) hx.1 (by omega)).1 h
  have sb := sh_bd hx
  rw [bOr_bit hm.1 (by omega) sb.1 (by omega), bShl1_bit hx.1 (by omega)] at q
  have : decide (((x.toNat : Nat) : Int) = x) = true := by
    rw [Int.toNat_of_nonneg hx.1]; exact decide_eq_true rfl
  rw [this, Bool.or_true] at q
  cases q
theorem foe_bd {c en : Int} (hT : TOK T) (c0 : 0 ≤ c) (c8 : c < 8) : 0 ≤ foeS T c en ∧ foeS T c en < 256 := by
  have b13 := hT.2.2.2.1
  have b8 := hT.2.1
  have loop : ∀ n : Nat, (n : Int) ≤ T 0 13 → 0 ≤ foeF T c en n ∧ foeF T c en n < 256 := by
    intro n
    induction n with
    | zero => intro _; exact ⟨Int.le_refl 0, by show (0 : Int) < 256; decide⟩
    | succ n ih =>
      intro hn
      have i := ih (by omega)
      obtain ⟨a, b, a1, b1, n1, e1⟩ := hT.2.2.2.2.2.2.2.2.1 n (by omega) (by omega)
      obtain ⟨d1, d2, d3⟩ := fe_dec a (by omega) b (by omega) c.toNat (by omega) n1
      rw [show ((c.toNat : Nat) : Int) = c by omega, ← e1] at d1 d2 d3
      unfold foeF
      split
      · rename_i q
        have : c.toNat = a ∨ c.toNat = b := Classical.byContradiction (fun z => q.2 (d1.mpr z))
        rcases this with z | z
        · rw [d2 z]
          have sb := bShl_8 (k := (b : Int)) (by omega) (by omega)
          exact bOr_lt (n := 8) i.1 i.2 sb.1 sb.2 (by decide)
        · rw [d3 z]
          have sb := bShl_8 (k := (a : Int)) (by omega) (by omega)
          exact bOr_lt (n := 8) i.1 i.2 sb.1 sb.2 (by decide)
      · exact i
  exact loop _ (by omega)
theorem l2_good {k m w1 w2 lo hi : Int} (h : (l2S t T k m w1 w2 lo hi st).1 = 0) : T 1 k < m ∧ (lo ≤ vlT t (zOwn t w1 (zNew t T (avS t (zLim (T 1 k) m st)))).2 ∧ vlT t (zOwn t w1 (zNew t T (avS t (zLim (T 1 k) m st)))).2 ≤ hi) ∧ (lo ≤ vlT t (zOwn t w2 (zNum t lo hi (zOwn t w1 (zNew t T (avS t (zLim (T 1 k) m st)))))).2 ∧ vlT t (zOwn t w2 (zNum t lo hi (zOwn t w1 (zNew t T (avS t (zLim (T 1 k) m st)))))).2 ≤ hi) := by
  have z6 := g_num h
  have z4 := g_num (g_own z6.1)
  have z1 := g_lim (g_av (g_new (g_own z4.1)))
  exact ⟨z1.2, z4.2, z6.2⟩
theorem p2_good {b1 : Int} {b2 : Int → Int} (c0 : 0 ≤ T 1 1) (h : (p2S t T b1 b2 st).1 = 0) : st.1 = 0 ∧ (0 ≤ o1S t T b1 st ∧ o1S t T b1 st < T 1 1) ∧ (0 ≤ o2S t T b1 b2 st ∧ o2S t T b1 b2 st < T 1 1) ∧ bAnd (b2 (o1S t T b1 st)) (bShl 1 (o2S t T b1 b2 st)) = 0 := by
  have k2 := g_knw h
  have k1 := g_knw k2.1
  have v1 := val_in (t := t) (T := T) (k := 1) (bar := b1) (st := st) c0
  have v2 := val_in (t := t) (T := T) (k := 1) (bar := b2 (zVal t T 1 b1 st)) (st := p1S t T b1 st) c0
  have n1 : zVal t T 1 b1 st ≠ -1 := by rw [k1.2.2.2]; exact k1.2.2.1.1
  have e2 : zVal t T 1 (b2 (zVal t T 1 b1 st)) (p1S t T b1 st) = zFnd T 1 (vlT t (p1S t T b1 st).2) := k2.2.2.2
  have n2 : zVal t T 1 (b2 (zVal t T 1 b1 st)) (p1S t T b1 st) ≠ -1 := by rw [e2]; exact k2.2.2.1.1
  refine ⟨k1.1, ?_, ?_, ?_⟩
  · unfold o1S; omega
  · unfold o2S; omega
  · unfold o1S o2S
    rw [e2]
    exact k2.2.2.1.2
theorem zLn_ok (hT : TOK T) (hF : TF T) (ht : TpO t) (hi : inT t st) (z : st.1 = 0) (h : (zLn t T st).1 = 0) (hr : zLnR t T st T2) : TOK T2 ∧ TF T2 := by
  have c1 := hT.2.1
  unfold zLn at h
  unfold zLnR at hr
  by_cases w0 : wdT t st.2 = 0
  · rw [if_pos w0] at h hr
    have g := l2_good h
    rw [hr]
    refine ⟨ok_home hT g.1 g.2.1 g.2.2, tf_o hF ?_ ?_ ?_ ?_⟩ <;> (unfold l2T; rw [zAdd_o (by decide) (by decide), ups_at _ (by decide), ups_at _ (by decide)])
  rw [if_neg w0] at h hr
  by_cases w3 : wdT t st.2 = 3
  · rw [if_pos w3] at h hr
    have z6 := g_num h
    have z4 := g_knw (g_own z6.1)
    have z1 := g_lim (g_av (g_new (g_own z4.1)))
    have v := fnd_in (T := T) (k := 0) (x := vlT t (zOwn t 4 (zNew t T (avS t (zLim (T 1 1) 8 st)))).2) hT.1.1
    have n := z4.2.2.1.1
    rw [hr]
    refine ⟨ok_child hT z1.2 ?_ z6.2, tf_o hF ?_ ?_ ?_ ?_⟩
    · rw [z4.2.2.2]; omega
    all_goals (unfold chT2; rw [zAdd_o (by decide) (by decide), ups_at _ (by decide), ups_at _ (by decide)])
  rw [if_neg w3] at h hr
  by_cases w6 : wdT t st.2 = 6
  · rw [if_pos w6] at h hr
    have g := p2_good c1.1 h
    rw [hr]
    refine ⟨ok_twin hT g.2.1 g.2.2.1, tf_o hF ?_ ?_ ?_ ?_⟩ <;> (unfold twP; rw [ups_at _ (by decide), ups_at _ (by decide)])
  rw [if_neg w6] at h hr
  by_cases w7 : wdT t st.2 = 7
  · rw [if_pos w7] at h hr
    have g := p2_good c1.1 h
    rw [hr]
    have hl := (g_lim (g_av g.1)).2
    have fb : 0 ≤ foeS T (o1S t T 0 (avS t (zLim (T 0 13) 10 st))) 0 ∧ foeS T (o1S t T 0 (avS t (zLim (T 0 13) 10 st))) 0 < 256 := foe_bd hT (by omega) (by omega)
    have ne := bar_ne fb (by omega) (by omega) g.2.2.2
    refine ⟨(ok_feud hT hl g.2.1 g.2.2.1 ne).1, tf_o hF ?_ ?_ ?_ ?_⟩ <;> (unfold feP; rw [ups_at _ (by decide), ups_at _ (by decide)])
  rw [if_neg w7] at h hr
  by_cases w8 : wdT t st.2 = 8
  · rw [if_pos w8] at h hr
    have g := l2_good h
    rw [hr]
    refine ⟨ok_wall hT g.1 g.2.1 g.2.2, tf_o hF ?_ ?_ ?_ ?_⟩ <;> (unfold l2T; rw [zAdd_o (by decide) (by decide), ups_at _ (by decide), ups_at _ (by decide)])
  rw [if_neg w8] at h hr
  have form : ∀ ob mb : Int, ((ob = 14 ∧ mb = 0) ∨ (ob = 17 ∧ mb = 1)) → (foS t T ob mb st).1 = 0 → fRel T ob (foN t T ob mb st) T2 → WFp (T2 (ob + 1)) (T2 ob 2) (if mb = 0 then 25 else 28) ∧ ∀ a, a ≠ ob → a ≠ ob + 1 → T2 a = T a := fun ob mb hob g r => by
    refine ⟨?_, r.1⟩
    have i7 : inT t (foI t T ob st) := by
      unfold foI
      by_cases y : (zLim (T ob 2) 1 st).1 = 0
      · have l := g_lim y
        have zl : zLim (T ob 2) 1 st = st := by unfold zLim; rw [if_pos l.2]
        rw [zl, avS_good z]
        exact (av_in (hi z).1.1 (hi z).1.2).1
      · rw [avS_bad y]; exact fun u => absurd u y
    have hn : (if mb = 0 then 6 else 0) = 0 ∨ (if mb = 0 then 6 else 0) = (6 : Nat) := by split <;> omega
    have pe := fmP_eq (mb := mb) hn i7
    have zi : (foI t T ob st).1 = 0 := by
      apply Classical.byContradiction
      intro u
      have b := pH_bad u (st2 := (fmP t mb (if mb = 0 then 6 else 0) (foI t T ob st)).1) (M := (fmP t mb (if mb = 0 then 6 else 0) (foI t T ob st)).2) pe
      unfold foS at g
      rw [b.1] at g
      exact u g
    rw [pH_good zi] at pe
    have ii := i7 zi
    have ge : (fmP t mb (if mb = 0 then 6 else 0) (foI t T ob st)) = ((0, (foS t T ob mb st).2), foN t T ob mb st) := Prod.ext (p_eta g) rfl
    rw [ge] at pe
    have gd := (pF_gd t mb (fuT t) _ 0 _ _ _ ii.1.1 ii.1.2 ii.2 pe).2.1 rfl
    have gd1 : (foS t T ob mb st).2 ≤ t.1 := gd.1.2
    have w := wf_of (P := T2 (ob + 1)) hn ii.1 ii.2 pe (by have := ht.1.2; omega) r.2.2
    rw [r.2.1]
    exact w.1
  by_cases w11 : wdT t st.2 = 11
  · rw [if_pos w11] at h hr
    have f := form 14 0 (Or.inl ⟨rfl, rfl⟩) h hr
    have eo := f.2
    refine ⟨?_, ?_⟩
    · unfold TOK
      rw [eo 0 (by decide) (by decide), eo 1 (by decide) (by decide), eo 6 (by decide) (by decide), eo 7 (by decide) (by decide), eo 8 (by decide) (by decide), eo 9 (by decide) (by decide), eo 10 (by decide) (by decide), eo 11 (by decide) (by decide), eo 12 (by decide) (by decide), eo 13 (by decide) (by decide)]
      exact hT
    · refine ⟨f.1, ?_⟩
      rw [eo 17 (by decide) (by decide), eo 18 (by decide) (by decide)]
      exact hF.2
  rw [if_neg w11] at h hr
  by_cases w12 : wdT t st.2 = 12
  · rw [if_pos w12] at h hr
    have f := form 17 1 (Or.inr ⟨rfl, rfl⟩) h hr
    have eo := f.2
    refine ⟨?_, ?_⟩
    · unfold TOK
      rw [eo 0 (by decide) (by decide), eo 1 (by decide) (by decide), eo 6 (by decide) (by decide), eo 7 (by decide) (by decide), eo 8 (by decide) (by decide), eo 9 (by decide) (by decide), eo 10 (by decide) (by decide), eo 11 (by decide) (by decide), eo 12 (by decide) (by decide), eo 13 (by decide) (by decide)]
      exact hT
    · refine ⟨?_, f.1⟩
      rw [eo 14 (by decide) (by decide), eo 15 (by decide) (by decide)]
      exact hF.1
  rw [if_neg w12] at h hr
  by_cases w13 : wdT t st.2 = 13
  · rw [if_pos w13] at h hr
    have z4 := g_num h
    have z2 := g_num (g_own z4.1)
    rw [hr]
    refine ⟨ok_ra hT (by omega), tf_o hF ?_ ?_ ?_ ?_⟩ <;> (unfold raT; rw [ups_at _ (by decide), ups_at _ (by decide)])
  rw [if_neg w13] at h hr
  by_cases w15 : wdT t st.2 = 15
  · rw [if_pos w15] at h hr
    rw [hr]
    refine ⟨ok_set hT (Or.inl ⟨rfl, rfl⟩) (g_num h).2, tf_o hF ?_ ?_ ?_ ?_⟩ <;> rw [ups_at _ (by decide)]
  rw [if_neg w15] at h hr
  by_cases w16 : wdT t st.2 = 16
  · rw [if_pos w16] at h hr
    rw [hr]
    refine ⟨ok_set hT (Or.inr (Or.inl ⟨rfl, rfl⟩)) (g_num h).2, tf_o hF ?_ ?_ ?_ ?_⟩ <;> rw [ups_at _ (by decide)]
  rw [if_neg w16] at h hr
  by_cases w17 : wdT t st.2 = 17
  · rw [if_pos w17] at h hr
    rw [hr]
    refine ⟨ok_set hT (Or.inr (Or.inr ⟨rfl, rfl⟩)) (g_num h).2, tf_o hF ?_ ?_ ?_ ?_⟩ <;> rw [ups_at _ (by decide)]
  rw [if_neg w17] at hr
  exact hr.elim
end ZOK2
