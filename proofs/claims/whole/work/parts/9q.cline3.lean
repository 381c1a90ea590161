/-! statements of the class: twins, feuds, what is set, formulas -/
def twF (T : Tn) : Nat → Int → Int → Int
  | 0, _, a => a
  | n + 1, c, a => twF T n (c + 1) (bOr a (if T 10 c = -1 then 0 else bShl 1 c))
def twS (T : Tn) : Int := twF T (T 1 1).toNat 0 0
/-- the two of a line, each barred by bits -/
def p1S (t : Tp) (T : Tn) (b1 : Int) (st : Int × Int) : Int × Int := zKnw t T 1 b1 st
def p2S (t : Tp) (T : Tn) (b1 : Int) (b2 : Int → Int) (st : Int × Int) : Int × Int := zKnw t T 1 (b2 (zVal t T 1 b1 st)) (p1S t T b1 st)
def o1S (t : Tp) (T : Tn) (b1 : Int) (st : Int × Int) : Int := zVal t T 1 b1 st
def o2S (t : Tp) (T : Tn) (b1 : Int) (b2 : Int → Int) (st : Int × Int) : Int := zVal t T 1 (b2 (zVal t T 1 b1 st)) (p1S t T b1 st)
def zTwB (T : Tn) (x : Int) : Int := bOr (twS T) (bShl 1 x)
def zFeB (T : Tn) (x : Int) : Int := bOr (foeS T x 0) (bShl 1 x)
def twP (T : Tn) (a b : Int) : Tn := ups (ups T 10 a b) 10 b a
def feP (T : Tn) (a b : Int) : Tn := ups (ups T 13 (T 0 13) (bOr (bShl 1 a) (bShl 1 b))) 0 13 (T 0 13 + 1)
def raS (t : Tp) (st : Int × Int) : Int × Int := zNum t (vlT t (avS t st).2 + 1) 30 (zOwn t 14 (zNum t 1 30 (avS t st)))
def raT (t : Tp) (T : Tn) (st : Int × Int) : Tn := ups (ups T 0 14 (vlT t (avS t st).2)) 0 15 (vlT t (zOwn t 14 (zNum t 1 30 (avS t st))).2)
section CLN3
variable {g : GT} {e : Nat} {s : Sg} {t : Tp} {st : Int × Int} {T : Tn} {tw : Int}
theorem zKnw_bad {k bar : Int} (z : st.1 ≠ 0) : zKnw t T k bar st = st := by unfold zKnw; rw [if_neg z]
theorem zNum_bad {lo hi : Int} (z : st.1 ≠ 0) : zNum t lo hi st = st := by unfold zNum; rw [if_neg z]
theorem zOwn_bad {k : Int} (z : st.1 ≠ 0) : zOwn t k st = st := by unfold zOwn; rw [if_neg z]
theorem zNew_bad (z : st.1 ≠ 0) : zNew t T st = st := by unfold zNew; rw [if_neg z]
theorem tw_loop {Q : Int → Sg → Prop} (hc : CT s tw T) (hb : T 1 1 ≤ 8) : ∀ (n : Nat) (c a : Int), 0 ≤ c → c + n = T 1 1 → Q (twF T n c a) s → P_X9_twins_4 g (e + 1) Q s tw a c := by
  have e1 : s (tw + 1) = T 1 := hc.2 1 (by decide) (by decide) (by decide)
  have e2 : s (tw + 10) = T 10 := hc.2 10 (by decide) (by decide) (by decide)
  intro n
  induction n with
  | zero =>
    intro c a c0 h hQ
    refine S_X9_twins_4 (S_X9_childCount (fun _ => ⟨fun _ => hQ, fun q => absurd (by rw [e1]; omega) q⟩))
  | succ n ih =>
    intro c a c0 h hQ
    refine S_X9_twins_4 (S_X9_childCount (fun _ => ⟨fun q => absurd q (by rw [e1]; omega), fun _ => ⟨⟨by omega, by omega⟩, fun q => ?_, fun q => ?_⟩⟩))
    · rw [e2] at q
      rw [w32_of (show _ ≤ c + 1 by omega) (by omega)]
      refine ih (c + 1) _ (by omega) (by omega) ?_
      have hQ : Q (twF T n (c + 1) (bOr a (if T 10 c = -1 then 0 else bShl 1 c))) s := hQ
      rw [if_pos q] at hQ
      exact hQ
    · rw [e2] at q
      rw [w32_of (show _ ≤ c + 1 by omega) (by omega)]
      refine ih (c + 1) _ (by omega) (by omega) ?_
      have hQ : Q (twF T n (c + 1) (bOr a (if T 10 c = -1 then 0 else bShl 1 c))) s := hQ
      rw [if_neg q] at hQ
      exact hQ
theorem C_twins (hc : CT s tw T) (hb : 0 ≤ T 1 1 ∧ T 1 1 ≤ 8) : Mw g (e + 2) M_X9_twins [(18, tw)] s (Ex (twS T) s) :=
  S_X9_twins (fun _ => tw_loop hc hb.2 (T 1 1).toNat 0 0 (Int.le_refl 0) (by omega) ⟨rfl, rfl⟩)
/-- a value found is one of them -/
theorem val_in {k bar : Int} (hb : 0 ≤ T 1 k) : zVal t T k bar st = -1 ∨ (0 ≤ zVal t T k bar st ∧ zVal t T k bar st < T 1 k) := by
  unfold zVal
  by_cases z : st.1 = 0 ∧ zNam t st.2 ∧ zHas t T k bar st.2
  · rw [if_pos z]; exact fnd_in hb
  · rw [if_neg z]; exact Or.inl rfl
theorem K_twins (h : LC s t tw T st) : Mw g (e + 5) M_X4_twinsLine [(13, 46)] s (LQ s t tw (p2S t T (twS T) (zTwB T) (avS t st)) (twP T (o1S t T (twS T) (avS t st)) (o2S t T (twS T) (zTwB T) (avS t st)))) := by
  obtain ⟨ht, hr, h46, hi, hc, hT⟩ := h
  have c1 := hT.2.1
  refine S_X4_twinsLine ((C_adv (e := e + 1) ht hr).imp (fun _ s1 q1 => ?_))
  have hc1 := hc.fz q1.2 hi
  have h461 : s1 46 1 = tw := by rw [q1.2 46 (by decide)]; exact h46
  rw [h461]
  refine Mw.ex (C_twins (e := e + 2) hc1 c1) ((C_known (e := e) (ht.fz q1.2) q1.1 h461 hc1 c1 (by decide)).imp (fun r5 s2 q2 => ?_))
  have f2 := q1.2.tr q2.2.1
  rw [q2.2.2]
  refine (C_known (e := e) (ht.fz f2) q2.1 (by rw [f2 46 (by decide)]; exact h46) (hc.fz f2 hi) c1 (by decide)).imp (fun r7 s3 q3 => ?_)
  have f3 := f2.tr q3.2.1
  have c3 := hc.fz f3 hi
  have h463 : s3 46 1 = tw := by rw [f3 46 (by decide)]; exact h46
  have v1 := val_in (t := t) (T := T) (k := 1) (bar := twS T) (st := avS t st) c1.1
  have v2 := val_in (t := t) (T := T) (k := 1) (bar := zTwB T (zVal t T 1 (twS T) (avS t st))) (st := p1S t T (twS T) (avS t st)) c1.1
  have e7 : r7 = o2S t T (twS T) (zTwB T) (avS t st) := q3.2.2
  have no : (p2S t T (twS T) (zTwB T) (avS t st)).1 = 0 → zVal t T 1 (twS T) (avS t st) ≠ -1 ∧ o2S t T (twS T) (zTwB T) (avS t st) ≠ -1 := fun z => by
    have k2 := g_knw z
    have k1 := g_knw k2.1
    refine ⟨by rw [k1.2.2.2]; exact k1.2.2.1.1, ?_⟩
    have := k2.2.2.2
    show zVal t T 1 (zTwB T (zVal t T 1 (twS T) (avS t st))) (p1S t T (twS T) (avS t st)) ≠ -1
    rw [this]; exact k2.2.2.1.1
  have keep : ∀ s4, s4 = s3 → (zVal t T 1 (twS T) (avS t st) = -1 ∨ r7 = -1) → LQ s t tw (p2S t T (twS T) (zTwB T) (avS t st)) (twP T (o1S t T (twS T) (avS t st)) (o2S t T (twS T) (zTwB T) (avS t st))) 0 s4 := fun s4 e4 z => by
    rw [e4]
    refine ⟨q3.1, f3.fd, fun y => ?_, fun _ => ⟨T, c3, hT.rg⟩⟩
    have := no y
    rcases z with z | z
    · exact absurd z this.1
    · rw [e7] at z; exact absurd z this.2
  refine ⟨fun z => keep s3 rfl (Or.inl z), fun z => ⟨fun y => keep s3 rfl (Or.inr y), fun y => ⟨⟨by omega, by omega⟩, fun s4 h4 => ⟨?_, fun s5 h5 => ?_⟩⟩⟩⟩
  · rw [e7]; unfold o2S; rw [e7] at y; unfold o2S at y
    unfold zTwB at v2 y ⊢
    omega
  · rw [h463] at h4
    have c4 := c3.up (a := 10) (i := zVal t T 1 (twS T) (avS t st)) (v := r7) (by decide) (by decide)
    rw [← h4] at c4
    have h464 : s4 46 1 = tw := by rw [h4, ups_at _ (by unfold isT at hi; omega)]; exact h463
    rw [h464] at h5
    have c5 := c4.up (a := 10) (i := r7) (v := zVal t T 1 (twS T) (avS t st)) (by decide) (by decide)
    rw [← h5] at c5
    have e47 : s5 47 = s3 47 := by rw [h5, ups_at _ (by unfold isT at hi; omega), h4, ups_at _ (by unfold isT at hi; omega)]
    refine ⟨?_, ?_, fun _ => ?_, fun _ => ⟨_, c5, ?_⟩⟩
    · unfold CRd; rw [e47]; exact q3.1
    · refine f3.fd.tr ?_
      rw [h5, h4]; exact (Fdr.up hi (by decide) (by decide)).tr (Fdr.up hi (by decide) (by decide))
    · rw [e7] at c5; exact c5
    · have r := hT.rg
      unfold zRg
      rw [ups_at _ (by decide), ups_at _ (by decide), ups_at _ (by decide), ups_at _ (by decide), ups_at _ (by decide), ups_at _ (by decide), ups_at _ (by decide), ups_at _ (by decide)]
      exact r
theorem K_feud (h : LC s t tw T st) : Mw g (e + 5) M_X4_feudLine [(13, 46)] s (LQ s t tw (p2S t T 0 (zFeB T) (avS t (zLim (T 0 13) 10 st))) (feP T (o1S t T 0 (avS t (zLim (T 0 13) 10 st))) (o2S t T 0 (zFeB T) (avS t (zLim (T 0 13) 10 st))))) := by
  obtain ⟨ht, hr, h46, hi, hc, hT⟩ := h
  have c1 := hT.2.1
  have b13 := hT.2.2.2.1
  refine S_X4_feudLine ?_
  rw [h46, hc.1]
  refine (C_limit (e := e + 1) hr).imp (fun _ s0 q0 => (C_adv (e := e + 1) (ht.fz q0.2) q0.1).imp (fun _ s1 q1 => ?_))
  have f1 := q0.2.tr q1.2
  have hc1 := hc.fz f1 hi
  have h461 : s1 46 1 = tw := by rw [f1 46 (by decide)]; exact h46
  refine (C_known (e := e) (ht.fz f1) q1.1 h461 hc1 c1 (by decide)).imp (fun r5 s2 q2 => ?_)
  have f2 := f1.tr q2.2.1
  have h462 : s2 46 1 = tw := by rw [f2 46 (by decide)]; exact h46
  rw [q2.2.2, h462]
  refine Mw.ex (C_foes (e := e + 3) (hc.fz f2 hi) hT) ((C_known (e := e) (ht.fz f2) q2.1 h462 (hc.fz f2 hi) c1 (by decide)).imp (fun r7 s3 q3 => ?_))
  have f3 := f2.tr q3.2.1
  have c3 := hc.fz f3 hi
  have h463 : s3 46 1 = tw := by rw [f3 46 (by decide)]; exact h46
  have e13 : s3 tw 13 = T 0 13 := by rw [c3.1]
  have v1 := val_in (t := t) (T := T) (k := 1) (bar := 0) (st := avS t (zLim (T 0 13) 10 st)) c1.1
  have v2 := val_in (t := t) (T := T) (k := 1) (bar := zFeB T (zVal t T 1 0 (avS t (zLim (T 0 13) 10 st)))) (st := p1S t T 0 (avS t (zLim (T 0 13) 10 st))) c1.1
  have e7 : r7 = o2S t T 0 (zFeB T) (avS t (zLim (T 0 13) 10 st)) := q3.2.2
  have no : (p2S t T 0 (zFeB T) (avS t (zLim (T 0 13) 10 st))).1 = 0 → zVal t T 1 0 (avS t (zLim (T 0 13) 10 st)) ≠ -1 ∧ o2S t T 0 (zFeB T) (avS t (zLim (T 0 13) 10 st)) ≠ -1 ∧ T 0 13 < 10 := fun z => by
    have k2 := g_knw z
    have k1 := g_knw k2.1
    refine ⟨by rw [k1.2.2.2]; exact k1.2.2.1.1, ?_, (g_lim (g_av k1.1)).2⟩
    have := k2.2.2.2
    show zVal t T 1 (zFeB T (zVal t T 1 0 (avS t (zLim (T 0 13) 10 st)))) (p1S t T 0 (avS t (zLim (T 0 13) 10 st))) ≠ -1
    rw [this]; exact k2.2.2.1.1
  have keep : ∀ s4, s4 = s3 → (zVal t T 1 0 (avS t (zLim (T 0 13) 10 st)) = -1 ∨ r7 = -1 ∨ 10 ≤ T 0 13) → LQ s t tw (p2S t T 0 (zFeB T) (avS t (zLim (T 0 13) 10 st))) (feP T (o1S t T 0 (avS t (zLim (T 0 13) 10 st))) (o2S t T 0 (zFeB T) (avS t (zLim (T 0 13) 10 st)))) 0 s4 := fun s4 e4 z => by
    rw [e4]
    refine ⟨q3.1, f3.fd, fun y => ?_, fun _ => ⟨T, c3, hT.rg⟩⟩
    have := no y
    rcases z with z | z | z
    · exact absurd z this.1
    · rw [e7] at z; exact absurd z this.2.1
    · have := this.2.2; omega
  rw [h463, e13]
  refine ⟨fun z => keep s3 rfl (Or.inl z), fun z => ⟨fun y => keep s3 rfl (Or.inr (Or.inl y)), fun y => ⟨fun x => keep s3 rfl (Or.inr (Or.inr x)), fun x => ⟨⟨by omega, by omega⟩, fun s4 h4 s5 h5 => ?_⟩⟩⟩⟩
  have c4 := c3.up (a := 13) (i := T 0 13) (v := bOr (bShl 1 (zVal t T 1 0 (avS t (zLim (T 0 13) 10 st)))) (bShl 1 r7)) (by decide) (by decide)
  rw [← h4] at c4
  have h464 : s4 46 1 = tw := by rw [h4, ups_at _ (by unfold isT at hi; omega)]; exact h463
  have e134 : s4 tw 13 = T 0 13 := by rw [h4, ups_at _ (by omega)]; exact e13
  rw [h464, e134, w32_of (show _ ≤ T 0 13 + 1 by omega) (by omega)] at h5
  have c5 := c4.up0 (i := 13) (v := T 0 13 + 1)
  rw [← h5] at c5
  have e47 : s5 47 = s3 47 := by rw [h5, ups_at _ (by unfold isT at hi; omega), h4, ups_at _ (by unfold isT at hi; omega)]
  refine ⟨?_, ?_, fun _ => ?_, fun _ => ⟨_, c5, ?_⟩⟩
  · unfold CRd; rw [e47]; exact q3.1
  · refine f3.fd.tr ?_
    rw [h5, h4]
    have := Fdr.up (s := ups s3 (tw + 13) (T 0 13) (bOr (bShl 1 (zVal t T 1 0 (avS t (zLim (T 0 13) 10 st)))) (bShl 1 r7))) (a := 0) (i := 13) (v := T 0 13 + 1) hi (by decide) (by decide)
    rw [show tw + 0 = tw by omega] at this
    exact (Fdr.up hi (by decide) (by decide)).tr this
  · rw [e7] at c5; exact c5
  · have r := hT.rg
    unfold zRg
    rw [ups_at _ (by decide), ups_at _ (by decide), ups_at _ (by decide), ups_at _ (by decide), ups_at _ (by decide), ups_at _ (by decide), ups_at _ (by decide), ups_at _ (by decide)]
    exact r
theorem C_setting {m : Int} (ht : CTp s t.1 t.2) (h : CRd s t st) : Mw g (e + 5) M_X4_setting [(13, 46), (0, m)] s (fun r s' => CRd s' t (zNum t 0 m (avS t st)) ∧ Fz s s' ∧ ((zNum t 0 m (avS t st)).1 = 0 → r = vlT t (avS t st).2)) :=
  S_X4_setting (fun _ => (C_adv (e := e + 1) ht h).imp (fun _ s1 q1 => (C_number (e := e) (ht.fz q1.2) q1.1).imp (fun r s2 q2 => ⟨q2.1, q1.2.tr q2.2.1, fun z => (q2.2.2.1 z).2.1⟩)))
theorem zRg_0 {T : Tn} {i v : Int} (h : zRg T) : zRg (ups T 0 i v) := by
  unfold zRg
  rw [ups_at _ (by decide), ups_at _ (by decide), ups_at _ (by decide), ups_at _ (by decide)]
  exact h
theorem Fdr.up0 {i v : Int} (ht : isT tw) : Fdr tw s (ups s tw i v) := by
  have := Fdr.up (s := s) (a := 0) (i := i) (v := v) ht (by decide) (by decide)
  rw [show tw + 0 = tw by omega] at this
  exact this
theorem K_raised (h : LC s t tw T st) : Mw g (e + 5) M_X4_raisedLine [(13, 46)] s (LQ s t tw (raS t st) (raT t T st)) := by
  obtain ⟨ht, hr, h46, hi, hc, hT⟩ := h
  have hi' := hi
  unfold isT at hi'
  refine S_X4_raisedLine ((C_adv (e := e + 1) ht hr).imp (fun _ s1 q1 => (C_number (e := e) (ht.fz q1.2) q1.1).imp (fun r3 s2 q2 s3 h3 => ?_)))
  have f2 := q1.2.tr q2.2.1
  have h461 : s1 46 1 = tw := by rw [q1.2 46 (by decide)]; exact h46
  rw [h461] at h3
  have c2 := hc.fz f2 hi
  have c3 := c2.up0 (i := 14) (v := r3)
  rw [← h3] at c3
  have o3 : ∀ o, o ≠ tw → s3 o = s2 o := fun o q => by rw [h3, ups_at _ q]
  have ht3 : CTp s3 t.1 t.2 := by have := ht.fz f2; unfold CTp; rw [o3 2 (by omega), o3 3 (by omega)]; exact this
  have r3' : CRd s3 t (zNum t 1 30 (avS t st)) := by unfold CRd; rw [o3 47 (by omega)]; exact q2.1
  refine (C_own (e := e) ht3 r3' (by decide)).imp (fun _ s4 q4 => ?_)
  have h464 : s4 46 1 = tw := by rw [q4.2 46 (by decide), o3 46 (by omega), f2 46 (by decide)]; exact h46
  have c4 := c3.fz q4.2 hi
  have e14 : s4 tw 14 = r3 := by rw [c4.1, ups_eq]
  rw [h464, e14]
  have ht4 := ht3.fz q4.2
  refine (C_number (e := e) ht4 q4.1).imp (fun r8 s5 q5 s6 h6 => ?_)
  have c5 := c4.fz q5.2.1 hi
  have c6 := c5.up0 (i := 15) (v := r8)
  rw [← h6] at c6
  have es : zNum t (w32 (r3 + 1)) 30 (zOwn t 14 (zNum t 1 30 (avS t st))) = raS t st := by
    unfold raS
    by_cases z : (zNum t 1 30 (avS t st)).1 = 0
    · have := q2.2.2.1 z
      rw [w32_of (show _ ≤ r3 + 1 by omega) (by omega), this.2.1]
    · rw [zOwn_bad z, zNum_bad z, zNum_bad z]
  rw [es] at q5
  refine ⟨?_, ?_, fun z => ?_, fun _ => ⟨_, c6, zRg_0 (zRg_0 hT.rg)⟩⟩
  · unfold CRd; rw [h6, ups_at _ (by omega)]; exact q5.1
  · refine ((f2.fd.tr ?_).tr (q4.2.tr q5.2.1).fd).tr ?_
    · rw [h3]; exact Fdr.up0 hi
    · rw [h6]; exact Fdr.up0 hi
  · have z4 := g_num z
    have z2 := g_own z4.1
    have v3 := (q2.2.2.1 z2).2.1
    have v8 := (q5.2.2.1 z).2.1
    rw [v3, v8] at c6
    exact c6
end CLN3
