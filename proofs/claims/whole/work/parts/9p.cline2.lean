/-! statements of the class, line by line -/
def zAdd (T : Tn) (k x : Int) : Tn := ups (ups T (3 + k) (T 1 k) x) 1 k (T 1 k + 1)
/-- what stays in range whatever is told -/
def zRg (T : Tn) : Prop := (∀ h, 0 ≤ h → h < 6 → (0 ≤ T 6 h ∧ T 6 h ≤ 9) ∧ 0 ≤ T 7 h ∧ T 7 h ≤ 9) ∧ ∀ c, 0 ≤ c → c < 8 → (0 ≤ T 8 c ∧ T 8 c ≤ 5) ∧ 0 ≤ T 9 c ∧ T 9 c ≤ 99
def Fdr (tw : Int) (s s2 : Sg) : Prop := Fr (fun o => o = 46 ∨ o = 47 ∨ (tw ≤ o ∧ o ≤ tw + 18)) s s2 ∧ s2 46 1 = s 46 1
def LQ (s : Sg) (t : Tp) (tw : Int) (st2 : Int × Int) (T2 : Tn) : Int → Sg → Prop := fun _ s2 => CRd s2 t st2 ∧ Fdr tw s s2 ∧ (st2.1 = 0 → CT s2 tw T2) ∧ (st2.1 ≠ 0 → ∃ T3, CT s2 tw T3 ∧ zRg T3)
def LC (s : Sg) (t : Tp) (tw : Int) (T : Tn) (st : Int × Int) : Prop := CTp s t.1 t.2 ∧ CRd s t st ∧ s 46 1 = tw ∧ isT tw ∧ CT s tw T ∧ TOK T
def l2S (t : Tp) (T : Tn) (k m w1 w2 lo hi : Int) (st : Int × Int) : Int × Int := zNum t lo hi (zOwn t w2 (zNum t lo hi (zOwn t w1 (zNew t T (avS t (zLim (T 1 k) m st))))))
def l2T (t : Tp) (T : Tn) (k m w1 w2 lo hi a1 a2 : Int) (st : Int × Int) : Tn := zAdd (ups (ups T a1 (T 1 k) (vlT t (zOwn t w1 (zNew t T (avS t (zLim (T 1 k) m st)))).2)) a2 (T 1 k) (vlT t (zOwn t w2 (zNum t lo hi (zOwn t w1 (zNew t T (avS t (zLim (T 1 k) m st)))))).2)) k (vlT t (avS t (zLim (T 1 k) m st)).2)
def chS2 (t : Tp) (T : Tn) (st : Int × Int) : Int × Int := zNum t 0 99 (zOwn t 5 (zKnw t T 0 0 (zOwn t 4 (zNew t T (avS t (zLim (T 1 1) 8 st))))))
def chT2 (t : Tp) (T : Tn) (st : Int × Int) : Tn := zAdd (ups (ups T 8 (T 1 1) (zVal t T 0 0 (zOwn t 4 (zNew t T (avS t (zLim (T 1 1) 8 st)))))) 9 (T 1 1) (vlT t (zOwn t 5 (zKnw t T 0 0 (zOwn t 4 (zNew t T (avS t (zLim (T 1 1) 8 st)))))).2)) 1 (vlT t (avS t (zLim (T 1 1) 8 st)).2)
section CLN
variable {g : GT} {e : Nat} {s : Sg} {t : Tp} {st : Int × Int} {T : Tn} {tw : Int}
theorem TOK.rg (h : TOK T) : zRg T := ⟨h.2.2.2.2.1, fun c c0 c1 => ⟨(h.2.2.2.2.2.1 c c0 c1).1, (h.2.2.2.2.2.1 c c0 c1).2.1⟩⟩
theorem TOK.cn (h : TOK T) : zCn T := ⟨by have := h.1; omega, h.2.1, by have := h.2.2.1; omega⟩
theorem Fz.fd {s2 : Sg} (h : Fz s s2) : Fdr tw s s2 := ⟨h.wk (fun o q => Or.inr (Or.inl q)), by rw [h 46 (by decide)]⟩
theorem Fdr.tr {s2 s3 : Sg} (h : Fdr tw s s2) (h2 : Fdr tw s2 s3) : Fdr tw s s3 := ⟨h.1.tr h2.1, h2.2.trans h.2⟩
theorem Fdr.up {a i v : Int} (ht : isT tw) (h0 : 0 ≤ a) (h1 : a ≤ 18) : Fdr tw s (ups s (tw + a) i v) := ⟨Fr.up (Or.inr (Or.inr ⟨by omega, by omega⟩)), by rw [ups_at _ (by unfold isT at ht; omega)]⟩
theorem CT.fz {s2 : Sg} (hc : CT s tw T) (h : Fz s s2) (ht : isT tw) : CT s2 tw T := hc.fr h (fun o o1 o2 _ => by unfold isT at ht; omega)
theorem CT.up {a i v : Int} (hc : CT s tw T) (h1 : 1 ≤ a) (h2 : a ≤ 18) : CT (ups s (tw + a) i v) tw (ups T a i v) := by
  refine ⟨by rw [ups_at _ (by omega), ups_at _ (by omega)]; exact hc.1, fun c c1 c2 c3 => ?_⟩
  funext k
  unfold ups
  rw [hc.2 c c1 c2 c3]
  by_cases q : c = a ∧ k = i
  · rw [if_pos q, if_pos ⟨by omega, q.2⟩]
  · rw [if_neg q, if_neg (fun z => q ⟨by omega, z.2⟩)]
theorem CT.up0 {i v : Int} (hc : CT s tw T) : CT (ups s tw i v) tw (ups T 0 i v) := by
  refine ⟨?_, fun c c1 c2 c3 => by rw [ups_at _ (by omega), ups_at _ (by omega)]; exact hc.2 c c1 c2 c3⟩
  funext k
  unfold ups
  rw [hc.1]
  by_cases q : k = i
  · rw [if_pos ⟨rfl, q⟩, if_pos ⟨rfl, q⟩]
  · rw [if_neg (fun z => q z.2), if_neg (fun z => q z.2)]
theorem g_av (h : (avS t st).1 = 0) : st.1 = 0 := by
  apply Classical.byContradiction
  intro z
  rw [avS_bad z] at h
  exact z h
theorem g_lim {c m : Int} (h : (zLim c m st).1 = 0) : st.1 = 0 ∧ c < m := by
  unfold zLim flS1 at h
  by_cases z : c < m
  · rw [if_pos z] at h; exact ⟨h, z⟩
  · rw [if_neg z] at h
    by_cases y : st.1 = 0
    · rw [if_pos y] at h; exact absurd h (by show ¬ (6 : Int) = 0; decide)
    · rw [if_neg y] at h; exact absurd h y
theorem g_own {k : Int} (h : (zOwn t k st).1 = 0) : st.1 = 0 := by
  apply Classical.byContradiction
  intro z
  unfold zOwn at h
  rw [if_neg z] at h
  exact z h
theorem g_num {lo hi : Int} (h : (zNum t lo hi st).1 = 0) : st.1 = 0 ∧ lo ≤ vlT t st.2 ∧ vlT t st.2 ≤ hi := by
  unfold zNum at h
  by_cases z : st.1 = 0
  · rw [if_pos z] at h
    by_cases y : kdT t st.2 = 2
    · rw [if_pos y] at h
      by_cases x : lo ≤ vlT t st.2 ∧ vlT t st.2 ≤ hi
      · exact ⟨z, x⟩
      · rw [if_neg x] at h; exact absurd h (by show ¬ (4 : Int) = 0; decide)
    · rw [if_neg y] at h; exact absurd h (by show ¬ (1 : Int) = 0; decide)
  · rw [if_neg z] at h; exact absurd h z
theorem g_new (h : (zNew t T st).1 = 0) : st.1 = 0 := by
  apply Classical.byContradiction
  intro z
  unfold zNew at h
  rw [if_neg z] at h
  exact z h
theorem g_knw {k bar : Int} (h : (zKnw t T k bar st).1 = 0) : st.1 = 0 ∧ zNam t st.2 ∧ zHas t T k bar st.2 ∧ zVal t T k bar st = zFnd T k (vlT t st.2) := by
  unfold zKnw at h
  by_cases z : st.1 = 0
  · rw [if_pos z] at h
    by_cases y : zNam t st.2
    · rw [if_pos y] at h
      by_cases x : zHas t T k bar st.2
      · exact ⟨z, y, x, by unfold zVal; rw [if_pos ⟨z, y, x⟩]⟩
      · rw [if_neg x] at h; exact absurd h (by show ¬ (3 : Int) = 0; decide)
    · rw [if_neg y] at h; exact absurd h (by show ¬ (1 : Int) = 0; decide)
  · rw [if_neg z] at h; exact absurd h z
theorem C_addName {k x : Int} (hc : CT s tw T) (ht : isT tw) (k0 : 0 ≤ k ∧ k < 3) (hb : 0 ≤ T 1 k ∧ T 1 k < 8) : Mw g (e + 1) M_X9_addName [(18, tw), (0, k), (0, x)] s (fun _ s' => CT s' tw (zAdd T k x) ∧ Fdr tw s s' ∧ s' 47 = s 47) := by
  have e1 : s (tw + 1) = T 1 := hc.2 1 (by decide) (by decide) (by decide)
  refine S_X9_addName (fun _ _ _ => ⟨k0, fun q => absurd q (by rw [e1]; omega), fun _ => ⟨k0, k0, ⟨by rw [e1]; omega, by rw [e1]; omega⟩, fun s1 h1 => ⟨k0, k0, fun s2 h2 => ?_⟩⟩⟩)
  rw [e1, show tw + 2 + 1 + k = tw + (3 + k) by omega] at h1
  have c1 := hc.up (a := 3 + k) (i := T 1 k) (v := x) (by omega) (by omega)
  rw [← h1] at c1
  have e2 : s1 (tw + 1) k = T 1 k := by rw [h1, ups_at _ (by omega), e1]
  rw [e2, w32_of (show _ ≤ T 1 k + 1 by omega) (by omega)] at h2
  have c2 := c1.up (a := 1) (i := k) (v := T 1 k + 1) (by decide) (by decide)
  rw [← h2] at c2
  refine ⟨c2, ?_, ?_⟩
  · rw [h2, h1]
    exact (Fdr.up ht (by omega) (by omega)).tr (Fdr.up ht (by decide) (by decide))
  · unfold isT at ht
    rw [h2, ups_at _ (by omega), h1, ups_at _ (by omega)]
theorem K_home (h : LC s t tw T st) : Mw g (e + 5) M_X4_homeLine [(13, 46)] s (LQ s t tw (l2S t T 0 6 1 2 0 9 st) (l2T t T 0 6 1 2 0 9 6 7 st)) := by
  obtain ⟨ht, hr, h46, hi, hc, hT⟩ := h
  have cn := hT.cn
  have e1 : ∀ s1, CT s1 tw T → s1 (tw + 1) 0 = T 1 0 := fun s1 c => by rw [c.2 1 (by decide) (by decide) (by decide)]
  refine S_X4_homeLine ?_
  rw [h46]
  refine S_X9_homeCount (fun _ => ?_)
  rw [e1 s hc]
  refine (C_limit (e := e + 1) hr).imp (fun _ s1 q1 => (C_adv (e := e + 1) (ht.fz q1.2) q1.1).imp (fun _ s2 q2 => ?_))
  have f2 := q1.2.tr q2.2
  refine (C_newName (e := e) (ht.fz f2) q2.1 (by rw [f2 46 (by decide)]; exact h46) (hc.fz f2 hi) cn).imp (fun r7 s3 q3 => ?_)
  have f3 := f2.tr q3.2.1
  refine (C_own (e := e) (ht.fz f3) q3.1 (by decide)).imp (fun _ s4 q4 => ?_)
  have f4 := f3.tr q4.2
  refine (C_number (e := e) (ht.fz f4) q4.1).imp (fun r11 s5 q5 => ?_)
  have f5 := f4.tr q5.2.1
  refine (C_own (e := e) (ht.fz f5) q5.1 (by decide)).imp (fun _ s6 q6 => ?_)
  have f6 := f5.tr q6.2
  refine (C_number (e := e) (ht.fz f6) q6.1).imp (fun r15 s7 q7 => ?_)
  have f7 := f6.tr q7.2.1
  have c7 := hc.fz f7 hi
  have h467 : s7 46 1 = tw := by rw [f7 46 (by decide)]; exact h46
  rw [h467]
  refine S_X9_homeCount (fun _ => ?_)
  rw [e1 s7 c7]
  refine C_isGood (e := e + 3) q7.1 (fun z => ⟨fun y => absurd y (by decide), fun _ => ?_⟩) (fun z => ⟨fun _ => ⟨q7.1, f7.fd, fun y => absurd y z, fun _ => ⟨T, c7, hT.rg⟩⟩, fun y => absurd rfl y⟩)
  have z6 := (g_num z).1
  have z5 := g_own z6
  have z4 := (g_num z5).1
  have z3 := g_own z4
  have z2 := g_new z3
  have z1 := g_lim (g_av z2)
  have v11 := (q5.2.2.1 z5).2.1
  have v15 := (q7.2.2.1 z).2.1
  have v7 := q3.2.2 z2
  have kb : 0 ≤ T 1 0 := cn.1.1
  refine ⟨fun y => by have := z1.2; omega, fun _ => ⟨⟨kb, z1.2⟩, fun s8 h8 => ⟨⟨kb, z1.2⟩, fun s9 h9 => ?_⟩⟩⟩
  rw [h467] at h8
  have c8 := c7.up (a := 6) (i := T 1 0) (v := r11) (by decide) (by decide)
  rw [← h8] at c8
  have h468 : s8 46 1 = tw := by rw [h8, ups_at _ (by unfold isT at hi; omega)]; exact h467
  rw [h468] at h9
  have c9 := c8.up (a := 7) (i := T 1 0) (v := r15) (by decide) (by decide)
  rw [← h9] at c9
  have h469 : s9 46 1 = tw := by rw [h9, ups_at _ (by unfold isT at hi; omega)]; exact h468
  rw [h469]
  have eT : ∀ j, ups (ups T 6 (T 1 0) r11) 7 (T 1 0) r15 1 j = T 1 j := fun j => by rw [ups_at _ (by decide), ups_at _ (by decide)]
  have ff : Fdr tw s7 s9 := by rw [h9, h8]; exact (Fdr.up hi (by decide) (by decide)).tr (Fdr.up hi (by decide) (by decide))
  refine (C_addName (e := e + 3) (k := 0) (x := r7) c9 hi (by decide) (by rw [eT]; have := z1.2; omega)).imp (fun _ s10 q10 => ⟨?_, (f7.fd.tr ff).tr q10.2.1, fun _ => ?_, fun y => absurd z y⟩)
  · refine ⟨fun y => ?_, fun y => absurd z y⟩
    have e47 : s10 47 = s7 47 := by rw [q10.2.2, h9, ups_at _ (by unfold isT at hi; omega), h8, ups_at _ (by unfold isT at hi; omega)]
    rw [e47]; exact q7.1.1 y
  · have := q10.1
    rw [v11, v15, v7] at this
    exact this
theorem K_wall (h : LC s t tw T st) : Mw g (e + 5) M_X4_wallLine [(13, 46)] s (LQ s t tw (l2S t T 2 4 9 10 1 4 st) (l2T t T 2 4 9 10 1 4 11 12 st)) := by
  obtain ⟨ht, hr, h46, hi, hc, hT⟩ := h
  have cn := hT.cn
  have e1 : ∀ s1, CT s1 tw T → s1 (tw + 1) 2 = T 1 2 := fun s1 c => by rw [c.2 1 (by decide) (by decide) (by decide)]
  refine S_X4_wallLine ?_
  rw [h46]
  refine S_X9_wallCount (fun _ => ?_)
  rw [e1 s hc]
  refine (C_limit (e := e + 1) hr).imp (fun _ s1 q1 => (C_adv (e := e + 1) (ht.fz q1.2) q1.1).imp (fun _ s2 q2 => ?_))
  have f2 := q1.2.tr q2.2
  refine (C_newName (e := e) (ht.fz f2) q2.1 (by rw [f2 46 (by decide)]; exact h46) (hc.fz f2 hi) cn).imp (fun r7 s3 q3 => ?_)
  have f3 := f2.tr q3.2.1
  refine (C_own (e := e) (ht.fz f3) q3.1 (by decide)).imp (fun _ s4 q4 => ?_)
  have f4 := f3.tr q4.2
  refine (C_number (e := e) (ht.fz f4) q4.1).imp (fun r11 s5 q5 => ?_)
  have f5 := f4.tr q5.2.1
  refine (C_own (e := e) (ht.fz f5) q5.1 (by decide)).imp (fun _ s6 q6 => ?_)
  have f6 := f5.tr q6.2
  refine (C_number (e := e) (ht.fz f6) q6.1).imp (fun r15 s7 q7 => ?_)
  have f7 := f6.tr q7.2.1
  have c7 := hc.fz f7 hi
  have h467 : s7 46 1 = tw := by rw [f7 46 (by decide)]; exact h46
  rw [h467]
  refine S_X9_wallCount (fun _ => ?_)
  rw [e1 s7 c7]
  refine C_isGood (e := e + 3) q7.1 (fun z => ⟨fun y => absurd y (by decide), fun _ => ?_⟩) (fun z => ⟨fun _ => ⟨q7.1, f7.fd, fun y => absurd y z, fun _ => ⟨T, c7, hT.rg⟩⟩, fun y => absurd rfl y⟩)
  have z6 := (g_num z).1
  have z5 := g_own z6
  have z4 := (g_num z5).1
  have z3 := g_own z4
  have z2 := g_new z3
  have z1 := g_lim (g_av z2)
  have v11 := (q5.2.2.1 z5).2.1
  have v15 := (q7.2.2.1 z).2.1
  have v7 := q3.2.2 z2
  have kb : 0 ≤ T 1 2 := cn.2.2.1
  refine ⟨fun y => by have := z1.2; omega, fun _ => ⟨⟨kb, z1.2⟩, fun s8 h8 => ⟨⟨kb, z1.2⟩, fun s9 h9 => ?_⟩⟩⟩
  rw [h467] at h8
  have c8 := c7.up (a := 11) (i := T 1 2) (v := r11) (by decide) (by decide)
  rw [← h8] at c8
  have h468 : s8 46 1 = tw := by rw [h8, ups_at _ (by unfold isT at hi; omega)]; exact h467
  rw [h468] at h9
  have c9 := c8.up (a := 12) (i := T 1 2) (v := r15) (by decide) (by decide)
  rw [← h9] at c9
  have h469 : s9 46 1 = tw := by rw [h9, ups_at _ (by unfold isT at hi; omega)]; exact h468
  rw [h469]
  have eT : ∀ j, ups (ups T 11 (T 1 2) r11) 12 (T 1 2) r15 1 j = T 1 j := fun j => by rw [ups_at _ (by decide), ups_at _ (by decide)]
  have ff : Fdr tw s7 s9 := by rw [h9, h8]; exact (Fdr.up hi (by decide) (by decide)).tr (Fdr.up hi (by decide) (by decide))
  refine (C_addName (e := e + 3) (k := 2) (x := r7) c9 hi (by decide) (by rw [eT]; have := z1.2; omega)).imp (fun _ s10 q10 => ⟨?_, (f7.fd.tr ff).tr q10.2.1, fun _ => ?_, fun y => absurd z y⟩)
  · refine ⟨fun y => ?_, fun y => absurd z y⟩
    have e47 : s10 47 = s7 47 := by rw [q10.2.2, h9, ups_at _ (by unfold isT at hi; omega), h8, ups_at _ (by unfold isT at hi; omega)]
    rw [e47]; exact q7.1.1 y
  · have := q10.1
    rw [v11, v15, v7] at this
    exact this
theorem K_child (h : LC s t tw T st) : Mw g (e + 5) M_X4_childLine [(13, 46)] s (LQ s t tw (chS2 t T st) (chT2 t T st)) := by
  obtain ⟨ht, hr, h46, hi, hc, hT⟩ := h
  have cn := hT.cn
  have e1 : ∀ s1, CT s1 tw T → s1 (tw + 1) 1 = T 1 1 := fun s1 c => by rw [c.2 1 (by decide) (by decide) (by decide)]
  refine S_X4_childLine ?_
  rw [h46]
  refine S_X9_childCount (fun _ => ?_)
  rw [e1 s hc]
  refine (C_limit (e := e + 1) hr).imp (fun _ s1 q1 => (C_adv (e := e + 1) (ht.fz q1.2) q1.1).imp (fun _ s2 q2 => ?_))
  have f2 := q1.2.tr q2.2
  refine (C_newName (e := e) (ht.fz f2) q2.1 (by rw [f2 46 (by decide)]; exact h46) (hc.fz f2 hi) cn).imp (fun r7 s3 q3 => ?_)
  have f3 := f2.tr q3.2.1
  refine (C_own (e := e) (ht.fz f3) q3.1 (by decide)).imp (fun _ s4 q4 => ?_)
  have f4 := f3.tr q4.2
  refine (C_known (e := e) (ht.fz f4) q4.1 (by rw [f4 46 (by decide)]; exact h46) (hc.fz f4 hi) (by have := hT.1; omega) (by decide)).imp (fun r11 s5 q5 => ?_)
  have f5 := f4.tr q5.2.1
  refine (C_own (e := e) (ht.fz f5) q5.1 (by decide)).imp (fun _ s6 q6 => ?_)
  have f6 := f5.tr q6.2
  refine (C_number (e := e) (ht.fz f6) q6.1).imp (fun r15 s7 q7 => ?_)
  have f7 := f6.tr q7.2.1
  have c7 := hc.fz f7 hi
  have h467 : s7 46 1 = tw := by rw [f7 46 (by decide)]; exact h46
  rw [h467]
  refine S_X9_childCount (fun _ => ?_)
  rw [e1 s7 c7]
  refine C_isGood (e := e + 3) q7.1 (fun z => ⟨fun y => absurd y (by decide), fun _ => ?_⟩) (fun z => ⟨fun _ => ⟨q7.1, f7.fd, fun y => absurd y z, fun _ => ⟨T, c7, hT.rg⟩⟩, fun y => absurd rfl y⟩)
  have z6 := (g_num z).1
  have z5 := g_own z6
  have z4 := (g_knw z5).1
  have z3 := g_own z4
  have z2 := g_new z3
  have z1 := g_lim (g_av z2)
  have v11 := q5.2.2
  have v15 := (q7.2.2.1 z).2.1
  have v7 := q3.2.2 z2
  have kb : 0 ≤ T 1 1 := cn.2.1.1
  refine ⟨fun y => by have := z1.2; omega, fun _ => ⟨⟨kb, z1.2⟩, fun s8 h8 => ⟨⟨kb, z1.2⟩, fun s9 h9 => ?_⟩⟩⟩
  rw [h467] at h8
  have c8 := c7.up (a := 8) (i := T 1 1) (v := r11) (by decide) (by decide)
  rw [← h8] at c8
  have h468 : s8 46 1 = tw := by rw [h8, ups_at _ (by unfold isT at hi; omega)]; exact h467
  rw [h468] at h9
  have c9 := c8.up (a := 9) (i := T 1 1) (v := r15) (by decide) (by decide)
  rw [← h9] at c9
  have h469 : s9 46 1 = tw := by rw [h9, ups_at _ (by unfold isT at hi; omega)]; exact h468
  rw [h469]
  have eT : ∀ j, ups (ups T 8 (T 1 1) r11) 9 (T 1 1) r15 1 j = T 1 j := fun j => by rw [ups_at _ (by decide), ups_at _ (by decide)]
  have ff : Fdr tw s7 s9 := by rw [h9, h8]; exact (Fdr.up hi (by decide) (by decide)).tr (Fdr.up hi (by decide) (by decide))
  refine (C_addName (e := e + 3) (k := 1) (x := r7) c9 hi (by decide) (by rw [eT]; have := z1.2; omega)).imp (fun _ s10 q10 => ⟨?_, (f7.fd.tr ff).tr q10.2.1, fun _ => ?_, fun y => absurd z y⟩)
  · refine ⟨fun y => ?_, fun y => absurd z y⟩
    have e47 : s10 47 = s7 47 := by rw [q10.2.2, h9, ups_at _ (by unfold isT at hi; omega), h8, ups_at _ (by unfold isT at hi; omega)]
    rw [e47]; exact q7.1.1 y
  · have := q10.1
    rw [v11, v15, v7] at this
    exact this
end CLN
