/-! formulas: the class's parser is the descent -/
def isFo (fo : Int) : Prop := fo = 18 ∨ fo = 21 ∨ fo = 39 ∨ fo = 42
def CFm (s : Sg) (t : Tp) (fo mb o : Int) (st : Int × Int) (L : List Int) : Prop :=
  CTp s t.1 t.2 ∧ CRd s t st ∧ s 46 2 = fo ∧ s 46 3 = mb ∧ isFo fo ∧ 0 ≤ st.1 ∧ (0 ≤ s fo 2 ∧ s fo 2 ≤ 1600) ∧ (st.1 = 0 → s 46 4 = o ∧ s fo 2 = L.length ∧ ∀ i : Nat, i < L.length → s (fo + 1) i = L.getD i 0)
def Ff (fo : Int) (s s2 : Sg) : Prop := Fr (fun o => o = 46 ∨ o = 47 ∨ o = fo ∨ o = fo + 1) s s2 ∧ (∀ k, k ≠ 4 → s2 46 k = s 46 k) ∧ ∀ k, k ≠ 2 → s2 fo k = s fo k
section CFORM
variable {g : GT} {e : Nat} {s : Sg} {t : Tp} {fo mb o : Int} {st : Int × Int} {L : List Int}
theorem Ff.rf : Ff fo s s := ⟨Fr.rf, fun _ _ => rfl, fun _ _ => rfl⟩
theorem Ff.tr {s2 s3 : Sg} (h : Ff fo s s2) (h2 : Ff fo s2 s3) : Ff fo s s3 := ⟨h.1.tr h2.1, fun k hk => (h2.2.1 k hk).trans (h.2.1 k hk), fun k hk => (h2.2.2 k hk).trans (h.2.2 k hk)⟩
theorem Ff.fz {s2 : Sg} (hfo : isFo fo) (h : Fz s s2) : Ff fo s s2 := by
  refine ⟨h.wk (fun o z => Or.inr (Or.inl z)), fun k _ => by rw [h 46 (by decide)], fun k _ => ?_⟩
  rw [h fo (by unfold isFo at hfo; omega)]
theorem CFm.anyL {L2 : List Int} (h : CFm s t fo mb o st L) (z : st.1 ≠ 0) : CFm s t fo mb o st L2 := ⟨h.1, h.2.1, h.2.2.1, h.2.2.2.1, h.2.2.2.2.1, h.2.2.2.2.2.1, h.2.2.2.2.2.2.1, fun y => absurd y z⟩
theorem CFm.anyo {o2 : Int} (h : CFm s t fo mb o st L) (z : st.1 ≠ 0) : CFm s t fo mb o2 st L := ⟨h.1, h.2.1, h.2.2.1, h.2.2.2.1, h.2.2.2.2.1, h.2.2.2.2.2.1, h.2.2.2.2.2.2.1, fun y => absurd y z⟩
theorem CFm.fz {s2 : Sg} {st2 : Int × Int} (h : CFm s t fo mb o st L) (hf : Fz s s2) (hr : CRd s2 t st2) (h0 : 0 ≤ st2.1) (hg : st2.1 = 0 → st.1 = 0) : CFm s2 t fo mb o st2 L := by
  obtain ⟨h1, h2, h3, h4, h5, h6, h7, h8⟩ := h
  have e46 : s2 46 = s 46 := hf 46 (by decide)
  have ef : s2 fo = s fo := hf fo (by unfold isFo at h5; omega)
  have ef1 : s2 (fo + 1) = s (fo + 1) := hf (fo + 1) (by unfold isFo at h5; omega)
  refine ⟨h1.fz hf, hr, by rw [e46]; exact h3, by rw [e46]; exact h4, h5, h0, by rw [ef]; exact h7, fun z => ?_⟩
  rw [e46, ef, ef1]
  exact h8 (hg z)
theorem CFm.in (h : CFm s t fo mb o st L) (z : st.1 = 0) : (0 ≤ st.2 ∧ st.2 ≤ t.1) ∧ lxT t st.2 = -1 := by
  have := h.2.1.1 z
  exact ⟨this.2.2.1, this.2.2.2.1⟩
theorem CFm.bad (h : CFm s t fo mb o st L) (z : st.1 ≠ 0) : s 47 1 = 0 ∧ s 47 3 = 31 := (h.2.1.2 z).2.2
theorem CFm.gd (h : CFm s t fo mb o st L) (z : st.1 = 0) : s 47 1 = kdT t st.2 ∧ s 47 2 = vlT t st.2 ∧ s 47 3 = wdT t st.2 := (h.2.1.1 z).2.2.2.2.2.2
theorem avS_0 (h : CFm s t fo mb o st L) : 0 ≤ (avS t st).1 ∧ ((avS t st).1 = 0 → st.1 = 0) := by
  unfold avS
  by_cases z : st.1 = 0
  · rw [if_pos z]
    have i := h.in z
    exact ⟨(av_in i.1.1 i.1.2).2.1, fun _ => z⟩
  · rw [if_neg z]
    exact ⟨h.2.2.2.2.2.1, fun y => y⟩
theorem K_adv (h : CFm s t fo mb o st L) : Mw g (e + 3) M_X6_advance [(15, 47)] s (fun _ s' => CFm s' t fo mb o (avS t st) L ∧ Ff fo s s') :=
  (C_adv h.1 h.2.1).imp (fun _ _ q => ⟨h.fz q.2 q.1 (avS_0 h).1 (avS_0 h).2, Ff.fz h.2.2.2.2.1 q.2⟩)
theorem K_fh {k : Int} (h : CFm s t fo mb o st L) (k0 : 0 < k) : Mw g (e + 2) M_X6_failHere [(15, 47), (0, k)] s (fun _ s' => CFm s' t fo mb o (flS1 k st) L ∧ Ff fo s s') := by
  refine (C_fh h.2.1 (by omega)).imp (fun _ s' q => ?_)
  have h0 : 0 ≤ (flS1 k st).1 := by
    unfold flS1
    split
    · show 0 ≤ k; omega
    · exact h.2.2.2.2.2.1
  refine ⟨h.fz q.2 q.1 h0 (fun z => ?_), Ff.fz h.2.2.2.2.1 q.2⟩
  unfold flS1 at z
  split at z
  · rename_i y; exact y
  · exact z
theorem K_is {c : Int} (h : CFm s t fo mb o st L) : Mw g (e + 1) M_X6_isSign [(15, 47), (0, c)] s (fun r s' => (st.1 = 0 ∧ kdT t st.2 = 3 ∧ vlT t st.2 = c → r = 1) ∧ (¬ (st.1 = 0 ∧ kdT t st.2 = 3 ∧ vlT t st.2 = c) → r = 0) ∧ s' = s) := by
  refine S_X6_isSign (fun _ => ?_)
  by_cases z : st.1 = 0
  · obtain ⟨g1, g2, g3⟩ := h.gd z
    rw [g1, g2]
    exact ⟨fun q => ⟨fun y => absurd y.2.1 q, fun _ => rfl, rfl⟩, fun q => ⟨fun q2 => ⟨fun y => absurd y.2.2 q2, fun _ => rfl, rfl⟩, fun q2 => ⟨fun _ => rfl, fun y => absurd ⟨z, q, q2⟩ y, rfl⟩⟩⟩
  · rw [(h.bad z).1]
    exact ⟨fun q => ⟨fun y => absurd y.1 z, fun _ => rfl, rfl⟩, fun q => absurd q (by decide)⟩
theorem K_sign {c : Int} (h : CFm s t fo mb o st L) : Mw g (e + 4) M_X4_sign [(13, 46), (0, c)] s (fun _ s' => CFm s' t fo mb o (msS t c st) L ∧ Ff fo s s') := by
  refine S_X4_sign (fun _ => (K_is h).imp (fun r s2 q => ?_))
  obtain ⟨q1, q2, q3⟩ := q
  subst q3
  refine ⟨fun z => S_X4_sign_19 ((K_adv h).imp (fun _ s4 m => ?_)), fun z => (K_fh h (by decide)).imp (fun _ s4 m => S_X4_sign_19 ((K_adv m.1).imp (fun _ s6 m2 => ?_)))⟩
  · have y : st.1 = 0 ∧ kdT t st.2 = 3 ∧ vlT t st.2 = c := Classical.byContradiction (fun x => z (q2 x))
    have : msS t c st = avS t st := by unfold msS avS; rw [if_pos y.1, if_pos y.1, if_pos y.2]
    rw [this]
    exact m
  · have y : ¬ (st.1 = 0 ∧ kdT t st.2 = 3 ∧ vlT t st.2 = c) := fun x => by have := q1 x; omega
    have : msS t c st = avS t (flS1 1 st) := by
      unfold msS avS flS1
      by_cases x : st.1 = 0
      · rw [if_pos x, if_pos x, if_neg (fun u => y ⟨x, u⟩), if_neg (by show ¬ ((1 : Int) = 0); decide)]
      · rw [if_neg x, if_neg x, if_neg x]
    rw [this]
    exact ⟨m2.1, m.2.tr m2.2⟩
theorem K_emit {c : Int} (h : CFm s t fo mb o st L) (hb : st.1 = 0 → L.length < 1600) : Mw g (e + 1) M_X2_add [(11, fo), (0, c)] s (fun _ s' => CFm s' t fo mb o st (L ++ [c]) ∧ Ff fo s s') := by
  obtain ⟨h1, h2, h3, h4, h5, h6, h7, h8⟩ := h
  refine S_X2_add (fun _ _ => ⟨fun q => ?_, fun q => ⟨⟨h7.1, by omega⟩, fun s1 e1 s2 e2 => ?_⟩⟩)
  · have z : st.1 ≠ 0 := fun z => by have := (h8 z).2.1; have := hb z; omega
    exact ⟨⟨h1, h2, h3, h4, h5, h6, h7, fun y => absurd y z⟩, Ff.rf⟩
  · have fo4 := h5
    unfold isFo at fo4
    have e12 : s1 fo 2 = s fo 2 := by rw [e1, ups_at _ (by omega)]
    rw [e12, w32_of (show _ ≤ s fo 2 + 1 by omega) (by omega)] at e2
    have fr : Fr (fun o => o = fo ∨ o = fo + 1) s s2 := by rw [e2, e1]; exact (Fr.up (Or.inr rfl)).tr (Fr.up (Or.inl rfl))
    have e46 : s2 46 = s 46 := fr 46 (by omega)
    have e47 : s2 47 = s 47 := fr 47 (by omega)
    refine ⟨⟨h1.fr fr (by omega) (by omega), ?_, by rw [e46]; exact h3, by rw [e46]; exact h4, h5, h6, ?_, fun z => ?_⟩, fr.wk (fun o z => Or.inr (Or.inr z)), fun k _ => by rw [e46], fun k hk => ?_⟩
    · unfold CRd; rw [e47]; exact h2
    · rw [e2, ups_eq]; omega
    · obtain ⟨m1, m2, m3⟩ := h8 z
      refine ⟨by rw [e46]; exact m1, ?_, fun i hi => ?_⟩
      · rw [e2, ups_eq, m2, List.length_append]; rfl
      · rw [List.length_append] at hi
        have hi : i < L.length + 1 := hi
        rw [e2, ups_at _ (by omega), e1, m2]
        by_cases y : i = L.length
        · rw [y, ups_eq]
          simp
        · rw [ups_k _ (by omega), m3 i (by omega)]
          rw [List.getD_eq_getElem?_getD, List.getD_eq_getElem?_getD, List.getElem?_append_left (by omega)]
    · rw [e2, ups_k _ hk, e1, ups_at _ (by omega)]
theorem CFm.up4 {x o2 : Int} {s2 : Sg} (h : CFm s t fo mb o st L) (e : s2 = ups s 46 4 x) (hx : st.1 = 0 → x = o2) : CFm s2 t fo mb o2 st L ∧ Ff fo s s2 := by
  obtain ⟨h1, h2, h3, h4, h5, h6, h7, h8⟩ := h
  have fo4 := h5
  unfold isFo at fo4
  have fr : Fr (fun o => o = 46) s s2 := by rw [e]; exact Fr.up rfl
  refine ⟨⟨h1.fr fr (by omega) (by omega), ?_, by rw [e, ups_k _ (by decide)]; exact h3, by rw [e, ups_k _ (by decide)]; exact h4, h5, h6, ?_, fun z => ?_⟩, fr.wk (fun o z => Or.inl z), fun k hk => by rw [e, ups_k _ hk], fun k _ => by rw [fr fo (by omega)]⟩
  · unfold CRd; rw [fr 47 (by omega)]; exact h2
  · rw [fr fo (by omega)]; exact h7
  · obtain ⟨m1, m2, m3⟩ := h8 z
    rw [e, ups_eq, ← e, fr fo (by omega), fr (fo + 1) (by omega)]
    exact ⟨hx z, m2, m3⟩
theorem K_deep (h : CFm s t fo mb o st L) (ho : st.1 = 0 → 0 ≤ o ∧ o ≤ 7) : Mw g (e + 4) M_X4_goDeeper [(13, 46)] s (fun _ s' => CFm s' t fo mb (o + 1) (dpS t o st) L ∧ Ff fo s s') := by
  have go : ∀ (s1 : Sg) (st1 : Int × Int), CFm s1 t fo mb o st1 L → (st1.1 = 0 → 0 ≤ o ∧ o ≤ 7) → Ff fo s s1 → avS t st1 = dpS t o st → P_X4_goDeeper_17 g (e + 3) (fun _ s' => CFm s' t fo mb (o + 1) (dpS t o st) L ∧ Ff fo s s') s1 := fun s1 st1 c1 o1 f1 he => by
    refine S_X4_goDeeper_17 (fun s2 e2 => ?_)
    have c2 := c1.up4 (o2 := o + 1) e2 (fun z => by
      have := (c1.2.2.2.2.2.2.2 z).1
      have := o1 z
      rw [‹s1 46 4 = o›, w32_of (by omega) (by omega)])
    refine (K_adv c2.1).imp (fun _ s4 m => ?_)
    rw [he] at m
    exact ⟨m.1, (f1.tr c2.2).tr m.2⟩
  refine S_X4_goDeeper ⟨fun q => go s st h ho Ff.rf ?_, fun q => (K_fh h (by decide)).imp (fun _ s2 m => go s2 _ m.1 (fun z => ?_) m.2 ?_)⟩
  · unfold avS dpS
    by_cases z : st.1 = 0
    · have := (h.2.2.2.2.2.2.2 z).1
      rw [if_pos z, if_pos z, if_neg (by omega)]
    · rw [if_neg z, if_neg z]
  · unfold flS1 at z
    split at z
    · have z : (5 : Int) = 0 := z; omega
    · exact ho z
  · by_cases z : st.1 = 0
    · have := (h.2.2.2.2.2.2.2 z).1
      have e1 : flS1 5 st = (5, st.2) := by unfold flS1; rw [if_pos z]
      rw [e1]
      unfold avS dpS
      rw [if_neg (show ¬ ((5 : Int), st.2).1 = 0 by show ¬ ((5 : Int) = 0); decide), if_pos z, if_pos (by omega)]
    · unfold avS dpS flS1
      rw [if_neg z, if_neg z, if_neg z]
theorem fl_bad {k : Int} (z : st.1 ≠ 0) : flS1 k st = st := by unfold flS1; rw [if_neg z]
theorem av_bad (z : st.1 ≠ 0) : avS t st = st := by unfold avS; rw [if_neg z]
abbrev PC (s : Sg) (t : Tp) (fo mb o : Int) (st : Int × Int) (L : List Int) : Int → Sg → Prop := fun _ s' => CFm s' t fo mb o st L ∧ Ff fo s s'
-- behind a fault
theorem X_single (h : CFm s t fo mb o st L) (z : st.1 ≠ 0) : Mw g (e + 5) M_X4_singlePart [(13, 46)] s (PC s t fo mb o st L) := by
  obtain ⟨b1, b3⟩ := h.bad z
  refine S_X4_singlePart ?_
  rw [b1]
  refine ⟨fun _ => (K_is h).imp (fun r s2 q => ?_), fun q => absurd q (by decide)⟩
  obtain ⟨q1, q2, q3⟩ := q
  subst q3
  rw [b3]
  refine ⟨fun _ => ⟨fun _ => ⟨fun _ => ⟨fun _ => ?_, fun q => absurd q (by decide)⟩, fun q => absurd q (by decide)⟩, fun q => absurd q (by decide)⟩, fun q => absurd (q2 (fun y => z y.1)) q⟩
  refine S_X4_factWord (fun _ => ⟨fun _ => S_X4_factWord_22 ((K_fh h (by decide)).imp (fun _ s4 m => ?_)), fun q => absurd rfl q⟩)
  rw [fl_bad z] at m
  exact m
theorem X_prod (h : CFm s t fo mb o st L) (z : st.1 ≠ 0) : Mw g (e + 6) M_X4_productPart [(13, 46)] s (PC s t fo mb o st L) := by
  refine S_X4_productPart ((X_single h z).imp (fun _ s2 m => S_X4_productPart_6 ⟨fun q => absurd q (by decide), fun _ => ?_⟩))
  refine (K_is m.1).imp (fun r s3 q => ?_)
  obtain ⟨q1, q2, q3⟩ := q
  subst q3
  refine ⟨fun _ => (K_is m.1).imp (fun r s4 q => ?_), fun q => absurd (q2 (fun y => z y.1)) q⟩
  obtain ⟨q1, q2, q3⟩ := q
  subst q3
  refine ⟨fun _ => (K_is m.1).imp (fun r s5 q => ?_), fun q => absurd (q2 (fun y => z y.1)) q⟩
  obtain ⟨q1, q2, q3⟩ := q
  subst q3
  exact ⟨fun _ => S_X4_productPart_62 ⟨fun q => absurd rfl q, fun _ => m⟩, fun q => absurd (q2 (fun y => z y.1)) q⟩
theorem X_sum (h : CFm s t fo mb o st L) (z : st.1 ≠ 0) : Mw g (e + 7) M_X4_sumPart [(13, 46)] s (PC s t fo mb o st L) := by
  refine S_X4_sumPart ((X_prod h z).imp (fun _ s2 m => S_X4_sumPart_6 ⟨fun q => absurd q (by decide), fun _ => ?_⟩))
  refine (K_is m.1).imp (fun r s3 q => ?_)
  obtain ⟨q1, q2, q3⟩ := q
  subst q3
  refine ⟨fun q => absurd (q2 (fun y => z y.1)) q, fun _ => (K_is m.1).imp (fun r s4 q => ?_)⟩
  obtain ⟨q1, q2, q3⟩ := q
  subst q3
  exact ⟨fun _ => m, fun q => absurd (q2 (fun y => z y.1)) q⟩
theorem X_cmp (h : CFm s t fo mb o st L) (z : st.1 ≠ 0) : Mw g (e + 8) M_X4_comparePart [(13, 46)] s (PC s t fo mb o st L) := by
  refine S_X4_comparePart ((X_sum h z).imp (fun _ s2 m => (K_is m.1).imp (fun r s3 q => ?_)))
  obtain ⟨q1, q2, q3⟩ := q
  subst q3
  refine ⟨fun _ => (K_is m.1).imp (fun r s4 q => ?_), fun q => absurd (q2 (fun y => z y.1)) q⟩
  obtain ⟨q1, q2, q3⟩ := q
  subst q3
  refine ⟨fun _ => (K_is m.1).imp (fun r s5 q => ?_), fun q => absurd (q2 (fun y => z y.1)) q⟩
  obtain ⟨q1, q2, q3⟩ := q
  subst q3
  refine ⟨fun _ => S_X4_comparePart_56 ⟨fun q => absurd rfl q, fun _ => (K_fh m.1 (by decide)).imp (fun _ s6 m2 => ?_)⟩, fun q => absurd (q2 (fun y => z y.1)) q⟩
  rw [fl_bad z] at m2
  exact ⟨m2.1, m.2.tr m2.2⟩
theorem X_fact (h : CFm s t fo mb o st L) (z : st.1 ≠ 0) : Mw g (e + 9) M_X4_factPart [(13, 46)] s (PC s t fo mb o st L) := by
  obtain ⟨b1, b3⟩ := h.bad z
  refine S_X4_factPart ?_
  rw [b3]
  refine ⟨fun _ => (K_is h).imp (fun r s2 q => ?_), fun q => absurd q (by decide)⟩
  obtain ⟨q1, q2, q3⟩ := q
  subst q3
  rw [b3]
  exact ⟨fun _ => ⟨fun _ => X_cmp h z, fun q => absurd q (by decide)⟩, fun q => absurd (q2 (fun y => z y.1)) q⟩
theorem X_both (h : CFm s t fo mb o st L) (z : st.1 ≠ 0) : Mw g (e + 10) M_X4_bothPart [(13, 46)] s (PC s t fo mb o st L) := by
  refine S_X4_bothPart ((X_fact h z).imp (fun _ s2 m => S_X4_bothPart_6 ⟨fun q => absurd q (by decide), fun _ => ?_⟩))
  rw [(m.1.bad z).2]
  exact ⟨fun _ => m, fun q => absurd q (by decide)⟩
theorem X_test (h : CFm s t fo mb o st L) (z : st.1 ≠ 0) : Mw g (e + 11) M_X4_testPart [(13, 46)] s (PC s t fo mb o st L) := by
  refine S_X4_testPart ((X_both h z).imp (fun _ s2 m => S_X4_testPart_6 ⟨fun q => absurd q (by decide), fun _ => ?_⟩))
  rw [(m.1.bad z).2]
  exact ⟨fun _ => m, fun q => absurd q (by decide)⟩
theorem rest_dec {r f : Int → PR1} {c a : Int} {st2 : Int × Int} {N : List Int} (h : pB (pV t a) (fun x => pB (r x) (fun y => pB (pE c y) f)) = some (st2, N)) : ∃ st3 L3 L6, pH r (avT t a) = some (st3, L3) ∧ pH f st3 = some (st2, L6) ∧ (st3.1 = 0 → N = L3 ++ ([c] ++ L6)) ∧ (st3.1 ≠ 0 → st2 = st3) := by
  obtain ⟨st1, L1, L2, h1, h2, h3⟩ := pB_some h
  have e1 := some2 h1
  obtain ⟨st3, L3, L4, g1, g2, g3⟩ := pH_B h2
  obtain ⟨st4, L5, L6, m1, m2, m3⟩ := pH_B g2
  have p := pH_E m1
  rw [e1.1] at g1
  rw [p.1] at m2
  refine ⟨st3, L3, L6, g1, m2, fun z => ?_, fun z => (pH_bad z m2).1⟩
  rw [h3, g3, m3, e1.2, p.2.1 z, List.nil_append]
end CFORM
