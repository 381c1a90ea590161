/-! statements: their small steps, and the class's -/
def zFnd (T : Tn) (k x : Int) : Int := scanF (T 1 k).toNat 0 (fun i => decide (T (3 + k) i = x))
abbrev zKno (T : Tn) (x : Int) : Prop := zFnd T 0 x ≠ -1 ∨ zFnd T 1 x ≠ -1 ∨ zFnd T 2 x ≠ -1
abbrev zNam (t : Tp) (a : Int) : Prop := kdT t a = 1 ∧ wdT t a = 31
def zNew (t : Tp) (T : Tn) (st : Int × Int) : Int × Int := if st.1 = 0 then (if zNam t st.2 then (if zKno T (vlT t st.2) then (2, st.2) else avT t st.2) else (1, st.2)) else st
def zLim (c m : Int) (st : Int × Int) : Int × Int := if c < m then st else flS1 6 st
def zOwn (t : Tp) (k : Int) (st : Int × Int) : Int × Int := if st.1 = 0 then (if wdT t st.2 = k then avT t st.2 else (1, st.2)) else st
def zNum (t : Tp) (lo hi : Int) (st : Int × Int) : Int × Int := if st.1 = 0 then (if kdT t st.2 = 2 then (if lo ≤ vlT t st.2 ∧ vlT t st.2 ≤ hi then avT t st.2 else (4, st.2)) else (1, st.2)) else st
abbrev zHas (t : Tp) (T : Tn) (k bar a : Int) : Prop := zFnd T k (vlT t a) ≠ -1 ∧ bAnd bar (bShl 1 (zFnd T k (vlT t a))) = 0
def zKnw (t : Tp) (T : Tn) (k bar : Int) (st : Int × Int) : Int × Int := if st.1 = 0 then (if zNam t st.2 then (if zHas t T k bar st.2 then avT t st.2 else (3, st.2)) else (1, st.2)) else st
def zVal (t : Tp) (T : Tn) (k bar : Int) (st : Int × Int) : Int := if st.1 = 0 ∧ zNam t st.2 ∧ zHas t T k bar st.2 then zFnd T k (vlT t st.2) else -1
section CLINE
variable {g : GT} {e : Nat} {s : Sg} {t : Tp} {st : Int × Int} {T : Tn} {tw : Int}
theorem avS_bad {st : Int × Int} (z : st.1 ≠ 0) : avS t st = st := if_neg z
theorem avS_good {st : Int × Int} (z : st.1 = 0) : avS t st = avT t st.2 := if_pos z
theorem C_limit {c m : Int} (h : CRd s t st) : Mw g (e + 3) M_X4_limit [(13, 46), (0, c), (0, m)] s (fun _ s' => CRd s' t (zLim c m st) ∧ Fz s s') := by
  unfold zLim
  refine S_X4_limit (fun _ _ => ⟨fun q => ?_, fun q => ?_⟩)
  · rw [if_pos q]; exact ⟨h, Fr.rf⟩
  · rw [if_neg q]; exact C_fh h (by decide)
theorem C_own {k : Int} (ht : CTp s t.1 t.2) (h : CRd s t st) (hk : k ≠ 31) : Mw g (e + 4) M_X4_own [(13, 46), (3, k)] s (fun _ s' => CRd s' t (zOwn t k st) ∧ Fz s s') := by
  have step : ∀ (s1 : Sg) (st1 : Int × Int), CRd s1 t st1 → Fz s s1 → avS t st1 = zOwn t k st → P_X4_own_19 g (e + 3) (fun _ s' => CRd s' t (zOwn t k st) ∧ Fz s s') s1 := fun s1 st1 h1 f1 q => S_X4_own_19 ((C_adv (ht.fz f1) h1).imp (fun _ s2 p => ⟨by rw [← q]; exact p.1, f1.tr p.2⟩))
  refine S_X4_own (fun _ => ⟨fun q => step s st h Fr.rf ?_, fun q => (C_fh h (by decide)).imp (fun _ s1 p => step s1 _ p.1 p.2 ?_)⟩)
  · unfold zOwn
    by_cases z : st.1 = 0
    · rw [if_pos z, avS_good z, if_pos (by rw [← (h.1 z).2.2.2.2.2.2.2.2]; exact q)]
    · rw [if_neg z, avS_bad z]
  · unfold zOwn flS1
    by_cases z : st.1 = 0
    · rw [if_pos z, if_pos z, if_neg (by rw [← (h.1 z).2.2.2.2.2.2.2.2]; exact q), avS_bad (by show (1 : Int) ≠ 0; decide)]
    · rw [if_neg z, if_neg z, avS_bad z]
theorem C_isGood {Q : Int → Sg → Prop} (h : CRd s t st) (h1 : st.1 = 0 → Q 1 s) (h2 : st.1 ≠ 0 → Q 0 s) : Mw g (e + 1) M_X6_isGood [(15, 47)] s Q := by
  refine S_X6_isGood ⟨fun q => h2 (fun z => q (h.1 z).1), fun q => h1 ?_⟩
  apply Classical.byContradiction
  intro z
  exact z (by rw [← (h.2 z).1]; exact q)
theorem C_number {lo hi : Int} (ht : CTp s t.1 t.2) (h : CRd s t st) : Mw g (e + 4) M_X4_number [(13, 46), (0, lo), (0, hi)] s (fun r s' => CRd s' t (zNum t lo hi st) ∧ Fz s s' ∧ ((zNum t lo hi st).1 = 0 → st.1 = 0 ∧ r = vlT t st.2 ∧ lo ≤ r ∧ r ≤ hi) ∧ ((zNum t lo hi st).1 ≠ 0 → r = lo)) := by
  have step : ∀ (s1 : Sg) (st1 : Int × Int), CRd s1 t st1 → Fz s s1 → avS t st1 = zNum t lo hi st → P_X4_number_48 g (e + 3) (fun r s' => CRd s' t (zNum t lo hi st) ∧ Fz s s' ∧ ((zNum t lo hi st).1 = 0 → st.1 = 0 ∧ r = vlT t st.2 ∧ lo ≤ r ∧ r ≤ hi) ∧ ((zNum t lo hi st).1 ≠ 0 → r = lo)) s1 lo (s 47 2) := fun s1 st1 h1 f1 q => by
    refine S_X4_number_48 ((C_adv (ht.fz f1) h1).imp (fun _ s2 p => ?_))
    rw [q] at p
    refine C_isGood (e := e + 2) p.1 (fun z => ⟨fun y => absurd y (by decide), fun _ => ⟨p.1, f1.tr p.2, fun _ => ?_, fun y => absurd z y⟩⟩) (fun z => ⟨fun _ => ⟨p.1, f1.tr p.2, fun y => absurd y z, fun _ => rfl⟩, fun y => absurd rfl y⟩)
    unfold zNum at z
    by_cases z0 : st.1 = 0
    · rw [if_pos z0] at z
      by_cases z1 : kdT t st.2 = 2
      · rw [if_pos z1] at z
        by_cases z2 : lo ≤ vlT t st.2 ∧ vlT t st.2 ≤ hi
        · rw [(h.1 z0).2.2.2.2.2.2.2.1]; exact ⟨z0, rfl, z2⟩
        · rw [if_neg z2] at z; exact absurd z (by show ¬ (4 : Int) = 0; decide)
      · rw [if_neg z1] at z; exact absurd z (by show ¬ (1 : Int) = 0; decide)
    · rw [if_neg z0] at z; exact absurd z z0
  have e1 : st.1 = 0 → s 47 1 = kdT t st.2 ∧ s 47 2 = vlT t st.2 := fun z => ⟨(h.1 z).2.2.2.2.2.2.1, (h.1 z).2.2.2.2.2.2.2.1⟩
  have e0 : st.1 ≠ 0 → s 47 1 = 0 := fun z => (h.2 z).2.2.1
  have bad4 : s 47 1 = 2 → ¬ (lo ≤ s 47 2 ∧ s 47 2 ≤ hi) → P_X4_number_40 g (e + 3) (fun r s' => CRd s' t (zNum t lo hi st) ∧ Fz s s' ∧ ((zNum t lo hi st).1 = 0 → st.1 = 0 ∧ r = vlT t st.2 ∧ lo ≤ r ∧ r ≤ hi) ∧ ((zNum t lo hi st).1 ≠ 0 → r = lo)) s lo (s 47 2) := fun q1 q2 => by
    refine S_X4_number_40 ((C_fh h (by decide)).imp (fun _ s1 p => step s1 _ p.1 p.2 ?_))
    have z : st.1 = 0 := Classical.byContradiction (fun z => by have := e0 z; omega)
    unfold flS1 zNum
    rw [if_pos z, if_pos z, if_pos (by rw [← (e1 z).1]; exact q1), if_neg (by rw [← (e1 z).2]; exact q2), avS_bad (by show (4 : Int) ≠ 0; decide)]
  refine S_X4_number (fun _ _ => ⟨fun q1 => ⟨fun q2 => bad4 q1 (by omega), fun q2 => ⟨fun q3 => step s st h Fr.rf ?_, fun q3 => bad4 q1 (by omega)⟩⟩, fun q1 => (C_fh h (by decide)).imp (fun _ s1 p => step s1 _ p.1 p.2 ?_)⟩)
  · have z : st.1 = 0 := Classical.byContradiction (fun z => by have := e0 z; omega)
    have := (e1 z).2
    unfold zNum
    rw [if_pos z, if_pos (by rw [← (e1 z).1]; exact q1), if_pos (by omega), avS_good z]
  · unfold flS1 zNum
    by_cases z : st.1 = 0
    · rw [if_pos z, if_pos z, if_neg (by rw [← (e1 z).1]; exact q1), avS_bad (by show (1 : Int) ≠ 0; decide)]
    · rw [if_neg z, if_neg z, avS_bad z]
theorem find_loop {k x : Int} {Q : Int → Sg → Prop} (hc : CT s tw T) (k0 : 0 ≤ k ∧ k < 3) (hb : T 1 k ≤ 8) : ∀ (n : Nat) (i : Int), 0 ≤ i → i + n = T 1 k → Q (scanF n i (fun j => decide (T (3 + k) j = x))) s → P_X9_find_2 g e Q s tw k x i := by
  have e1 : s (tw + 1) = T 1 := hc.2 1 (by decide) (by decide) (by decide)
  have e2 : s (tw + 2 + 1 + k) = T (3 + k) := by rw [show tw + 2 + 1 + k = tw + (3 + k) by omega]; exact hc.2 (3 + k) (by omega) (by omega) (by omega)
  intro n
  induction n with
  | zero => intro i i0 h hQ; exact S_X9_find_2 ⟨k0, fun _ => hQ, fun q => absurd (by rw [e1]; omega) q⟩
  | succ n ih =>
    intro i i0 h hQ
    refine S_X9_find_2 ⟨k0, fun q => absurd q (by rw [e1]; omega), fun _ => ⟨k0, ⟨by omega, by omega⟩, fun q => ?_, fun q => ?_⟩⟩
    · rw [e2] at q
      rw [w32_of (show _ ≤ i + 1 by omega) (by omega)]
      refine ih (i + 1) (by omega) (by omega) ?_
      unfold scanF at hQ
      rw [if_neg (by simp [q])] at hQ
      exact hQ
    · rw [e2] at q
      unfold scanF at hQ
      rw [if_pos (by simp [q])] at hQ
      exact hQ
theorem C_find {k x : Int} (hc : CT s tw T) (k0 : 0 ≤ k ∧ k < 3) (hb : 0 ≤ T 1 k ∧ T 1 k ≤ 8) : Mw g (e + 1) M_X9_find [(18, tw), (0, k), (0, x)] s (Ex (zFnd T k x) s) :=
  S_X9_find (fun _ _ _ => find_loop hc k0 hb.2 (T 1 k).toNat 0 (Int.le_refl 0) (by omega) ⟨rfl, rfl⟩)
theorem fnd_in {k x : Int} (hb : 0 ≤ T 1 k) : zFnd T k x = -1 ∨ (0 ≤ zFnd T k x ∧ zFnd T k x < T 1 k) := by
  unfold zFnd
  rcases scanF_le (T 1 k).toNat 0 (fun i => decide (T (3 + k) i = x)) with z | ⟨z1, z2, _, _⟩
  · exact Or.inl z
  · right; omega
/-- the counts of a draft -/
def zCn (T : Tn) : Prop := (0 ≤ T 1 0 ∧ T 1 0 ≤ 8) ∧ (0 ≤ T 1 1 ∧ T 1 1 ≤ 8) ∧ (0 ≤ T 1 2 ∧ T 1 2 ≤ 8)
theorem C_knows {x : Int} (hc : CT s tw T) (hb : zCn T) : Mw g (e + 2) M_X9_knows [(18, tw), (0, x)] s (fun r s' => (zKno T x → r = 1) ∧ (¬ zKno T x → r = 0) ∧ s' = s) := by
  refine S_X9_knows (fun _ _ => Mw.ex (C_find hc (by omega) hb.1) ⟨fun q => ⟨fun _ => rfl, fun z => absurd (Or.inl q) z, rfl⟩, fun q => Mw.ex (C_find hc (by omega) hb.2.1) ⟨fun q2 => ⟨fun _ => rfl, fun z => absurd (Or.inr (Or.inl q2)) z, rfl⟩, fun q2 => Mw.ex (C_find hc (by omega) hb.2.2) ⟨fun q3 => ⟨fun z => ?_, fun _ => rfl, rfl⟩, fun q3 => ⟨fun _ => rfl, fun z => absurd (Or.inr (Or.inr q3)) z, rfl⟩⟩⟩⟩)
  rcases z with z | z | z
  · exact absurd q z
  · exact absurd q2 z
  · exact absurd q3 z
theorem C_isName {Q : Int → Sg → Prop} (h : CRd s t st) (h1 : st.1 = 0 → zNam t st.2 → Q 1 s) (h2 : (st.1 = 0 → ¬ zNam t st.2) → Q 0 s) : Mw g (e + 1) M_X6_isName [(15, 47)] s Q := by
  have e1 : st.1 = 0 → s 47 1 = kdT t st.2 ∧ s 47 3 = wdT t st.2 := fun z => ⟨(h.1 z).2.2.2.2.2.2.1, (h.1 z).2.2.2.2.2.2.2.2⟩
  have e0 : st.1 ≠ 0 → s 47 1 = 0 := fun z => (h.2 z).2.2.1
  refine S_X6_isName ⟨fun q => h2 (fun z y => q (by rw [(e1 z).1]; exact y.1)), fun q => ⟨fun q2 => h2 (fun z y => q2 (by rw [(e1 z).2]; exact y.2)), fun q2 => ?_⟩⟩
  have z : st.1 = 0 := Classical.byContradiction (fun z => by have := e0 z; omega)
  exact h1 z ⟨by rw [← (e1 z).1]; exact q, by rw [← (e1 z).2]; exact q2⟩
theorem C_newName (ht : CTp s t.1 t.2) (h : CRd s t st) (h46 : s 46 1 = tw) (hc : CT s tw T) (hb : zCn T) : Mw g (e + 4) M_X4_newName [(13, 46)] s (fun r s' => CRd s' t (zNew t T st) ∧ Fz s s' ∧ (st.1 = 0 → r = vlT t st.2)) := by
  have rv : st.1 = 0 → s 47 2 = vlT t st.2 := fun z => (h.1 z).2.2.2.2.2.2.2.1
  have step : ∀ (s1 : Sg) (st1 : Int × Int), CRd s1 t st1 → Fz s s1 → avS t st1 = zNew t T st → P_X4_newName_48 g (e + 3) (fun r s' => CRd s' t (zNew t T st) ∧ Fz s s' ∧ (st.1 = 0 → r = vlT t st.2)) s1 (s 47 2) := fun s1 st1 h1 f1 q => S_X4_newName_48 ((C_adv (ht.fz f1) h1).imp (fun _ s2 p => ⟨by rw [← q]; exact p.1, f1.tr p.2, rv⟩))
  refine S_X4_newName (C_isName (e := e + 2) h (fun z y => ⟨fun _ => ?_, fun q => absurd q (by decide)⟩) (fun z => ⟨fun q => absurd rfl q, fun _ => (C_fh h (by decide)).imp (fun _ s1 p => step s1 _ p.1 p.2 ?_)⟩))
  · rw [h46]
    refine (C_knows (e := e + 1) hc hb).imp (fun r s1 q => ?_)
    obtain ⟨q1, q2, q3⟩ := q
    subst q3
    rw [rv z] at q1 q2
    refine ⟨fun r0 => step s1 st h Fr.rf ?_, fun r0 => (C_fh h (by decide)).imp (fun _ s2 p => step s2 _ p.1 p.2 ?_)⟩
    · unfold zNew
      rw [if_pos z, if_pos y, if_neg (fun u => by rw [q1 u] at r0; omega), avS_good z]
    · unfold zNew flS1
      rw [if_pos z, if_pos z, if_pos y, if_pos (Classical.byContradiction (fun u => r0 (q2 u))), avS_bad (by show (2 : Int) ≠ 0; decide)]
  · unfold zNew flS1
    by_cases y : st.1 = 0
    · rw [if_pos y, if_pos y, if_neg (z y), avS_bad (by show (1 : Int) ≠ 0; decide)]
    · rw [if_neg y, if_neg y, avS_bad y]
theorem C_known {k bar : Int} (ht : CTp s t.1 t.2) (h : CRd s t st) (h46 : s 46 1 = tw) (hc : CT s tw T) (hb : 0 ≤ T 1 k ∧ T 1 k ≤ 8) (k0 : 0 ≤ k ∧ k < 3) : Mw g (e + 4) M_X4_known [(13, 46), (0, k), (0, bar)] s (fun r s' => CRd s' t (zKnw t T k bar st) ∧ Fz s s' ∧ r = zVal t T k bar st) := by
  have bad : ∀ (s1 : Sg) (st1 : Int × Int), CRd s1 t st1 → Fz s s1 → flS1 3 st1 = zKnw t T k bar st → zVal t T k bar st = -1 → P_X4_known_52 g (e + 3) (fun r s' => CRd s' t (zKnw t T k bar st) ∧ Fz s s' ∧ r = zVal t T k bar st) s1 := fun s1 st1 h1 f1 q v => S_X4_known_52 ((C_fh h1 (by decide)).imp (fun _ s2 p => ⟨by rw [← q]; exact p.1, f1.tr p.2, v.symm⟩))
  refine S_X4_known (fun _ _ => C_isName (e := e + 2) h (fun z y => ⟨fun _ => ?_, fun q => absurd q (by decide)⟩) (fun z => ⟨fun q => absurd rfl q, fun _ => (C_fh h (by decide)).imp (fun _ s1 p => S_X4_known_39 ⟨fun _ => bad s1 _ p.1 p.2 ?_ ?_, fun q => absurd rfl q⟩)⟩))
  · rw [h46, (h.1 z).2.2.2.2.2.2.2.1]
    refine Mw.ex (C_find (e := e + 2) hc k0 hb) (S_X4_known_39 ⟨fun q => bad s st h Fr.rf ?_ ?_, fun q => ⟨fun q2 => (C_adv ht h).imp (fun _ s2 p => ⟨?_, p.2, ?_⟩), fun q2 => bad s st h Fr.rf ?_ ?_⟩⟩)
    · unfold zKnw flS1
      rw [if_pos z, if_pos z, if_pos y, if_neg (fun u => u.1 q)]
    · unfold zVal
      rw [if_neg (fun u => u.2.2.1 q)]
    · have e2 : avS t st = zKnw t T k bar st := by
        unfold zKnw
        rw [if_pos z, if_pos y, if_pos ⟨q, q2⟩, avS_good z]
      rw [← e2]; exact p.1
    · unfold zVal
      rw [if_pos ⟨z, y, q, q2⟩]
    · unfold zKnw flS1
      rw [if_pos z, if_pos z, if_pos y, if_neg (fun u => q2 u.2)]
    · unfold zVal
      rw [if_neg (fun u => q2 u.2.2.2)]
  · unfold zKnw flS1
    by_cases y : st.1 = 0
    · rw [if_pos y, if_pos y, if_neg (z y), if_neg (by show ¬ (1 : Int) = 0; decide)]
    · rw [if_neg y, if_neg y, if_neg y]
  · unfold zVal
    rw [if_neg (fun u => z u.1 u.2.1)]
end CLINE
