/-! a statement of the class -/
def zSemi (t : Tp) (st : Int × Int) : Int × Int := if st.1 = 0 then (if kdT t st.2 = 3 ∧ vlT t st.2 = 59 then st else (1, st.2)) else st
def zSt (t : Tp) (T : Tn) (st : Int × Int) : Int × Int := zSemi t (if st.1 = 0 then zLn t T st else st)
section CSTAT
variable {g : GT} {e : Nat} {s : Sg} {t : Tp} {st : Int × Int} {T : Tn} {tw p : Int}
theorem C_semi {s1 : Sg} {st2 : Int × Int} {R : Tn → Prop} {r : Int} (hi : isT tw) (hR : st2.1 = 0 → ∀ T2, R T2 → zRg T2) (h : LR s t tw st2 R r s1) : P_X4_statement_232 g (e + 3) (LR s t tw (zSemi t st2) R) s1 := by
  obtain ⟨h1, h2, h3, h4⟩ := h
  have e1 : st2.1 = 0 → s1 47 1 = kdT t st2.2 ∧ s1 47 2 = vlT t st2.2 := fun z => ⟨(h1.1 z).2.2.2.2.2.2.1, (h1.1 z).2.2.2.2.2.2.2.1⟩
  have e0 : st2.1 ≠ 0 → s1 47 1 = 0 := fun z => (h1.2 z).2.2.1
  have bad : ¬ (s1 47 1 = 3 ∧ s1 47 2 = 59) → Mw g (e + 3) M_X6_failHere [(15, 47), (0, 1)] s1 (fun _ s4 => LR s t tw (zSemi t st2) R 0 s4) := fun q => by
    have es : flS1 1 st2 = zSemi t st2 := by
      unfold flS1 zSemi
      by_cases z : st2.1 = 0
      · rw [if_pos z, if_pos z, if_neg (fun u => q ⟨(e1 z).1.trans u.1, (e1 z).2.trans u.2⟩)]
      · rw [if_neg z, if_neg z]
    have nz : (zSemi t st2).1 ≠ 0 := by
      rw [← es]
      unfold flS1
      by_cases z : st2.1 = 0
      · rw [if_pos z]; show ¬ (1 : Int) = 0; decide
      · rw [if_neg z]; exact z
    refine (C_fh (e := e + 1) h1 (by decide)).imp (fun _ s4 q4 => ⟨by rw [← es]; exact q4.1, h2.tr q4.2.fd, fun y => absurd y nz, fun _ => ?_⟩)
    by_cases z : st2.1 = 0
    · obtain ⟨T2, c2, r2⟩ := h3 z
      exact ⟨T2, c2.fz q4.2 hi, hR z T2 r2⟩
    · obtain ⟨T3, c3, r3⟩ := h4 z
      exact ⟨T3, c3.fz q4.2 hi, r3⟩
  refine S_X4_statement_232 (S_X6_isSign (fun _ => ⟨fun q => ⟨fun y => absurd rfl y, fun _ => bad (fun u => q u.1)⟩, fun q => ⟨fun q2 => ⟨fun y => absurd rfl y, fun _ => bad (fun u => q2 u.2)⟩, fun q2 => ⟨fun _ => ?_, fun y => absurd y (by decide)⟩⟩⟩))
  have z : st2.1 = 0 := Classical.byContradiction (fun z => by have := e0 z; omega)
  have es : zSemi t st2 = st2 := by unfold zSemi; rw [if_pos z, if_pos ⟨(e1 z).1.symm.trans q, (e1 z).2.symm.trans q2⟩]
  rw [es]
  exact ⟨h1, h2, h3, h4⟩
theorem LR.fr {s0 : Sg} {st2 : Int × Int} {R : Tn → Prop} {r : Int} {s1 : Sg} (hf : Fdr tw s0 s) (h : LR s t tw st2 R r s1) : LR s0 t tw st2 R r s1 := ⟨h.1, hf.tr h.2.1, h.2.2⟩
theorem LR.cg {st2 st3 : Int × Int} {R R2 : Tn → Prop} {r : Int} {s1 : Sg} (h : LR s t tw st2 R r s1) (e1 : st2 = st3) (e2 : ∀ T2, R T2 → R2 T2) : LR s t tw st3 R2 r s1 := by
  subst e1
  refine ⟨h.1, h.2.1, fun z => ?_, h.2.2.2⟩
  obtain ⟨T2, c2, r2⟩ := h.2.2.1 z
  exact ⟨T2, c2, e2 T2 r2⟩
theorem en_S : ∀ i : Nat, i < 32 → (enS.getD i 0 = 1 ↔ i = 0) ∧ (enS.getD i 0 = 2 ↔ i = 3) ∧ (enS.getD i 0 = 3 ↔ i = 6) ∧ (enS.getD i 0 = 4 ↔ i = 7) ∧ (enS.getD i 0 = 5 ↔ i = 8) ∧ (enS.getD i 0 = 6 ↔ i = 11) ∧ (enS.getD i 0 = 7 ↔ i = 12) ∧ (enS.getD i 0 = 8 ↔ i = 13) ∧ (enS.getD i 0 = 9 ↔ i = 15) ∧ (enS.getD i 0 = 10 ↔ i = 16) ∧ (enS.getD i 0 = 11 ↔ i = 17) ∧ (0 ≤ enS.getD i 0 ∧ enS.getD i 0 ≤ 11) := by decide +kernel
/-- a number set -/
theorem K_set {m f : Int} {s0 : Sg} (h : LC s t tw T st) (hf : f ≠ 1 ∧ 13 < f) (hs : Fdr tw s0 s) {Q : Int → Sg → Prop} (hq : ∀ s2, LR s0 t tw (zNum t 0 m (avS t st)) (fun T2 => T2 = ups T 0 f (vlT t (avS t st).2)) 0 s2 → P_X4_statement_232 g (e + 5) Q s2) : Mw g (e + 5) M_X4_setting [(13, 46), (0, m)] s (fun r s2 => ∀ s3, s3 = ups s2 tw f r → P_X4_statement_232 g (e + 5) Q s3) := by
  obtain ⟨ht, hr, h46, hi, hc, hT⟩ := h
  have hi' := hi
  unfold isT at hi'
  refine (C_setting ht hr).imp (fun r s2 q s3 h3 => hq s3 ?_)
  have c3 := (hc.fz q.2.1 hi).up0 (i := f) (v := r)
  rw [← h3] at c3
  refine ⟨?_, (hs.tr q.2.1.fd).tr (by rw [h3]; exact Fdr.up0 hi), fun z => ⟨_, c3, by rw [q.2.2 z]⟩, fun _ => ⟨_, c3, zRg_0 hT.rg⟩⟩
  unfold CRd; rw [h3, ups_at _ (by omega)]; exact q.1
theorem C_statement {v : Int} (hv : v < 80) (ht : CTp s t.1 t.2) (h6 : s 47 6 = 0) (h7 : s 47 7 = -1) (h5 : s 47 5 = p) (p0 : 0 ≤ p ∧ p ≤ t.1) (h46 : s 46 1 = tw) (hi : isT tw) (hc : CT s tw T) (hT : TOK T) (hF : TF T) :
    Mw g (e + 77) M_X4_statement [(13, 46), (0, v)] s (LR s t tw (zSt t T (nxT t p)) (fun T2 => zLnR t T (nxT t p) T2 ∧ (nxT t p).1 = 0)) := by
  refine S_X4_statement (fun _ => ⟨fun _ => ?_, fun q => absurd hv q⟩)
  refine (C_advance (e := e + 73) ht h6 h7 h5 p0.1 p0.2).imp (fun _ s2 q2 => ?_)
  have f2 : Fdr tw s s2 := q2.2.fd
  have h462 : s2 46 1 = tw := by rw [q2.2 46 (by decide)]; exact h46
  have lc : LC s2 t tw T (nxT t p) := ⟨ht.fz q2.2, q2.1, h462, hi, hc.fz q2.2 hi, hT⟩
  have hR : zLn t T (nxT t p) = zLn t T (nxT t p) → (nxT t p).1 = 0 → (zLn t T (nxT t p)).1 = 0 → ∀ T2, (zLnR t T (nxT t p) T2 ∧ (nxT t p).1 = 0) → zRg T2 := fun _ z y T2 r => (zLn_ok hT hF ht.ok q2.1.inT z y r.1).1.rg
  rw [h462]
  generalize hst : nxT t p = st at *
  by_cases z : st.1 = 0
  · have w3 : s2 47 3 = wdT t st.2 := (q2.1.1 z).2.2.2.2.2.2.2.2
    have wb := wd_bd t st.2
    rw [w3]
    obtain ⟨n1, n2, n3, n4, n5, n6, n7, n8, n9, n10, n11, n12⟩ := en_S (wdT t st.2).toNat (by omega)
    have ez : zSt t T st = zSemi t (zLn t T st) := by unfold zSt; rw [if_pos z]
    rw [ez]
    have go : ∀ (st3 : Int × Int) (R3 : Tn → Prop) (r : Int) (s3 : Sg), st3 = zLn t T st → (∀ T2, R3 T2 → zLnR t T st T2) → LR s2 t tw st3 R3 r s3 → P_X4_statement_232 g (e + 76) (LR s t tw (zSemi t (zLn t T st)) (fun T2 => zLnR t T st T2 ∧ st.1 = 0)) s3 := fun st3 R3 r s3 a1 a2 l => C_semi (e := e + 73) (r := r) hi (fun y T2 rr => hR rfl z y T2 rr) ((l.fr f2).cg a1 (fun T2 rr => ⟨a2 T2 rr, z⟩))
    refine ⟨⟨wb.1, by omega⟩, fun q => ?_, fun q => ?_, fun q => ?_, fun q => ?_, fun q => ?_, fun q => ?_, fun q => ?_, fun q => ?_, fun q => ?_, fun q => ?_, fun q => ?_, fun q => ?_⟩
    · have w := n1.1 q
      have w : wdT t st.2 = 0 := by omega
      exact (K_home (e := e + 71) lc).imp (fun _ s3 l => go _ _ 0 s3 (by unfold zLn; rw [if_pos w]) (fun T2 rr => by unfold zLnR; rw [if_pos w]; exact rr) l.lr)
    · have w := n2.1 q
      have w : wdT t st.2 = 3 := by omega
      exact (K_child (e := e + 71) lc).imp (fun _ s3 l => go _ _ 0 s3 (by unfold zLn; rw [if_neg (by omega), if_pos w]) (fun T2 rr => by unfold zLnR; rw [if_neg (by omega), if_pos w]; exact rr) l.lr)
    · have w := n3.1 q
      have w : wdT t st.2 = 6 := by omega
      exact (K_twins (e := e + 71) lc).imp (fun _ s3 l => go _ _ 0 s3 (by unfold zLn; rw [if_neg (by omega), if_neg (by omega), if_pos w]) (fun T2 rr => by unfold zLnR; rw [if_neg (by omega), if_neg (by omega), if_pos w]; exact rr) l.lr)
    · have w := n4.1 q
      have w : wdT t st.2 = 7 := by omega
      exact (K_feud (e := e + 71) lc).imp (fun _ s3 l => go _ _ 0 s3 (by unfold zLn; rw [if_neg (by omega), if_neg (by omega), if_neg (by omega), if_pos w]) (fun T2 rr => by unfold zLnR; rw [if_neg (by omega), if_neg (by omega), if_neg (by omega), if_pos w]; exact rr) l.lr)
    · have w := n5.1 q
      have w : wdT t st.2 = 8 := by omega
      exact (K_wall (e := e + 71) lc).imp (fun _ s3 l => go _ _ 0 s3 (by unfold zLn; rw [if_neg (by omega), if_neg (by omega), if_neg (by omega), if_neg (by omega), if_pos w]) (fun T2 rr => by unfold zLnR; rw [if_neg (by omega), if_neg (by omega), if_neg (by omega), if_neg (by omega), if_pos w]; exact rr) l.lr)
    · have w := n6.1 q
      have w : wdT t st.2 = 11 := by omega
      exact (K_form (e := e) (ob := 14) (mb := 0) lc hF z (Or.inl ⟨rfl, rfl⟩) (kd_w (by omega))).imp (fun _ s3 l => go _ _ 0 s3 (by unfold zLn; rw [if_neg (by omega), if_neg (by omega), if_neg (by omega), if_neg (by omega), if_neg (by omega), if_pos w]) (fun T2 rr => by unfold zLnR; rw [if_neg (by omega), if_neg (by omega), if_neg (by omega), if_neg (by omega), if_neg (by omega), if_pos w]; exact rr) l)
    · have w := n7.1 q
      have w : wdT t st.2 = 12 := by omega
      exact (K_form (e := e) (ob := 17) (mb := 1) lc hF z (Or.inr ⟨rfl, rfl⟩) (kd_w (by omega))).imp (fun _ s3 l => go _ _ 0 s3 (by unfold zLn; rw [if_neg (by omega), if_neg (by omega), if_neg (by omega), if_neg (by omega), if_neg (by omega), if_neg (by omega), if_pos w]) (fun T2 rr => by unfold zLnR; rw [if_neg (by omega), if_neg (by omega), if_neg (by omega), if_neg (by omega), if_neg (by omega), if_neg (by omega), if_pos w]; exact rr) l)
    · have w := n8.1 q
      have w : wdT t st.2 = 13 := by omega
      exact (K_raised (e := e + 71) lc).imp (fun _ s3 l => go _ _ 0 s3 (by unfold zLn; rw [if_neg (by omega), if_neg (by omega), if_neg (by omega), if_neg (by omega), if_neg (by omega), if_neg (by omega), if_neg (by omega), if_pos w]) (fun T2 rr => by unfold zLnR; rw [if_neg (by omega), if_neg (by omega), if_neg (by omega), if_neg (by omega), if_neg (by omega), if_neg (by omega), if_neg (by omega), if_pos w]; exact rr) l.lr)
    · have w := n9.1 q
      have w : wdT t st.2 = 15 := by omega
      exact K_set (e := e + 71) (s0 := s2) (m := 99) (f := 16) lc (by omega) ⟨Fr.rf, rfl⟩ (fun s3 l => go _ _ 0 s3 (by unfold zLn; rw [if_neg (by omega), if_neg (by omega), if_neg (by omega), if_neg (by omega), if_neg (by omega), if_neg (by omega), if_neg (by omega), if_neg (by omega), if_pos w]) (fun T2 rr => by unfold zLnR; rw [if_neg (by omega), if_neg (by omega), if_neg (by omega), if_neg (by omega), if_neg (by omega), if_neg (by omega), if_neg (by omega), if_neg (by omega), if_pos w]; exact rr) l)
    · have w := n10.1 q
      have w : wdT t st.2 = 16 := by omega
      exact K_set (e := e + 71) (s0 := s2) (m := 100) (f := 17) lc (by omega) ⟨Fr.rf, rfl⟩ (fun s3 l => go _ _ 0 s3 (by unfold zLn; rw [if_neg (by omega), if_neg (by omega), if_neg (by omega), if_neg (by omega), if_neg (by omega), if_neg (by omega), if_neg (by omega), if_neg (by omega), if_neg (by omega), if_pos w]) (fun T2 rr => by unfold zLnR; rw [if_neg (by omega), if_neg (by omega), if_neg (by omega), if_neg (by omega), if_neg (by omega), if_neg (by omega), if_neg (by omega), if_neg (by omega), if_neg (by omega), if_pos w]; exact rr) l)
    · have w := n11.1 q
      have w : wdT t st.2 = 17 := by omega
      exact K_set (e := e + 71) (s0 := s2) (m := 99) (f := 18) lc (by omega) ⟨Fr.rf, rfl⟩ (fun s3 l => go _ _ 0 s3 (by unfold zLn; rw [if_neg (by omega), if_neg (by omega), if_neg (by omega), if_neg (by omega), if_neg (by omega), if_neg (by omega), if_neg (by omega), if_neg (by omega), if_neg (by omega), if_neg (by omega), if_pos w]) (fun T2 rr => by unfold zLnR; rw [if_neg (by omega), if_neg (by omega), if_neg (by omega), if_neg (by omega), if_neg (by omega), if_neg (by omega), if_neg (by omega), if_neg (by omega), if_neg (by omega), if_neg (by omega), if_pos w]; exact rr) l)
    · have nz : ∀ i : Nat, (i : Int) = wdT t st.2 → enS.getD (wdT t st.2).toNat 0 = 0 → True := fun _ _ _ => trivial
      have e0 : enS.getD (wdT t st.2).toNat 0 = 0 := by omega
      have nn : wdT t st.2 ≠ 0 ∧ wdT t st.2 ≠ 3 ∧ wdT t st.2 ≠ 6 ∧ wdT t st.2 ≠ 7 ∧ wdT t st.2 ≠ 8 ∧ wdT t st.2 ≠ 11 ∧ wdT t st.2 ≠ 12 ∧ wdT t st.2 ≠ 13 ∧ wdT t st.2 ≠ 15 ∧ wdT t st.2 ≠ 16 ∧ wdT t st.2 ≠ 17 := by
        refine ⟨fun u => ?_, fun u => ?_, fun u => ?_, fun u => ?_, fun u => ?_, fun u => ?_, fun u => ?_, fun u => ?_, fun u => ?_, fun u => ?_, fun u => ?_⟩
        · have := n1.2 (by omega); omega
        · have := n2.2 (by omega); omega
        · have := n3.2 (by omega); omega
        · have := n4.2 (by omega); omega
        · have := n5.2 (by omega); omega
        · have := n6.2 (by omega); omega
        · have := n7.2 (by omega); omega
        · have := n8.2 (by omega); omega
        · have := n9.2 (by omega); omega
        · have := n10.2 (by omega); omega
        · have := n11.2 (by omega); omega
      have el : zLn t T st = (1, st.2) := by unfold zLn; rw [if_neg nn.1, if_neg nn.2.1, if_neg nn.2.2.1, if_neg nn.2.2.2.1, if_neg nn.2.2.2.2.1, if_neg nn.2.2.2.2.2.1, if_neg nn.2.2.2.2.2.2.1, if_neg nn.2.2.2.2.2.2.2.1, if_neg nn.2.2.2.2.2.2.2.2.1, if_neg nn.2.2.2.2.2.2.2.2.2.1, if_neg nn.2.2.2.2.2.2.2.2.2.2]
      have ef : flS1 1 st = (1, st.2) := by unfold flS1; rw [if_pos z]
      refine (C_fh (e := e + 74) q2.1 (by decide)).imp (fun _ s3 q3 => go (1, st.2) (fun _ => False) 0 s3 el.symm (fun _ f => f.elim) ⟨by rw [← ef]; exact q3.1, q3.2.fd, fun y => absurd y (by show ¬ (1 : Int) = 0; decide), fun _ => ⟨T, lc.2.2.2.2.1.fz q3.2 hi, hT.rg⟩⟩)
  · have w3 : s2 47 3 = 31 := (q2.1.2 z).2.2.2
    rw [w3]
    have ez : zSt t T st = zSemi t st := by unfold zSt; rw [if_neg z]
    rw [ez]
    have e31 : enS.getD (31 : Int).toNat 0 = 0 := by decide
    rw [e31]
    refine ⟨by decide, fun q => absurd q (by decide), fun q => absurd q (by decide), fun q => absurd q (by decide), fun q => absurd q (by decide), fun q => absurd q (by decide), fun q => absurd q (by decide), fun q => absurd q (by decide), fun q => absurd q (by decide), fun q => absurd q (by decide), fun q => absurd q (by decide), fun q => absurd q (by decide), fun q => ?_⟩
    have ef : flS1 1 st = st := by unfold flS1; rw [if_neg z]
    refine (C_fh (e := e + 74) q2.1 (by decide)).imp (fun _ s3 q3 => C_semi (e := e + 73) (r := 0) hi (fun y => absurd y z) ⟨by rw [← ef]; exact q3.1, f2.tr q3.2.fd, fun y => absurd y z, fun _ => ⟨T, lc.2.2.2.2.1.fz q3.2 hi, hT.rg⟩⟩)
end CSTAT
