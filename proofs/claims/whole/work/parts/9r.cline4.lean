/-! statements of the class: formulas, and the statement itself -/
def fuT (t : Tp) : Nat := (20 * t.1 + 9).toNat
def fmP (t : Tp) (mb : Int) (nt : Nat) (st : Int × Int) : (Int × Int) × List Int := match pH (pF t mb (fuT t) nt 0) st with
  | some q => q
  | none => (st, [])
def fRel (T : Tn) (ob : Int) (N : List Int) (T2 : Tn) : Prop := (∀ a, a ≠ ob → a ≠ ob + 1 → T2 a = T a) ∧ T2 ob 2 = N.length ∧ ∀ i : Nat, i < N.length → T2 (ob + 1) i = N.getD i 0
def foI (t : Tp) (T : Tn) (ob : Int) (st : Int × Int) : Int × Int := avS t (zLim (T ob 2) 1 st)
def foS (t : Tp) (T : Tn) (ob mb : Int) (st : Int × Int) : Int × Int := (fmP t mb (if mb = 0 then 6 else 0) (foI t T ob st)).1
def foN (t : Tp) (T : Tn) (ob mb : Int) (st : Int × Int) : List Int := (fmP t mb (if mb = 0 then 6 else 0) (foI t T ob st)).2
def LR (s : Sg) (t : Tp) (tw : Int) (st2 : Int × Int) (R : Tn → Prop) : Int → Sg → Prop := fun _ s2 => CRd s2 t st2 ∧ Fdr tw s s2 ∧ (st2.1 = 0 → ∃ T2, CT s2 tw T2 ∧ R T2) ∧ (st2.1 ≠ 0 → ∃ T3, CT s2 tw T3 ∧ zRg T3)
section CLN4
variable {g : GT} {e : Nat} {s : Sg} {t : Tp} {st : Int × Int} {T : Tn} {tw : Int}
theorem fmP_eq {mb : Int} {nt : Nat} (hn : nt = 0 ∨ nt = 6) (hi : inT t st) : pH (pF t mb (fuT t) nt 0) st = some (fmP t mb nt st) := by
  have ex : ∃ q, pH (pF t mb (fuT t) nt 0) st = some q := by
    by_cases z : st.1 = 0
    · rw [pH_good z]
      have i := hi z
      refine pF_tot t mb (fuT t) nt 0 st.2 i.1.1 i.1.2 i.2 ?_
      have w := (wT_bd nt).2
      unfold fuT
      omega
    · exact ⟨(st, []), by unfold pH; rw [if_neg z]⟩
  obtain ⟨q, hq⟩ := ex
  unfold fmP
  rw [hq]
theorem CRd.inT (h : CRd s t st) : inT t st := fun z => ⟨(h.1 z).2.2.1, (h.1 z).2.2.2.1⟩
theorem LQ.lr {st2 : Int × Int} {T2 : Tn} {r : Int} {s2 : Sg} (h : LQ s t tw st2 T2 r s2) : LR s t tw st2 (fun T3 => T3 = T2) r s2 := ⟨h.1, h.2.1, fun z => ⟨T2, h.2.2.1 z, rfl⟩, h.2.2.2⟩
theorem zLim_0 {c m : Int} (h : 0 ≤ st.1) : 0 ≤ (zLim c m st).1 := by
  unfold zLim flS1
  split
  · exact h
  · split
    · show (0 : Int) ≤ 6; decide
    · exact h
theorem zAv_0 (h : 0 ≤ st.1) (hi : inT t st) : 0 ≤ (avS t st).1 := by
  by_cases z : st.1 = 0
  · rw [avS_good z]; exact (av_in (hi z).1.1 (hi z).1.2).2.1
  · rw [avS_bad z]; exact h
theorem K_form {ob mb : Int} (h : LC s t tw T st) (hF : TF T) (z : st.1 = 0) (hob : (ob = 14 ∧ mb = 0) ∨ (ob = 17 ∧ mb = 1)) (hk : kdT t st.2 ≠ 0) : Mw g (e + 76) M_X4_formulaLine [(13, 46), (11, tw + ob), (0, mb)] s (LR s t tw (foS t T ob mb st) (fRel T ob (foN t T ob mb st))) := by
  obtain ⟨ht, hr, h46, hi, hc, hT⟩ := h
  have hi' := hi
  unfold isT at hi'
  have hfo : isFo (tw + ob) := by unfold isFo; omega
  have eo : ∀ s1, CT s1 tw T → s1 (tw + ob) = T ob := fun s1 c => c.2 ob (by omega) (by omega) (by omega)
  have sz : 0 ≤ T ob 2 ∧ T ob 2 ≤ 1600 := by
    rcases hob with ⟨q, _⟩ | ⟨q, _⟩ <;> subst q
    · exact hF.1.1
    · exact hF.2.1
  refine S_X4_formulaLine (fun _ _ => ?_)
  rw [eo s hc]
  refine (C_limit (e := e + 72) hr).imp (fun _ s1 q1 s3 h3 => ⟨by omega, fun s4 h4 s5 h5 => ?_⟩)
  have o5 : ∀ o, o ≠ 46 → s5 o = s1 o := fun o q => by rw [h5, ups_at _ q, h4, ups_at _ q, h3, ups_at _ q]
  have k5 : ∀ k, k ≠ 2 → k ≠ 3 → k ≠ 4 → s5 46 k = s1 46 k := fun k a b c => by rw [h5, ups_k _ c, h4, ups_k _ b, h3, ups_k _ a]
  have ht5 : CTp s5 t.1 t.2 := by have := ht.fz q1.2; unfold CTp; rw [o5 2 (by decide), o5 3 (by decide)]; exact this
  have r5 : CRd s5 t (zLim (T ob 2) 1 st) := by unfold CRd; rw [o5 47 (by decide)]; exact q1.1
  have st0 : 0 ≤ st.1 := by omega
  have i5 := r5.inT
  refine (C_adv (e := e + 72) ht5 r5).imp (fun _ s7 q7 => ?_)
  have i7 : inT t (foI t T ob st) := q7.1.inT
  have g7 : (foI t T ob st).1 = 0 → T ob 2 = 0 ∧ 0 < (foI t T ob st).2 := fun y => by
    have l := g_lim (g_av y)
    refine ⟨by omega, ?_⟩
    have zl : zLim (T ob 2) 1 st = st := by unfold zLim; rw [if_pos l.2]
    have ef : foI t T ob st = avT t st.2 := by unfold foI; rw [zl, avS_good z]
    have i := hr.inT z
    rw [ef] at y ⊢
    have := ((av_in (t := t) i.1.1 i.1.2).2.2 y).2 hk
    omega
  have e7 : s7 (tw + ob) = T ob := by rw [q7.2 _ (by omega), o5 _ (by omega), q1.2 _ (by omega)]; exact eo s hc
  have cf : CFm s7 t (tw + ob) mb 0 (foI t T ob st) [] := by
    refine ⟨ht5.fz q7.2, q7.1, ?_, ?_, hfo, zAv_0 (zLim_0 st0) i5, by rw [e7]; exact sz, fun y => ⟨?_, ?_, fun i hi => absurd hi (by show ¬ i < 0; omega)⟩⟩
    · rw [q7.2 46 (by decide), h5, ups_k _ (by decide), h4, ups_k _ (by decide), h3, ups_eq]
    · rw [q7.2 46 (by decide), h5, ups_k _ (by decide), h4, ups_eq]
    · rw [q7.2 46 (by decide), h5, ups_eq]
    · rw [e7, (g7 y).1]; rfl
  have dsc := C_desc (g := g) (t := t) (fo := tw + ob) (mb := mb) (by omega) (fuT t)
  have fin : ∀ s9, PC s7 t (tw + ob) mb 0 (foS t T ob mb st) ([] ++ foN t T ob mb st) 0 s9 → LR s t tw (foS t T ob mb st) (fRel T ob (foN t T ob mb st)) 0 s9 := fun s9 q9 => by
    obtain ⟨c9, f9⟩ := q9
    have oo : ∀ o, o ≠ 46 → o ≠ 47 → o ≠ tw + ob → o ≠ tw + ob + 1 → s9 o = s o := fun o a b c d => by rw [f9.1 o (by omega), q7.2 o b, o5 o a, q1.2 o b]
    have fd : Fdr tw s s9 := ⟨fun o ho => oo o (fun u => ho (Or.inl u)) (fun u => ho (Or.inr (Or.inl u))) (fun u => ho (Or.inr (Or.inr (by omega)))) (fun u => ho (Or.inr (Or.inr (by omega)))), by rw [f9.2.1 1 (by decide), q7.2 46 (by decide), k5 1 (by decide) (by decide) (by decide), q1.2 46 (by decide)]⟩
    have ct : CT s9 tw (fun a => if a = ob ∨ a = ob + 1 then s9 (tw + a) else T a) := by
      refine ⟨?_, fun a a1 a2 a3 => ?_⟩
      · show s9 tw = if (0 : Int) = ob ∨ (0 : Int) = ob + 1 then s9 (tw + 0) else T 0
        rw [if_neg (by omega), oo tw (by omega) (by omega) (by omega) (by omega)]; exact hc.1
      · show s9 (tw + a) = if a = ob ∨ a = ob + 1 then s9 (tw + a) else T a
        by_cases y : a = ob ∨ a = ob + 1
        · rw [if_pos y]
        · rw [if_neg y, oo (tw + a) (by omega) (by omega) (by omega) (by omega)]; exact hc.2 a a1 a2 a3
    refine ⟨c9.2.1, fd, fun y => ⟨_, ct, fun a a1 a2 => if_neg (fun u => u.elim a1 a2), ?_, fun i hi => ?_⟩, fun y => ⟨_, ct, ?_⟩⟩
    · show (if ob = ob ∨ ob = ob + 1 then s9 (tw + ob) else T ob) 2 = _
      rw [if_pos (Or.inl rfl)]
      exact (c9.2.2.2.2.2.2.2 y).2.1
    · show (if ob + 1 = ob ∨ ob + 1 = ob + 1 then s9 (tw + (ob + 1)) else T (ob + 1)) i = _
      rw [if_pos (Or.inr rfl), show tw + (ob + 1) = tw + ob + 1 by omega]
      exact (c9.2.2.2.2.2.2.2 y).2.2 i hi
    · have r := hT.rg
      have en : ∀ a : Int, a ≠ ob → a ≠ ob + 1 → (fun a => if a = ob ∨ a = ob + 1 then s9 (tw + a) else T a) a = T a := fun a a1 a2 => if_neg (fun u => u.elim a1 a2)
      unfold zRg
      rw [en 6 (by omega) (by omega), en 7 (by omega) (by omega), en 8 (by omega) (by omega), en 9 (by omega) (by omega)]
      exact r
  refine ⟨fun m0 => ?_, fun m0 => ?_⟩
  · have pe := fmP_eq (mb := mb) (nt := 6) (Or.inr rfl) i7
    have ef : fmP t mb 6 (foI t T ob st) = (foS t T ob mb st, foN t T ob mb st) := by unfold foS foN; rw [if_pos m0]
    rw [ef] at pe
    have D := dsc.1.2.2.2.2.1 (e + 4) 8 0 s7 _ _ [] _ (by decide) (Int.le_refl 0) (fun y => ⟨by decide, by show ((0 : Nat) : Int) < _; have := (g7 y).2; omega⟩) pe cf
    rw [show e + 4 + 8 * 8 + 7 = e + 75 by omega] at D
    exact D.imp (fun _ s9 q9 => fin s9 q9)
  · have pe := fmP_eq (mb := mb) (nt := 0) (Or.inl rfl) i7
    have ef : fmP t mb 0 (foI t T ob st) = (foS t T ob mb st, foN t T ob mb st) := by unfold foS foN; rw [if_neg m0]
    rw [ef] at pe
    have D := dsc.1.1 e 8 0 s7 _ _ [] _ (by decide) (Int.le_refl 0) (fun y => ⟨by decide, by show ((0 : Nat) : Int) < _; have := (g7 y).2; omega⟩) pe cf
    rw [show e + 8 * 8 + 11 = e + 75 by omega] at D
    exact D.imp (fun _ s9 q9 => fin s9 q9)
end CLN4
