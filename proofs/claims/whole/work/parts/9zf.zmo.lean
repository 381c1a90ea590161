/-! places go on -/
def zMn (t : Tp) (st st2 : Int × Int) : Prop := st2.1 = 0 → st.1 = 0 ∧ (inT t st → inT t st2 ∧ st.2 ≤ st2.2)
section ZMO
variable {t : Tp} {T : Tn} {st st2 st3 : Int × Int}
theorem zMn.tr (h : zMn t st st2) (h2 : zMn t st2 st3) : zMn t st st3 := fun z => by
  have a := h2 z
  have b := h a.1
  exact ⟨b.1, fun i => ⟨(a.2 (b.2 i).1).1, by have := (b.2 i).2; have := (a.2 (b.2 i).1).2; omega⟩⟩
theorem mn_av : zMn t st (avS t st) := fun z => by
  have y := g_av z
  rw [avS_good y] at z ⊢
  refine ⟨y, fun i => ?_⟩
  have v := av_in (t := t) (i y).1.1 (i y).1.2
  exact ⟨v.1, (v.2.2 z).1⟩
theorem mn_of (h : st2.1 = 0 → st.1 = 0 ∧ st2 = avT t st.2) : zMn t st st2 := fun z => by
  obtain ⟨y, q⟩ := h z
  have := mn_av (t := t) (st := st)
  rw [avS_good y, ← q] at this
  exact this z
theorem mn_lim {c m : Int} : zMn t st (zLim c m st) := fun z => by
  have l := g_lim z
  have e : zLim c m st = st := by unfold zLim; rw [if_pos l.2]
  rw [e]
  exact ⟨l.1, fun i => ⟨i, Int.le_refl _⟩⟩
theorem mn_own {k : Int} : zMn t st (zOwn t k st) := mn_of (fun z => by
  have y := g_own z
  refine ⟨y, ?_⟩
  unfold zOwn at z ⊢
  rw [if_pos y] at z ⊢
  by_cases x : wdT t st.2 = k
  · rw [if_pos x]
  · rw [if_neg x] at z; exact absurd z (by show ¬ (1 : Int) = 0; decide))
theorem mn_num {lo hi : Int} : zMn t st (zNum t lo hi st) := mn_of (fun z => by
  have y := g_num z
  refine ⟨y.1, ?_⟩
  unfold zNum at z ⊢
  rw [if_pos y.1] at z ⊢
  by_cases x : kdT t st.2 = 2
  · rw [if_pos x, if_pos y.2]
  · rw [if_neg x] at z; exact absurd z (by show ¬ (1 : Int) = 0; decide))
theorem mn_new : zMn t st (zNew t T st) := mn_of (fun z => by
  have y := g_new z
  refine ⟨y, ?_⟩
  unfold zNew at z ⊢
  rw [if_pos y] at z ⊢
  by_cases x : zNam t st.2
  · rw [if_pos x] at z ⊢
    by_cases w : zKno T (vlT t st.2)
    · rw [if_pos w] at z; exact absurd z (by show ¬ (2 : Int) = 0; decide)
    · rw [if_neg w]
  · rw [if_neg x] at z; exact absurd z (by show ¬ (1 : Int) = 0; decide))
theorem mn_knw {k bar : Int} : zMn t st (zKnw t T k bar st) := mn_of (fun z => by
  have y := g_knw z
  refine ⟨y.1, ?_⟩
  unfold zKnw
  rw [if_pos y.1, if_pos y.2.1, if_pos y.2.2.1])
theorem mn_l2 {k m w1 w2 lo hi : Int} : zMn t st (l2S t T k m w1 w2 lo hi st) := ((((mn_lim.tr mn_av).tr mn_new).tr mn_own).tr mn_num).tr (mn_own.tr mn_num)
theorem mn_p2 {b1 : Int} {b2 : Int → Int} : zMn t st (p2S t T b1 b2 st) := mn_knw.tr mn_knw
theorem mn_fo {ob mb : Int} : zMn t st (foS t T ob mb st) := by
  refine (mn_lim.tr mn_av : zMn t st (foI t T ob st)).tr (fun g => ?_)
  by_cases zi : (foI t T ob st).1 = 0
  · refine ⟨zi, fun i7 => ?_⟩
    have hn : (if mb = 0 then 6 else 0) = 0 ∨ (if mb = 0 then 6 else 0) = (6 : Nat) := by split <;> omega
    have pe := fmP_eq (mb := mb) hn i7
    have ef : fmP t mb (if mb = 0 then 6 else 0) (foI t T ob st) = (foS t T ob mb st, foN t T ob mb st) := rfl
    rw [ef, pH_good zi] at pe
    have ii := i7 zi
    have gd := pF_gd t mb (fuT t) _ 0 _ _ _ ii.1.1 ii.1.2 ii.2 pe
    have g2 : (foI t T ob st).2 + (foN t T ob mb st).length ≤ (foS t T ob mb st).2 := gd.2.2 g
    exact ⟨gd.2.1, by omega⟩
  · have e : foS t T ob mb st = foI t T ob st := by
      unfold foS fmP
      have : pH (pF t mb (fuT t) (if mb = 0 then 6 else 0) 0) (foI t T ob st) = some (foI t T ob st, []) := by unfold pH; rw [if_neg zi]
      rw [this]
    rw [e] at g
    exact absurd g zi
theorem zLn_mo (hi : inT t st) (h : (zLn t T st).1 = 0) : inT t (zLn t T st) ∧ st.2 ≤ (zLn t T st).2 := by
  have M : zMn t st (zLn t T st) := by
    unfold zLn
    repeat' split
    · exact mn_l2
    · exact ((((mn_lim.tr mn_av).tr mn_new).tr mn_own).tr mn_knw).tr (mn_own.tr mn_num)
    · exact mn_av.tr mn_p2
    · exact (mn_lim.tr mn_av).tr mn_p2
    · exact mn_l2
    · exact mn_fo
    · exact mn_fo
    · exact ((mn_av.tr mn_num).tr mn_own).tr mn_num
    · exact mn_av.tr mn_num
    · exact mn_av.tr mn_num
    · exact mn_av.tr mn_num
    · exact fun z => absurd z (by show ¬ (1 : Int) = 0; decide)
  exact (M h).2 hi
end ZMO
