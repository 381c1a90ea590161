/-! formulas: the class's parser is the descent (by its fuel) -/
def CMw (g : GT) (t : Tp) (fo mb : Int) (k nt : Nat) (M : MI) (r : Nat) : Prop :=
  ∀ (e h : Nat) (o : Int) (s : Sg) (st st2 : Int × Int) (L N : List Int), o + h = 8 → 0 ≤ o → (st.1 = 0 → o ≤ 7 ∧ (L.length : Int) < st.2) → pH (pF t mb k nt o) st = some (st2, N) → CFm s t fo mb o st L → Mw g (e + 8 * h + r) M [(13, 46)] s (PC s t fo mb o st2 (L ++ N))
def CLp (g : GT) (t : Tp) (fo mb : Int) (k nt : Nat) (P : GT → Nat → (Int → Sg → Prop) → Sg → Int → Prop) (r : Nat) : Prop :=
  ∀ (e h : Nat) (o v : Int) (s : Sg) (st st2 : Int × Int) (L N : List Int) (Q : Int → Sg → Prop), o + h = 8 → 0 ≤ o → (st.1 = 0 → o ≤ 7 ∧ (L.length : Int) < st.2 ∧ v ≤ st.2) → 0 ≤ v → v ≤ 1600 → pH (pF t mb k nt o) st = some (st2, N) → CFm s t fo mb o st L → (∀ s', CFm s' t fo mb o st2 (L ++ N) → Ff fo s s' → Q 0 s') → P g (e + 8 * h + r) Q s v
def CCh (g : GT) (t : Tp) (fo mb : Int) (k i : Nat) : Prop :=
  ∀ (e h : Nat) (o : Int) (s : Sg) (st st2 : Int × Int) (L N : List Int), o + h = 8 → 0 ≤ o → (st.1 = 0 → o ≤ 7 ∧ (L.length : Int) < st.2) → pH (pF t mb k (11 + i) o) st = some (st2, N) → CFm s t fo mb o st L → Mw g (e + 8 * h + 4) M_X4_chosenPart [(13, 46), (0, chC i)] s (PC s t fo mb o st2 (L ++ N))
def CCt (g : GT) (t : Tp) (fo mb : Int) (k i : Nat) : Prop :=
  ∀ (e h : Nat) (o : Int) (s : Sg) (st st2 : Int × Int) (L N : List Int) (Q : Int → Sg → Prop), o + h = 8 → 1 ≤ o → (st.1 = 0 → o ≤ 7 ∧ (L.length : Int) < st.2) → pH (pF t mb k (i + 14) o) st = some (st2, N) → CFm s t fo mb o st L → (∀ s', CFm s' t fo mb (o - 1) st2 (L ++ N) → Ff fo s s' → Q 0 s') → P_X4_chosenPart_48 g (e + 8 * h + 11) Q s (chC i)
section CFORM2
variable {g : GT} {t : Tp} {fo mb : Int} {k : Nat}
/-- bounds behind a part -/
theorem bd_go {nt : Nat} {o : Int} {st st2 : Int × Int} {L N : List Int} {s : Sg} (h : CFm s t fo mb o st L) (hb : st.1 = 0 → o ≤ 7 ∧ (L.length : Int) < st.2) (hp : pH (pF t mb k nt o) st = some (st2, N)) (ho : st2.1 = 0) : st.1 = 0 ∧ o ≤ 7 ∧ ((L ++ N).length : Int) < st2.2 ∧ st.2 ≤ st2.2 := by
  by_cases z : st.1 = 0
  · rw [pH_good z] at hp
    have i := h.in z
    have q := pF_gd t mb k nt o st.2 st2 N i.1.1 i.1.2 i.2 hp
    have := q.2.2 ho
    have := hb z
    rw [List.length_append]
    exact ⟨z, this.1, by omega, by omega⟩
  · have := pH_bad z hp
    rw [this.1] at ho
    exact absurd ho z
theorem n16 {o : Int} {st : Int × Int} {L : List Int} {s : Sg} (h : CFm s t fo mb o st L) (z : st.1 = 0) : st.2 ≤ 1600 := by
  have := h.in z
  have := h.1.2.1
  omega
theorem cm_prod (hs : CMw g t fo mb k 10 M_X4_singlePart 5) (hl : CLp g t fo mb k 9 P_X4_productPart_6 5) : CMw g t fo mb (k + 1) 8 M_X4_productPart 6 := by
  intro e h o s st st2 L N oh o0 hb hp hc
  by_cases z : st.1 = 0
  · rw [pH_good z] at hp
    obtain ⟨st1, L1, L2, h1, h2, h3⟩ := pB_some hp
    have h1' : pH (pF t mb k 10 o) st = some (st1, L1) := by rw [pH_good z]; exact h1
    refine S_X4_productPart ((hs e h o s st st1 L L1 oh o0 hb h1' hc).imp (fun _ s2 m => ?_))
    refine hl e h o 0 s2 st1 st2 (L ++ L1) L2 _ oh o0 (fun y => ?_) (by decide) (by decide) h2 m.1 (fun s' c f => ?_)
    · have := bd_go hc hb h1' y
      have := (m.1.in y).1.1
      exact ⟨by omega, by omega, by omega⟩
    · rw [h3, ← List.append_assoc]
      exact ⟨c, m.2.tr f⟩
  · have b := pH_bad z hp
    rw [b.1, b.2, List.append_nil]
    exact X_prod (e := e + 8 * h) hc z
theorem cm_sum (hs : CMw g t fo mb k 8 M_X4_productPart 6) (hl : CLp g t fo mb k 7 P_X4_sumPart_6 6) : CMw g t fo mb (k + 1) 6 M_X4_sumPart 7 := by
  intro e h o s st st2 L N oh o0 hb hp hc
  by_cases z : st.1 = 0
  · rw [pH_good z] at hp
    obtain ⟨st1, L1, L2, h1, h2, h3⟩ := pB_some hp
    have h1' : pH (pF t mb k 8 o) st = some (st1, L1) := by rw [pH_good z]; exact h1
    refine S_X4_sumPart ((hs e h o s st st1 L L1 oh o0 hb h1' hc).imp (fun _ s2 m => ?_))
    refine hl e h o 0 s2 st1 st2 (L ++ L1) L2 _ oh o0 (fun y => ?_) (by decide) (by decide) h2 m.1 (fun s' c f => ?_)
    · have := bd_go hc hb h1' y
      have := (m.1.in y).1.1
      exact ⟨by omega, by omega, by omega⟩
    · rw [h3, ← List.append_assoc]
      exact ⟨c, m.2.tr f⟩
  · have b := pH_bad z hp
    rw [b.1, b.2, List.append_nil]
    exact X_sum (e := e + 8 * h) hc z
theorem cm_both (hs : CMw g t fo mb k 4 M_X4_factPart 9) (hl : CLp g t fo mb k 3 P_X4_bothPart_6 9) : CMw g t fo mb (k + 1) 2 M_X4_bothPart 10 := by
  intro e h o s st st2 L N oh o0 hb hp hc
  by_cases z : st.1 = 0
  · rw [pH_good z] at hp
    obtain ⟨st1, L1, L2, h1, h2, h3⟩ := pB_some hp
    have h1' : pH (pF t mb k 4 o) st = some (st1, L1) := by rw [pH_good z]; exact h1
    refine S_X4_bothPart ((hs e h o s st st1 L L1 oh o0 hb h1' hc).imp (fun _ s2 m => ?_))
    refine hl e h o 0 s2 st1 st2 (L ++ L1) L2 _ oh o0 (fun y => ?_) (by decide) (by decide) h2 m.1 (fun s' c f => ?_)
    · have := bd_go hc hb h1' y
      have := (m.1.in y).1.1
      exact ⟨by omega, by omega, by omega⟩
    · rw [h3, ← List.append_assoc]
      exact ⟨c, m.2.tr f⟩
  · have b := pH_bad z hp
    rw [b.1, b.2, List.append_nil]
    exact X_both (e := e + 8 * h) hc z
theorem cm_test (hs : CMw g t fo mb k 2 M_X4_bothPart 10) (hl : CLp g t fo mb k 1 P_X4_testPart_6 10) : CMw g t fo mb (k + 1) 0 M_X4_testPart 11 := by
  intro e h o s st st2 L N oh o0 hb hp hc
  by_cases z : st.1 = 0
  · rw [pH_good z] at hp
    obtain ⟨st1, L1, L2, h1, h2, h3⟩ := pB_some hp
    have h1' : pH (pF t mb k 2 o) st = some (st1, L1) := by rw [pH_good z]; exact h1
    refine S_X4_testPart ((hs e h o s st st1 L L1 oh o0 hb h1' hc).imp (fun _ s2 m => ?_))
    refine hl e h o 0 s2 st1 st2 (L ++ L1) L2 _ oh o0 (fun y => ?_) (by decide) (by decide) h2 m.1 (fun s' c f => ?_)
    · have := bd_go hc hb h1' y
      have := (m.1.in y).1.1
      exact ⟨by omega, by omega, by omega⟩
    · rw [h3, ← List.append_assoc]
      exact ⟨c, m.2.tr f⟩
  · have b := pH_bad z hp
    rw [b.1, b.2, List.append_nil]
    exact X_test (e := e + 8 * h) hc z
/-- a sign is passed, a part read, its step told, the rest gone through -/
theorem cl_go {ntR ntF rR rP : Nat} {MR : MI} {P : GT → Nat → (Int → Sg → Prop) → Sg → Int → Prop} (hr : CMw g t fo mb k ntR MR rR) (hf : CLp g t fo mb k ntF P rP) {e h : Nat} {o v c : Int} {s : Sg} {st2 : Int × Int} {a : Int} {L N : List Int} {Q : Int → Sg → Prop} (oh : o + h = 8) (o0 : 0 ≤ o) (o7 : o ≤ 7) (hL : (L.length : Int) < a) (va : v ≤ a) (v0 : 0 ≤ v) (hk : kdT t a ≠ 0) (hc : CFm s t fo mb o (0, a) L)
    (hp : pB (pV t a) (fun x => pB (pF t mb k ntR o x) (fun y => pB (pE c y) (fun z => pF t mb k ntF o z))) = some (st2, N)) (hq : ∀ s', CFm s' t fo mb o st2 (L ++ N) → Ff fo s s' → Q 0 s')
    (hd : 3 ≤ 8 * h + rR) (he : rP = rR) : Mw g (e + 8 * h + rR) M_X6_advance [(15, 47)] s (fun _ s2 => Mw g (e + 8 * h + rR) MR [(13, 46)] s2 (fun _ s4 => Mw g (e + 8 * h + rR) M_X2_add [(11, s4 46 2), (0, c)] s4 (fun _ s6 => P g (e + 8 * h + rR) Q s6 (w32 (v + 1))))) := by
  obtain ⟨st3, L3, L6, g1, g2, g3, g4⟩ := rest_dec hp
  have i := hc.in rfl
  have i : (0 ≤ a ∧ a ≤ t.1) ∧ lxT t a = -1 := i
  have av := av_in i.1.1 i.1.2
  have n6 := hc.1.2.1
  obtain ⟨d, hd'⟩ : ∃ d, 8 * h + rR = d + 3 := ⟨8 * h + rR - 3, by omega⟩
  have ea : avS t (0, a) = avT t a := by unfold avS; rw [if_pos rfl]
  have A := K_adv (g := g) (e := e + d) hc
  rw [show e + d + 3 = e + 8 * h + rR by omega] at A
  refine A.imp (fun _ s2 m2 => ?_)
  rw [ea] at m2
  have B := hr e h o s2 (avT t a) st3 L L3 oh o0 (fun z => ⟨o7, by have := (av.2.2 z).2 hk; omega⟩) g1 m2.1
  refine B.imp (fun _ s4 m4 => ?_)
  have b3 : st3.1 = 0 → (avT t a).1 = 0 ∧ ((L ++ L3).length : Int) + 1 < st3.2 ∧ a < st3.2 := fun z => by
    by_cases y : (avT t a).1 = 0
    · rw [pH_good y] at g1
      have iy := av.1 y
      have q := pF_gd t mb k ntR o (avT t a).2 st3 L3 iy.1.1 iy.1.2 iy.2 g1
      have := q.2.2 z
      have := (av.2.2 y).2 hk
      rw [List.length_append]
      exact ⟨y, by omega, by omega⟩
    · have := pH_bad y g1
      rw [this.1] at z
      exact absurd z y
  rw [m4.1.2.2.1]
  have C := K_emit (g := g) (e := e + 8 * h + rR - 1) (c := c) m4.1 (fun z => by have := b3 z; have := n16 m4.1 z; omega)
  rw [show e + 8 * h + rR - 1 + 1 = e + 8 * h + rR by omega] at C
  refine C.imp (fun _ s6 m6 => ?_)
  rw [w32_of (show _ ≤ v + 1 by omega) (by omega)]
  have hlt : a < t.1 := by
    rcases kd_in t a with q | q | q | q
    · exact absurd q hk
    · exact (kd1 q).1
    · exact (kd2 q).1
    · exact kd3 q
  have D := hf e h o (v + 1) s6 st3 st2 (L ++ L3 ++ [c]) L6 Q oh o0 (fun z => ⟨o7, by have := b3 z; rw [List.length_append]; show (((L ++ L3).length + 1 : Nat) : Int) < st3.2; omega, by have := b3 z; omega⟩) (by omega) (by omega) g2 m6.1 (fun s' c' f' => ?_)
  · rw [he] at D; exact D
  · refine hq s' ?_ ((((m2.2).tr m4.2).tr m6.2).tr f')
    by_cases z : st3.1 = 0
    · rw [g3 z]
      rw [List.append_assoc, List.append_assoc] at c'
      exact c'
    · have : st2.1 ≠ 0 := by rw [g4 z]; exact z
      exact c'.anyL this
end CFORM2
