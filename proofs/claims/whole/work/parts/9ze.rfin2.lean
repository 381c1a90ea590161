/-! the end of a statement, for the reference: what stands there then -/
def zMo (t : Tp) (n : Int) (st : Int × Int) : Prop := n = 80 ∧ atT t (ndT t st.2) < t.1
def FP (s : Sg) (t : Tp) (n : Int) (st : Int × Int) : Int → Sg → Prop := fun _ s2 => Fa s s2 ∧ ((zSemi t st).1 ≠ 0 → RRs s2 t (zSemi t st)) ∧ ((zSemi t st).1 = 0 → zMo t n st → RRs s2 t (6, atT t (ndT t st.2))) ∧ ((zSemi t st).1 = 0 → ¬ zMo t n st → RTk s2 t (atT t (ndT t st.2)) ∧ RRw s2 t (nxT t (ndT t st.2)))
section RFIN2
variable {g : GT} {e : Nat} {s : Sg} {t : Tp} {st : Int × Int}
theorem R_finishes2 {n : Int} (ht : RTt s t) (hr : RRw s t st) : Mw g (e + 6) M_X13_finishes [(21, 92), (0, n)] s (FP s t n st) := by
  refine S_X13_finishes (fun _ => (R_lex (e := e + 3) hr).imp (fun _ s2 q2 => ?_))
  have f2 := q2.2
  have ht2 := ht.fa f2
  rcases q2.1.cs with ⟨z, hk, hx, h8⟩ | ⟨z, h8⟩
  · refine ⟨fun _ => ?_, fun y => by omega⟩
    have a0 := hk.2.2.1
    have nd := nd_le a0.2
    have tb := ht.2.1.1.2
    have sz : s2 92 2 = t.1 := ht2.1
    have e5 : s2 92 5 = ndT t st.2 := hk.2.2.2.2.1
    rw [e5]
    have al := at_le nd.2.1
    have sg : (kdT t st.2 = 3 ∧ vlT t st.2 = 59) → zSemi t st = st := fun w => by unfold zSemi; rw [if_pos z, if_pos w]
    have sn : ¬ (kdT t st.2 = 3 ∧ vlT t st.2 = 59) → zSemi t st = (1, st.2) := fun w => by unfold zSemi; rw [if_pos z, if_neg w]
    have n1 : ¬ (((1 : Int), st.2) : Int × Int).1 = 0 := by show ¬ (1 : Int) = 0; decide
    have must : ((kdT t st.2 = 3 ∧ vlT t st.2 = 59) → ¬ zMo t n st) → Mw g (e + 5) M_X13_must [(21, 92), (0, 59)] s2 (FP s t n st) := fun hm => by
      refine S_X13_must (fun _ => (R_lex (e := e + 2) q2.1.w).imp (fun _ s3 q3 => ?_))
      obtain ⟨k3, x3⟩ := q3.1.2.1 z
      have f3 := f2.tr q3.2
      refine Mw.ex (R_isS0 (e := e + 3) k3 x3) ⟨fun y => S_X13_must_21 ⟨fun u => absurd k3.1 u, fun _ => (R_ahead (e := e + 2) (ht.fa f3) k3.1 k3.2.1 k3.2.2.2.2.1 (by omega) nd.2.1).imp (fun _ s4 q4 => ?_)⟩, fun y => (k3.bl (by decide)).imp (fun _ s4 q4 => S_X13_must_21 ⟨fun _ => ?_, fun u => by rw [q4.2.1] at u; omega⟩)⟩
      · have w : kdT t st.2 = 3 ∧ vlT t st.2 = 59 := Classical.byContradiction (fun u => y (if_neg u))
        refine ⟨f3.tr q4.2.2, fun u => absurd z (by rw [sg w] at u; exact u), fun _ m => absurd m (hm w), fun _ _ => ⟨q4.1, q4.2.1⟩⟩
      · have w : ¬ (kdT t st.2 = 3 ∧ vlT t st.2 = 59) := fun u => by rw [if_pos u] at y; omega
        refine ⟨f3.tr q4.2.2.1, fun _ => by rw [sn w]; exact q4.1, fun u => absurd u (by rw [sn w]; exact n1), fun u => absurd u (by rw [sn w]; exact n1)⟩
    have p53 : P_X13_finishes_53 g (e + 5) (FP s t n st) s2 n (atT t (ndT t st.2)) := by
      refine S_X13_finishes_53 (Mw.ex (R_isS0 (e := e + 4) hk hx) ⟨fun y => S_X13_finishes_83 (must (fun u => by rw [if_pos u] at y; omega)), fun y => ?_⟩)
      have w : kdT t st.2 = 3 ∧ vlT t st.2 = 59 := Classical.byContradiction (fun u => y (if_neg u))
      rw [sz]
      refine ⟨fun u => S_X13_finishes_83 (must (fun _ m => u m.1)), fun u => ⟨fun v => S_X13_finishes_83 (must (fun _ m => by have := m.2; omega)), fun v => ?_⟩⟩
      refine (R_blame (e := e + 4) (by decide)).imp (fun _ s3 q3 => ?_)
      have v8 := q3.1 h8
      have r3 : RRs s3 t (6, atT t (ndT t st.2)) := ⟨by show (0 : Int) ≤ 6; decide, fun x => absurd x (by show ¬ (6 : Int) = 0; decide), fun _ => v8⟩
      refine S_X13_finishes_83 ((R_must_bad (e := e + 2) r3 (by show (6 : Int) ≠ 0; decide)).imp (fun _ s4 q4 => ⟨(f2.tr q3.2.2.2).tr q4.2, fun x => absurd z (by rw [sg w] at x; exact x), fun _ _ => q4.1, fun _ x => absurd ⟨u, by omega⟩ x⟩))
    have lp : ∀ (k : Nat) (q : Int), 0 ≤ q → q + k = t.1 → blF t.2 k q = atT t (ndT t st.2) → P_X13_finishes_17 g (e + 5) (FP s t n st) s2 n q := by
      intro k
      induction k with
      | zero =>
        intro q q0 qk e1
        have e1 : q = atT t (ndT t st.2) := e1
        refine S_X13_finishes_17 ⟨fun _ => by rw [e1]; exact p53, fun u => absurd (by rw [sz]; omega) u⟩
      | succ k ih =>
        intro q q0 qk e1
        have e1 : (if isK (t.2 q) then blF t.2 k (q + 1) else q) = atT t (ndT t st.2) := e1
        have eb : s2 93 q = t.2 q := ht2.2.2 q q0 (by omega)
        refine S_X13_finishes_17 ⟨fun u => by rw [sz] at u; omega, fun _ => ?_⟩
        rw [eb, w32_of (show _ ≤ q + 1 by omega) (by omega)]
        refine ⟨⟨by omega, by omega⟩, fun u => ?_, fun u => ⟨⟨by omega, by omega⟩, fun v => ?_, fun v => ?_⟩⟩
        · rw [if_pos (by unfold isK; exact decide_eq_true (Or.inr u))] at e1
          exact ih (q + 1) (by omega) (by omega) e1
        · rw [if_neg (by unfold isK; rw [decide_eq_false (fun x => x.elim v u)]; decide)] at e1
          rw [e1]; exact p53
        · rw [if_pos (by unfold isK; exact decide_eq_true (Or.inl v))] at e1
          exact ih (q + 1) (by omega) (by omega) e1
    exact lp (t.1 - ndT t st.2).toNat (ndT t st.2) (by omega) (by omega) rfl
  · have es : zSemi t st = st := by unfold zSemi; rw [if_neg z]
    exact ⟨fun y => by omega, fun _ => ⟨f2, fun _ => by rw [es]; exact q2.1, fun u => absurd (by rw [es] at u; exact u) z, fun u => absurd (by rw [es] at u; exact u) z⟩⟩
end RFIN2
