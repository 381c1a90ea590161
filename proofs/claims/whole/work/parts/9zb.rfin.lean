/-! the end of a statement, for the reference -/
def zFin (t : Tp) (n : Int) (st : Int × Int) : Int × Int := if st.1 = 0 then (if kdT t st.2 = 3 ∧ vlT t st.2 = 59 then (if n = 80 ∧ atT t (ndT t st.2) < t.1 then (6, atT t (ndT t st.2)) else avT t st.2) else (1, st.2)) else st
section RFIN
variable {g : GT} {e : Nat} {s : Sg} {t : Tp} {st : Int × Int}
theorem R_must_bad {c : Int} (h : RRs s t st) (z : st.1 ≠ 0) : Mw g (e + 3) M_X13_must [(21, 92), (0, c)] s (fun _ s' => RRs s' t st ∧ Fa s s') := by
  refine S_X13_must (fun _ => (R_lex (e := e) h.w).imp (fun _ s1 q1 => ?_))
  have b := q1.1.2.2 z
  have p8 : 0 < s1 92 8 := by have := h.1; rw [b.1]; omega
  have fin : ∀ s2, s2 = s1 → P_X13_must_21 g (e + 2) (fun _ s' => RRs s' t st ∧ Fa s s') s2 := fun s2 e2 => by rw [e2]; exact S_X13_must_21 ⟨fun _ => q1, fun u => by omega⟩
  refine S_X13_isSign (fun _ => ?_)
  have bl : Mw g (e + 2) M_X13_blame [(21, 92), (0, 1), (0, s1 92 4)] s1 (fun _ s6 => P_X13_must_21 g (e + 2) (fun _ s' => RRs s' t st ∧ Fa s s') s6) := (R_blame (e := e + 1) (by decide)).imp (fun _ s2 q2 => fin s2 (q2.2.1 p8))
  have no : (¬ (0 : Int) = 0 → P_X13_must_21 g (e + 2) (fun _ s' => RRs s' t st ∧ Fa s s') s1) ∧ ((0 : Int) = 0 → Mw g (e + 2) M_X13_blame [(21, 92), (0, 1), (0, s1 92 4)] s1 (fun _ s6 => P_X13_must_21 g (e + 2) (fun _ s' => RRs s' t st ∧ Fa s s') s6)) := ⟨fun u => absurd rfl u, fun _ => bl⟩
  exact ⟨fun _ => no, fun _ => ⟨fun _ => no, fun _ => ⟨fun _ => fin s1 rfl, fun u => absurd u (by decide)⟩⟩⟩
theorem R_finishes {n : Int} (ht : RTt s t) (hr : RRw s t st) : Mw g (e + 6) M_X13_finishes [(21, 92), (0, n)] s (fun _ s' => RRw s' t (zFin t n st) ∧ Fa s s') := by
  refine S_X13_finishes (fun _ => (R_lex (e := e + 3) hr).imp (fun _ s2 q2 => ?_))
  have f2 := q2.2
  have ht2 := ht.fa f2
  unfold zFin
  rcases q2.1.cs with ⟨z, hk, hx, h8⟩ | ⟨z, h8⟩
  · rw [if_pos z]
    refine ⟨fun _ => ?_, fun y => by omega⟩
    have a0 := hk.2.2.1
    have nd := nd_le a0.2
    have tb := ht.2.1.1.2
    have sz : s2 92 2 = t.1 := ht2.1
    have e5 : s2 92 5 = ndT t st.2 := hk.2.2.2.2.1
    rw [e5]
    have al := at_le nd.2.1
    have must : Mw g (e + 5) M_X13_must [(21, 92), (0, 59)] s2 (fun _ s' => RRw s' t (if kdT t st.2 = 3 ∧ vlT t st.2 = 59 then avT t st.2 else (1, st.2)) ∧ Fa s s') := by
      refine S_X13_must (fun _ => (R_lex (e := e + 2) q2.1.w).imp (fun _ s3 q3 => ?_))
      obtain ⟨k3, x3⟩ := q3.1.2.1 z
      have f3 := f2.tr q3.2
      refine Mw.ex (R_isS0 (e := e + 3) k3 x3) ⟨fun y => S_X13_must_21 ⟨fun u => absurd k3.1 u, fun _ => (R_adv2 (e := e + 2) (ht.fa f3) k3).imp (fun _ s4 q4 => ⟨?_, f3.tr q4.2.2⟩)⟩, fun y => (k3.bl (by decide)).imp (fun _ s4 q4 => S_X13_must_21 ⟨fun _ => ⟨?_, f3.tr q4.2.2.1⟩, fun u => by rw [q4.2.1] at u; omega⟩)⟩
      · have w : kdT t st.2 = 3 ∧ vlT t st.2 = 59 := Classical.byContradiction (fun u => y (if_neg u))
        rw [if_pos w]; exact q4.1
      · have w : ¬ (kdT t st.2 = 3 ∧ vlT t st.2 = 59) := fun u => by rw [if_pos u] at y; omega
        rw [if_neg w]; exact q4.1.w
    have p53 : P_X13_finishes_53 g (e + 5) (fun _ s' => RRw s' t (if kdT t st.2 = 3 ∧ vlT t st.2 = 59 then (if n = 80 ∧ atT t (ndT t st.2) < t.1 then (6, atT t (ndT t st.2)) else avT t st.2) else (1, st.2)) ∧ Fa s s') s2 n (atT t (ndT t st.2)) := by
      refine S_X13_finishes_53 (Mw.ex (R_isS0 (e := e + 4) hk hx) ⟨fun y => S_X13_finishes_83 (must.imp (fun _ s3 q3 => ?_)), fun y => ?_⟩)
      · have w : ¬ (kdT t st.2 = 3 ∧ vlT t st.2 = 59) := fun u => by rw [if_pos u] at y; omega
        rw [if_neg w] at q3 ⊢; exact q3
      · have w : kdT t st.2 = 3 ∧ vlT t st.2 = 59 := Classical.byContradiction (fun u => y (if_neg u))
        rw [if_pos w] at must ⊢
        rw [sz]
        refine ⟨fun u => S_X13_finishes_83 (must.imp (fun _ s3 q3 => ?_)), fun u => ⟨fun v => S_X13_finishes_83 (must.imp (fun _ s3 q3 => ?_)), fun v => ?_⟩⟩
        · rw [if_neg (fun x => u x.1)]; exact q3
        · rw [if_neg (fun x => by have := x.2; omega)]; exact q3
        · rw [if_pos ⟨u, by omega⟩]
          refine (R_blame (e := e + 4) (by decide)).imp (fun _ s3 q3 => ?_)
          have v8 := q3.1 h8
          have r3 : RRs s3 t (6, atT t (ndT t st.2)) := ⟨by show (0 : Int) ≤ 6; decide, fun x => absurd x (by show ¬ (6 : Int) = 0; decide), fun _ => v8⟩
          exact S_X13_finishes_83 ((R_must_bad (e := e + 2) r3 (by show (6 : Int) ≠ 0; decide)).imp (fun _ s4 q4 => ⟨q4.1.w, (f2.tr q3.2.2.2).tr q4.2⟩))
    have lp : ∀ (k : Nat) (q : Int), 0 ≤ q → q + k = t.1 → blF t.2 k q = atT t (ndT t st.2) → P_X13_finishes_17 g (e + 5) (fun _ s' => RRw s' t (if kdT t st.2 = 3 ∧ vlT t st.2 = 59 then (if n = 80 ∧ atT t (ndT t st.2) < t.1 then (6, atT t (ndT t st.2)) else avT t st.2) else (1, st.2)) ∧ Fa s s') s2 n q := by
      intro k
      induction k with
      | zero =>
        intro q q0 qk e1
        have e1 : q = atT t (ndT t st.2) := e1
        refine S_X13_finishes_17 ⟨fun _ => by rw [e1]; exact p53, fun u => absurd (by rw [sz]; omega) u⟩
      | succ k ih =>
        intro q q0 qk e1
        have e1 : (if isK (t.2 q) then blF t.2 k (q + 1) else q) = atT t (ndT t st.2) := e1
        have eb : s2 93 q = t.2 q := ht2.2.2 q q0 (by omega)
        refine S_X13_finishes_17 ⟨fun u => by rw [sz] at u; omega, fun _ => ?_⟩
        rw [eb, w32_of (show _ ≤ q + 1 by omega) (by omega)]
        refine ⟨⟨by omega, by omega⟩, fun u => ?_, fun u => ⟨⟨by omega, by omega⟩, fun v => ?_, fun v => ?_⟩⟩
        · rw [if_pos (by unfold isK; exact decide_eq_true (Or.inr u))] at e1
          exact ih (q + 1) (by omega) (by omega) e1
        · rw [if_neg (by unfold isK; rw [decide_eq_false (fun x => x.elim v u)]; decide)] at e1
          rw [e1]; exact p53
        · rw [if_pos (by unfold isK; exact decide_eq_true (Or.inl v))] at e1
          exact ih (q + 1) (by omega) (by omega) e1
    exact lp (t.1 - ndT t st.2).toNat (ndT t st.2) (by omega) (by omega) rfl
  · rw [if_neg z]
    exact ⟨fun y => by omega, fun _ => ⟨q2.1.w, f2⟩⟩
end RFIN
