/-! a statement of the reference -/
section RSTAT
variable {g : GT} {e : Nat} {s : Sg} {t : Tp} {st : Int × Int} {T : Tn} {b : Int}
theorem RQ.fa {s0 s1 : Sg} {st2 : Int × Int} {R : Tn → Prop} {r : Int} (f : Fa s0 s) (h : RQ s t b st2 R r s1) : RQ s0 t b st2 R r s1 := ⟨h.1, f.db.tr h.2.1, h.2.2.1, by
  rcases h.2.2.2 with q | q
  · left; rw [q]; exact f.2 35 (by unfold Ka; omega)
  · right; exact q⟩
theorem RQ.cg {s1 : Sg} {st2 st3 : Int × Int} {R R2 : Tn → Prop} {r : Int} (h : RQ s t b st2 R r s1) (e1 : st2 = st3) (e2 : ∀ T2, R2 T2 → R T2) : RQ s t b st3 R2 r s1 := by
  subst e1
  exact ⟨h.1, h.2.1, fun z T2 q => h.2.2.1 z T2 (e2 T2 q), h.2.2.2⟩
theorem R_statement (ht : RTt s t) (hr : RRw s t st) (h36 : s 92 36 = b) (hb : b = 0 ∨ b = 1) (hD : RD s b T) (hT : TOK T) (hF : TF T) (hw : zTw T) (hcp : st.1 = 0 → s 92 35 ≤ st.2) : Mw g (e + 8) M_X13_statement [(21, 92)] s (RQ s t b (if st.1 = 0 then zLn t T st else st) (zLnR t T st)) := by
  refine S_X13_statement ((R_lex (e := e + 5) hr).imp (fun _ s2 q2 => ?_))
  have f2 := q2.2
  rcases q2.1.cs with ⟨z, hk, hx, h8⟩ | ⟨z, h8⟩
  · rw [if_pos z]
    have rd2 : RD s2 b T := ⟨hD.1.fa f2, hD.2.1.same (f2.1 112 (by decide)) (f2.1 113 (by decide)) (f2.1 114 (by decide)), by rw [f2.2 35 (by unfold Ka; omega), f2.1 108 (by decide)]; exact hD.2.2⟩
    have rl : RLn s2 t b T st := ⟨ht.fa f2, q2.1, by rw [f2.2 36 (by unfold Ka; omega)]; exact h36, hb, rd2, hT⟩
    have hcp2 : s2 92 35 ≤ st.2 := by rw [f2.2 35 (by unfold Ka; omega)]; exact hcp z
    have W : ∀ (k : Nat) (w : Int), k < 31 → rcL.getD k 0 = w → Mw g (e + 7) M_X13_isWord [(21, 92), (2, w)] s2 (Ex (if wdT t st.2 = k then 1 else 0) s2) := fun k w h1 h2 => R_isWord (e := e + 6) (ht.fa f2).2.1 hk hx h1 h2
    have ny : ∀ k : Nat, ¬ (if wdT t st.2 = (k : Int) then (1 : Int) else 0) = 0 → wdT t st.2 = k := fun k q => Classical.byContradiction (fun u => q (if_neg u))
    have nn : ∀ k : Nat, (if wdT t st.2 = (k : Int) then (1 : Int) else 0) = 0 → wdT t st.2 ≠ k := fun k q u => by rw [if_pos u] at q; omega
    have fin : ∀ (st3 : Int × Int) (R3 : Tn → Prop) (r : Int) (s3 : Sg), st3 = zLn t T st → (∀ T2, zLnR t T st T2 → R3 T2) → RQ s2 t b st3 R3 r s3 → RQ s t b (zLn t T st) (zLnR t T st) 0 s3 := fun st3 R3 r s3 a1 a2 l => (l.cg a1 a2).fa f2
    refine ⟨fun _ => ?_, fun y => by omega⟩
    refine Mw.ex (W 0 1752132965 (by decide) rfl) ⟨fun n0 => ?_, fun q => ?_⟩
    rotate_left
    · have w : wdT t st.2 = 0 := ny 0 q
      have m0 : True := trivial
      exact (R_homing (e := e + 1) rl z).imp (fun _ s3 l => fin _ _ 0 s3 (by unfold zLn; rw [if_pos w]) (fun T2 rr => by unfold zLnR at rr; rw [if_pos w] at rr; exact rr) l)
    refine Mw.ex (W 3 426953501796 (by decide) rfl) ⟨fun n3 => ?_, fun q => ?_⟩
    rotate_left
    · have w : wdT t st.2 = 3 := ny 3 q
      have m0 : True := trivial
      have := nn 0 n0
      exact (R_childing (e := e + 1) rl hw z).imp (fun _ s3 l => fin _ _ 0 s3 (by unfold zLn; rw [if_neg (by omega), if_pos w]) (fun T2 rr => by unfold zLnR at rr; rw [if_neg (by omega), if_pos w] at rr; exact rr) l)
    refine Mw.ex (W 6 500219604595 (by decide) rfl) ⟨fun n6 => ?_, fun q => ?_⟩
    rotate_left
    · have w : wdT t st.2 = 6 := ny 6 q
      have m0 : True := trivial
      have := nn 0 n0
      have := nn 3 n3
      exact (R_twinning (e := e + 1) rl z).imp (fun _ s3 l => fin _ _ 0 s3 (by unfold zLn; rw [if_neg (by omega), if_neg (by omega), if_pos w]) (fun T2 rr => by unfold zLnR at rr; rw [if_neg (by omega), if_neg (by omega), if_pos w] at rr; exact rr) l)
    refine Mw.ex (W 7 1717925220 (by decide) rfl) ⟨fun n7 => ?_, fun q => ?_⟩
    rotate_left
    · have w : wdT t st.2 = 7 := ny 7 q
      have m0 : True := trivial
      have := nn 0 n0
      have := nn 3 n3
      have := nn 6 n6
      exact (R_feuds (e := e + 1) rl z).imp (fun _ s3 l => fin _ _ 0 s3 (by unfold zLn; rw [if_neg (by omega), if_neg (by omega), if_neg (by omega), if_pos w]) (fun T2 rr => by unfold zLnR at rr; rw [if_neg (by omega), if_neg (by omega), if_neg (by omega), if_pos w] at rr; exact rr) l)
    refine Mw.ex (W 8 2002873452 (by decide) rfl) ⟨fun n8 => ?_, fun q => ?_⟩
    rotate_left
    · have w : wdT t st.2 = 8 := ny 8 q
      have m0 : True := trivial
      have := nn 0 n0
      have := nn 3 n3
      have := nn 6 n6
      have := nn 7 n7
      exact (R_walling (e := e + 1) rl z).imp (fun _ s3 l => fin _ _ 0 s3 (by unfold zLn; rw [if_neg (by omega), if_neg (by omega), if_neg (by omega), if_neg (by omega), if_pos w]) (fun T2 rr => by unfold zLnR at rr; rw [if_neg (by omega), if_neg (by omega), if_neg (by omega), if_neg (by omega), if_pos w] at rr; exact rr) l)
    refine Mw.ex (W 11 444015930995 (by decide) rfl) ⟨fun n11 => ?_, fun q => ?_⟩
    rotate_left
    · have w : wdT t st.2 = 11 := ny 11 q
      have m0 : True := trivial
      have := nn 0 n0
      have := nn 3 n3
      have := nn 6 n6
      have := nn 7 n7
      have := nn 8 n8
      exact (R_reading (e := e) (ob := 14) (mb := 0) rl hF z (Or.inl ⟨rfl, rfl⟩) (kd_w (by omega)) hcp2).imp (fun _ s3 l => fin _ _ 0 s3 (by unfold zLn; rw [if_neg (by omega), if_neg (by omega), if_neg (by omega), if_neg (by omega), if_neg (by omega), if_pos w]) (fun T2 rr => by unfold zLnR at rr; rw [if_neg (by omega), if_neg (by omega), if_neg (by omega), if_neg (by omega), if_neg (by omega), if_pos w] at rr; exact rr) l)
    refine Mw.ex (W 12 7168377 (by decide) rfl) ⟨fun n12 => ?_, fun q => ?_⟩
    rotate_left
    · have w : wdT t st.2 = 12 := ny 12 q
      have m0 : True := trivial
      have := nn 0 n0
      have := nn 3 n3
      have := nn 6 n6
      have := nn 7 n7
      have := nn 8 n8
      have := nn 11 n11
      exact (R_reading (e := e) (ob := 17) (mb := 1) rl hF z (Or.inr ⟨rfl, rfl⟩) (kd_w (by omega)) hcp2).imp (fun _ s3 l => fin _ _ 0 s3 (by unfold zLn; rw [if_neg (by omega), if_neg (by omega), if_neg (by omega), if_neg (by omega), if_neg (by omega), if_neg (by omega), if_pos w]) (fun T2 rr => by unfold zLnR at rr; rw [if_neg (by omega), if_neg (by omega), if_neg (by omega), if_neg (by omega), if_neg (by omega), if_neg (by omega), if_pos w] at rr; exact rr) l)
    refine Mw.ex (W 13 125762706564452 (by decide) rfl) ⟨fun n13 => ?_, fun q => ?_⟩
    rotate_left
    · have w : wdT t st.2 = 13 := ny 13 q
      have m0 : True := trivial
      have := nn 0 n0
      have := nn 3 n3
      have := nn 6 n6
      have := nn 7 n7
      have := nn 8 n8
      have := nn 11 n11
      have := nn 12 n12
      exact (R_raising (e := e + 1) rl z).imp (fun _ s3 l => fin _ _ 0 s3 (by unfold zLn; rw [if_neg (by omega), if_neg (by omega), if_neg (by omega), if_neg (by omega), if_neg (by omega), if_neg (by omega), if_neg (by omega), if_pos w]) (fun T2 rr => by unfold zLnR at rr; rw [if_neg (by omega), if_neg (by omega), if_neg (by omega), if_neg (by omega), if_neg (by omega), if_neg (by omega), if_neg (by omega), if_pos w] at rr; exact rr) l)
    refine Mw.ex (W 15 131277443786867 (by decide) rfl) ⟨fun n15 => ?_, fun q => ?_⟩
    rotate_left
    · have w : wdT t st.2 = 15 := ny 15 q
      have m0 : True := trivial
      have := nn 0 n0
      have := nn 3 n3
      have := nn 6 n6
      have := nn 7 n7
      have := nn 8 n8
      have := nn 11 n11
      have := nn 12 n12
      have := nn 13 n13
      exact (R_telling (e := e + 1) (w := 2) (hi := 99) rl z (by decide)).imp (fun _ s3 l => fin _ _ 0 s3 (by unfold zLn; rw [if_neg (by omega), if_neg (by omega), if_neg (by omega), if_neg (by omega), if_neg (by omega), if_neg (by omega), if_neg (by omega), if_neg (by omega), if_pos w]) (fun T2 rr => by unfold zLnR at rr; rw [if_neg (by omega), if_neg (by omega), if_neg (by omega), if_neg (by omega), if_neg (by omega), if_neg (by omega), if_neg (by omega), if_neg (by omega), if_pos w] at rr; exact rr) l)
    refine Mw.ex (W 16 440006570868 (by decide) rfl) ⟨fun n16 => ?_, fun q => ?_⟩
    rotate_left
    · have w : wdT t st.2 = 16 := ny 16 q
      have m0 : True := trivial
      have := nn 0 n0
      have := nn 3 n3
      have := nn 6 n6
      have := nn 7 n7
      have := nn 8 n8
      have := nn 11 n11
      have := nn 12 n12
      have := nn 13 n13
      have := nn 15 n15
      exact (R_telling (e := e + 1) (w := 3) (hi := 100) rl z (by decide)).imp (fun _ s3 l => fin _ _ 0 s3 (by unfold zLn; rw [if_neg (by omega), if_neg (by omega), if_neg (by omega), if_neg (by omega), if_neg (by omega), if_neg (by omega), if_neg (by omega), if_neg (by omega), if_neg (by omega), if_pos w]) (fun T2 rr => by unfold zLnR at rr; rw [if_neg (by omega), if_neg (by omega), if_neg (by omega), if_neg (by omega), if_neg (by omega), if_neg (by omega), if_neg (by omega), if_neg (by omega), if_neg (by omega), if_pos w] at rr; exact rr) l)
    refine Mw.ex (W 17 422676030835 (by decide) rfl) ⟨fun n17 => ?_, fun q => ?_⟩
    rotate_left
    · have w : wdT t st.2 = 17 := ny 17 q
      have m0 : True := trivial
      have := nn 0 n0
      have := nn 3 n3
      have := nn 6 n6
      have := nn 7 n7
      have := nn 8 n8
      have := nn 11 n11
      have := nn 12 n12
      have := nn 13 n13
      have := nn 15 n15
      have := nn 16 n16
      exact (R_telling (e := e + 1) (w := 4) (hi := 99) rl z (by decide)).imp (fun _ s3 l => fin _ _ 0 s3 (by unfold zLn; rw [if_neg (by omega), if_neg (by omega), if_neg (by omega), if_neg (by omega), if_neg (by omega), if_neg (by omega), if_neg (by omega), if_neg (by omega), if_neg (by omega), if_neg (by omega), if_pos w]) (fun T2 rr => by unfold zLnR at rr; rw [if_neg (by omega), if_neg (by omega), if_neg (by omega), if_neg (by omega), if_neg (by omega), if_neg (by omega), if_neg (by omega), if_neg (by omega), if_neg (by omega), if_neg (by omega), if_pos w] at rr; exact rr) l)
    have nz : wdT t st.2 ≠ 0 ∧ wdT t st.2 ≠ 3 ∧ wdT t st.2 ≠ 6 ∧ wdT t st.2 ≠ 7 ∧ wdT t st.2 ≠ 8 ∧ wdT t st.2 ≠ 11 ∧ wdT t st.2 ≠ 12 ∧ wdT t st.2 ≠ 13 ∧ wdT t st.2 ≠ 15 ∧ wdT t st.2 ≠ 16 ∧ wdT t st.2 ≠ 17 := ⟨nn 0 n0, nn 3 n3, nn 6 n6, nn 7 n7, nn 8 n8, nn 11 n11, nn 12 n12, nn 13 n13, nn 15 n15, nn 16 n16, nn 17 n17⟩
    have el : zLn t T st = (1, st.2) := by unfold zLn; rw [if_neg nz.1, if_neg nz.2.1, if_neg nz.2.2.1, if_neg nz.2.2.2.1, if_neg nz.2.2.2.2.1, if_neg nz.2.2.2.2.2.1, if_neg nz.2.2.2.2.2.2.1, if_neg nz.2.2.2.2.2.2.2.1, if_neg nz.2.2.2.2.2.2.2.2.1, if_neg nz.2.2.2.2.2.2.2.2.2.1, if_neg nz.2.2.2.2.2.2.2.2.2.2]
    rw [el]
    refine (hk.bl (by decide)).imp (fun _ s3 p => ⟨p.1.w, (f2.tr p.2.2.1).db, fun y => absurd y (by show ¬ (1 : Int) = 0; decide), Or.inl ((f2.tr p.2.2.1).2 35 (by unfold Ka; omega))⟩)
  · rw [if_neg z]
    exact ⟨fun y => by omega, fun _ => ⟨q2.1.w, f2.db, fun y => absurd y z, Or.inl (f2.2 35 (by unfold Ka; omega))⟩⟩
end RSTAT
