/-! the reference reads a text -/
section RLOOP
variable {g : GT} {e : Nat} {t : Tp} {b : Int} {Q : Int → Sg → Prop}
theorem RD.fa {s s2 : Sg} {T : Tn} (h : RD s b T) (f : Fa s s2) : RD s2 b T := ⟨h.1.fa f, h.2.1.same (f.1 112 (by decide)) (f.1 113 (by decide)) (f.1 114 (by decide)), by rw [f.2 35 (by unfold Ka; omega), f.1 108 (by decide)]; exact h.2.2⟩
theorem Fdb.tt {s s2 : Sg} (h : Fdb b s s2) (ht : RTt s t) : RTt s2 t := ht.same (h.2.1 2 (by unfold Ka; omega) (by decide) (by decide) (by decide) (by decide) (by decide) (by decide)) (h.1 93 (by decide) (by omega))
theorem kd_at {a : Int} : kdT t a = 0 ↔ ¬ a < t.1 := by
  unfold kdT
  by_cases z : a < t.1
  · rw [if_pos z]
    refine ⟨fun q => ?_, fun q => absurd z q⟩
    split at q
    · omega
    · split at q <;> omega
  · rw [if_neg z]
    exact ⟨fun _ => z, fun _ => rfl⟩
theorem R_loop (hb : b = 0 ∨ b = 1) : ∀ (k : Nat) (n p : Int) (s : Sg) (T : Tn) (stE : Int × Int) (n2 : Int) (T2 : Tn), 0 ≤ n → n + k = 81 → 0 < k → RTt s t → RTk s t (atT t p) → RRw s t (nxT t p) → (0 ≤ p ∧ p ≤ t.1) → (atT t p < t.1 → n < 80) → s 92 36 = b → RD s b T → TOK T → TF T → zTw T → s 92 35 ≤ atT t p → zRun t k n T p stE n2 T2 →
    (∀ (v : Int) (s2 : Sg), (stE.1 = 0 → v = n2 ∧ s2 92 8 = 0 ∧ s2 92 9 = -1 ∧ RD s2 b T2) → (stE.1 ≠ 0 → 0 < stE.1 ∧ s2 92 8 = stE.1 ∧ s2 92 9 = stE.2) → Fdb b s s2 → P_X13_town_152 g (e + 8) Q s2 v) → P_X13_town_123 g (e + 8) Q s n := by
  intro k
  induction k with
  | zero => intro n p s T stE n2 T2 _ _ h0; omega
  | succ k ih =>
    intro n p s T stE n2 T2 n0 nk _ ht hk hr p0 hn h36 hD hT hF hw hc zr hq
    have k3 : s 92 3 = kdT t (atT t p) := hk.2.2.2.2.2.1
    have al := at_le p0.2
    refine S_X13_town_123 ⟨fun u => absurd hk.1 u, fun _ => ⟨fun u => ?_, fun u => ?_⟩⟩
    · rw [k3] at u
      have m := kd_at.1 u
      obtain ⟨e1, e2, e3⟩ := zr.2.2.2 m
      exact hq n s (fun _ => ⟨e2.symm, hk.1, hk.2.1, by rw [e3]; exact hD⟩) (fun y => absurd (by rw [e1]) y) Fdb.rf
    · rw [k3] at u
      have m : atT t p < t.1 := Classical.byContradiction (fun v => u (kd_at.2 v))
      have n8 := hn m
      have nx2 : (nxT t p).1 = 0 → (nxT t p).2 = atT t p := fun y => by
        unfold nxT at y ⊢
        by_cases x : lxT t (atT t p) = -1
        · rw [if_pos x]
        · rw [if_neg x] at y; exact absurd y (by show ¬ (1 : Int) = 0; decide)
      refine (R_statement (e := e) ht hr h36 hb hD hT hF hw (fun y => by rw [nx2 y]; exact hc)).imp (fun _ s2 q2 => ?_)
      obtain ⟨w2, F2, D2, c2⟩ := q2
      have ht2 := F2.tt ht
      rw [w32_of (show _ ≤ n + 1 by omega) (by omega)]
      refine (R_finishes2 (e := e + 2) (n := n + 1) ht2 w2).imp (fun _ s4 q4 => ?_)
      obtain ⟨f4, b4, m4, g4⟩ := q4
      have F4 : Fdb b s s4 := F2.tr f4.db
      have es : zSt t T (nxT t p) = zSemi t (if (nxT t p).1 = 0 then zLn t T (nxT t p) else nxT t p) := rfl
      rw [← es] at b4 m4 g4
      by_cases z : (zSt t T (nxT t p)).1 = 0
      · have nz : (nxT t p).1 = 0 := by
          apply Classical.byContradiction
          intro v
          rw [es, if_neg v] at z
          unfold zSemi at z
          rw [if_neg v] at z
          exact v z
        rw [if_pos nz] at es w2 D2 c2 m4 g4
        have zg : (zLn t T (nxT t p)).1 = 0 := by
          apply Classical.byContradiction
          intro v
          rw [es] at z
          unfold zSemi at z
          rw [if_neg v] at z
          exact v z
        have eq : zSt t T (nxT t p) = zLn t T (nxT t p) := by
          rw [es] at z ⊢
          unfold zSemi at z ⊢
          rw [if_pos zg] at z ⊢
          by_cases x : kdT t (zLn t T (nxT t p)).2 = 3 ∧ vlT t (zLn t T (nxT t p)).2 = 59
          · rw [if_pos x]
          · rw [if_neg x] at z; exact absurd z (by show ¬ (1 : Int) = 0; decide)
        obtain ⟨T1, r1, zr1⟩ := zr.1 m n8 z
        rw [eq] at zr1
        have inn : inT t (nxT t p) := fun y => ⟨(hr.2.1 y).1.2.2.1, (hr.2.1 y).2⟩
        have mo := zLn_mo inn zg
        have ii := mo.1 zg
        have nd := nd_le ii.1.2
        have al2 := at_le nd.2.1
        by_cases x : zMo t (n + 1) (zLn t T (nxT t p))
        · have r4 := m4 z x
          have b6 := r4.2.2 (by show (6 : Int) ≠ 0; decide)
          have e6 : stE = (6, atT t (ndT t (zLn t T (nxT t p)).2)) := by
            cases k with
            | zero => exact zr1.elim
            | succ k => exact zr1.2.2.1 x.2 (by have := x.1; omega)
          refine S_X13_town_123 ⟨fun _ => hq (n + 1) s4 (fun y => absurd y (by rw [e6]; show ¬ (6 : Int) = 0; decide)) (fun _ => by rw [e6]; exact ⟨by show (0 : Int) < 6; decide, b6.1, b6.2⟩) F4, fun y => absurd y (by rw [b6.1]; show ¬ (6 : Int) = 0; decide)⟩
        · have g := g4 z x
          have ok := zLn_ok hT hF ht.2.1 inn nz zg r1
          have tw := zLn_tw hT hw zg r1
          have c4 : s4 92 35 ≤ atT t (ndT t (zLn t T (nxT t p)).2) := by
            rw [f4.2 35 (by unfold Ka; omega)]
            have := nx2 nz
            rcases c2 with q | q
            · rw [q]; have := mo.2; omega
            · have := q zg; omega
          refine ih (n + 1) (ndT t (zLn t T (nxT t p)).2) s4 T1 stE n2 T2 (by omega) (by omega) (by omega) (F4.tt ht) g.1 g.2 ⟨by have := ii.1.1; omega, nd.2.1⟩ (fun y => ?_) (by rw [F4.2.1 36 (by unfold Ka; omega) (by decide) (by decide) (by decide) (by decide) (by decide) (by decide)]; exact h36) ((D2 zg T1 r1).fa f4) ok.1 ok.2 tw c4 zr1 (fun v s5 a1 a2 a3 => hq v s5 a1 a2 (F4.tr a3))
          apply Classical.byContradiction
          intro v
          exact x ⟨by omega, y⟩
      · have e6 := zr.2.1 m n8 z
        have r4 := b4 z
        have b6 := r4.2.2 z
        have z0 := r4.1
        refine S_X13_town_123 ⟨fun _ => hq (n + 1) s4 (fun y => absurd (by rw [← e6]; exact y) z) (fun _ => by rw [e6]; exact ⟨by omega, b6.1, b6.2⟩) F4, fun y => absurd (b6.1.symm.trans y) z⟩
end RLOOP
