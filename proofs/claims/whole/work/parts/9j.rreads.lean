/-! a formula read by the reference -/
section RREADS
variable {g : GT} {e : Nat} {s : Sg} {t : Tp} {ib mb c0 : Int} {st st2 : Int × Int} {k : Nat} {N : List Int}
theorem Fx.tt {f : Nat} {bf : Int} {s2 : Sg} (h : Fx ib c0 f bf s s2) (ht : RTt s t) : RTt s2 t := ht.same (h.2.1 2 (by unfold Ka; omega) (by decide) (by decide) (by decide) (by decide) (by decide)) (h.1 93 (by decide) (by decide) (by decide) (by omega))
/-- what is told of the steps -/
def TL (s : Sg) (ib c0 : Int) (N : List Int) : Prop := s 92 35 = c0 + N.length ∧ ∀ i : Nat, i < N.length → okC (s 110 (1600 * ib + c0 + i)) (s 111 (1600 * ib + c0 + i)) ∧ N.getD i 0 = cdM (s 110 (1600 * ib + c0 + i)) (s 111 (1600 * ib + c0 + i))
theorem R_push0 {k : Int} (ht : RTt s t) (hr : RRw s t st) (hi : s 92 36 = ib ∧ (ib = 0 ∨ ib = 1) ∧ s 92 37 = mb) (h35 : s 92 35 = c0 ∧ 0 ≤ c0) (hz : s 92 43 = 0 ∧ s 92 44 = 0 ∧ s 92 46 = 0 ∧ s 92 47 = 0) : Mw g (e + 1) M_X13_pushes [(21, 92), (0, k)] s (fun _ s' => (∃ p, RCf s' t ib mb c0 0 k 0 1 0 p 0 0 st [] []) ∧ Fx ib c0 0 0 s s') := by
  refine S_X13_pushes (fun _ => ?_)
  rw [hz.1]
  refine ⟨⟨by omega, by omega⟩, fun s1 e1 => ?_⟩
  have v1 : s1 92 = s 92 := by rw [e1, ups_at _ (by decide)]
  rw [v1, hz.1]
  refine ⟨⟨by omega, by omega⟩, fun s2 e2 => ?_⟩
  have v2 : s2 92 = s 92 := by rw [e2, ups_at _ (by decide), v1]
  rw [v2, hz.1]
  refine ⟨⟨by omega, by omega⟩, fun s3 e3 => ?_⟩
  have v3 : s3 92 = s 92 := by rw [e3, ups_at _ (by decide), v2]
  rw [v3, hz.1, hz.2.2.1]
  refine ⟨⟨by omega, by omega⟩, fun s4 e4 s5 e5 => ?_⟩
  have v4 : s4 92 = s 92 := by rw [e4, ups_at _ (by decide), v3]
  rw [v4, hz.1, w32_of (by omega) (by omega)] at e5
  have ek : ∀ k, k ≠ 43 → s5 92 k = s 92 k := fun k hk => by rw [e5, ups_k _ hk, v4]
  have eo : ∀ o, o ≠ 92 → o ≠ 115 → o ≠ 116 → o ≠ 117 → o ≠ 119 → s5 o = s o := fun o a b c d x => by rw [e5, ups_at _ a, e4, ups_at _ x, e3, ups_at _ d, e2, ups_at _ c, e1, ups_at _ b]
  refine ⟨⟨s5 118 0, ht.same (ek 2 (by decide)) (eo 93 (by decide) (by decide) (by decide) (by decide) (by decide)), hr.same (fun k hk => ek k (by unfold Ka at hk; omega)), ?_, ⟨?_, ?_, ?_, ?_, ?_, rfl⟩, ?_, ⟨?_, fun i hi => absurd hi (by show ¬ i < 0; omega)⟩, ?_, fun i hi => absurd hi (by show ¬ i < 0; omega)⟩, ?_⟩
  · rw [ek 36 (by decide), ek 37 (by decide)]; exact ⟨hi.1, hi.2.1, hi.2.2, h35.2, Int.le_refl 0⟩
  · rw [e5, ups_eq]; rfl
  · rw [e5, ups_at _ (by decide), e4, ups_at _ (by decide), e3, ups_at _ (by decide), e2, ups_at _ (by decide), e1]; exact ups_eq ..
  · rw [e5, ups_at _ (by decide), e4, ups_at _ (by decide), e3, ups_at _ (by decide), e2]; exact ups_eq ..
  · rw [e5, ups_at _ (by decide), e4, ups_at _ (by decide), e3]; exact ups_eq ..
  · rw [e5, ups_at _ (by decide), e4]; exact ups_eq ..
  · rw [ek 44 (by decide), ek 47 (by decide)]; exact ⟨hz.2.1, hz.2.2.2⟩
  · rw [ek 46 (by decide)]; exact hz.2.2.1
  · rw [ek 35 (by decide), h35.1]; show c0 = c0 + ((0 : Nat) : Int); omega
  · rw [e5, e4, e3, e2, e1]
    exact ((((Fx.uF (by decide) (by decide) (by decide)).tr (Fx.uF (by decide) (by decide) (by decide))).tr (Fx.uF (by decide) (by decide) (by decide))).tr (Fx.uF (by decide) (by decide) (by decide))).tr (Fx.u92 (by omega))
theorem R_reads {w : Int} (ht : RTt s t) (hr : RRw s t st) (hi : s 92 36 = ib ∧ (ib = 0 ∨ ib = 1) ∧ s 92 37 = mb ∧ (mb = 0 ∨ mb = 1)) (h35 : s 92 35 = c0 ∧ 0 ≤ c0) (hb : st.1 = 0 → c0 < st.2) (hp : pH (pF t mb k (if w = 0 then 6 else 0) 0) st = some (st2, N)) :
    Mw g (e + 5) M_X13_reads [(21, 92), (0, w)] s (fun _ s' => RTt s' t ∧ RRs s' t st2 ∧ Fx ib c0 0 0 s s' ∧ (st2.1 = 0 → TL s' ib c0 N)) := by
  have r0 := hr.1
  refine S_X13_reads (fun _ => ⟨fun h8 s1 e1 s2 e2 s3 e3 s4 e4 => ?_, fun h8 => ?_⟩)
  · have ek : ∀ k, k ≠ 43 → k ≠ 44 → k ≠ 46 → k ≠ 47 → s4 92 k = s 92 k := fun k a b c d => by rw [e4, ups_k _ d, e3, ups_k _ c, e2, ups_k _ b, e1, ups_k _ a]
    have eo : ∀ o, o ≠ 92 → s4 o = s o := fun o a => by rw [e4, ups_at _ a, e3, ups_at _ a, e2, ups_at _ a, e1, ups_at _ a]
    have F4 : Fx ib c0 0 0 s s4 := by
      rw [e4, e3, e2, e1]
      exact (((Fx.u92 (by omega)).tr (Fx.u92 (by omega))).tr (Fx.u92 (by omega))).tr (Fx.u92 (by omega))
    have P : ∀ x, ((w = 0 ∧ x = 0) ∨ (w ≠ 0 ∧ x = 1)) → P_X13_reads_38 g (e + 4) (fun _ s' => RTt s' t ∧ RRs s' t st2 ∧ Fx ib c0 0 0 s s' ∧ (st2.1 = 0 → TL s' ib c0 N)) s4 x := fun x hx => by
      refine S_X13_reads_38 ((R_push0 (e := e + 3) (F4.tt ht) (hr.same (fun k hk => by unfold Ka at hk; exact ek k (by omega) (by omega) (by omega) (by omega))) (ib := ib) (mb := mb) (c0 := c0) ⟨by rw [ek 36 (by decide) (by decide) (by decide) (by decide)]; exact hi.1, hi.2.1, by rw [ek 37 (by decide) (by decide) (by decide) (by decide)]; exact hi.2.2.1⟩ ⟨by rw [ek 35 (by decide) (by decide) (by decide) (by decide)]; exact h35.1, h35.2⟩ ⟨?_, ?_, ?_, ?_⟩).imp (fun _ s5 q5 => ?_))
      · rw [e4, ups_k _ (by decide), e3, ups_k _ (by decide), e2, ups_k _ (by decide), e1, ups_eq]
      · rw [e4, ups_k _ (by decide), e3, ups_k _ (by decide), e2, ups_eq]
      · rw [e4, ups_k _ (by decide), e3, ups_eq]
      · rw [e4, ups_eq]
      · obtain ⟨⟨p, c5⟩, f5⟩ := q5
        have F := F4.tr f5
        by_cases z : st.1 = 0
        · rw [pH_good z] at hp
          rw [p_eta z] at c5
          obtain ⟨ab, ax, tb, c00, bf0⟩ := c5.ab
          have sm := sim_all (g := g) (t := t) hi.2.2.2 k k (Nat.le_refl k)
          have hbz := hb z
          obtain ⟨l0, l4, l5, l6, l10, k0, k4, k5, k6, _, rr0, r4, r5, r6, _⟩ := lv_all
          have fin : ∀ (nt : Nat), (nt = 6 ∧ x = 0 ∨ nt = 0 ∧ x = 1) → ∀ (L1 : List Int), pF t mb k nt 0 st.2 = some (st2, N) → KG g e (fun _ s' => RTt s' t ∧ RRs s' t st2 ∧ Fx ib c0 0 0 s s' ∧ (st2.1 = 0 → TL s' ib c0 N)) s5 t ib mb c0 0 x 0 0 p 0 [] [] nt st2 N := fun nt hnt _ hp => by
            have gd := pF_gd t mb k nt 0 _ st2 N ab.1 ab.2 ax hp
            refine ⟨fun z5 s6 ph6 M R c6 f6 em rp lb ob ep => ?_, fun z5 s6 r6 f6 => ⟨(F.tr f6).tt ht, r6, F.tr f6, fun y => absurd y z5⟩⟩
            have g5 := gd.2.2 z5
            have gi := gd.2.1 z5
            rw [p_eta z5, List.nil_append, List.nil_append] at c6
            have lm : M.length + R.length = N.length := by rw [← em, List.length_append, List.length_reverse]
            have n0 := ntN_0 R
            have hj : JOk c0 0 (0 + ntN R) 1 [] R M := ⟨fun c hc => absurd hc (List.not_mem_nil), fun c hc => ⟨(rk_bd c).1, (rp c hc).2⟩, fun c hc => absurd hc (List.not_mem_nil), by omega, by show (0 : Int) + ((0 : Nat) : Int) + R.length < 500; have : (0 : Int) + ((0 : Nat) : Int) + R.length < 500 := lb; omega, by omega, by omega⟩
            refine rg_top c6 (by decide) ?_ (fun w => ?_) ?_ hj (fun s7 c7 f7 => ?_)
            · rcases hnt with w | w
              · rw [w.1] at ep; exact Or.inr (na_of ((ep.2 (by decide)).2.1 (by decide)) ((ep.2 (by decide)).2.2 (by decide)))
              · rw [w.1] at ep; exact (ep.1 (by decide)).2.1
            · rcases hnt with u | u
              · rw [u.2] at w; exact absurd w (by unfold tst; omega)
              · rw [u.1] at ep; exact ⟨(ep.1 (by decide)).1, (ep.1 (by decide)).2.2.1 (by decide), (ep.1 (by decide)).2.2.2 (by decide)⟩
            · rcases hnt with u | u <;> omega
            · rw [em, ← p_eta z5] at c7
              have FF := (F.tr f6).tr f7
              refine ⟨c7.1, ⟨c7.2.1.1, fun y => c7.2.1.2.1 y, fun y => absurd z5 y⟩, FF, fun _ => c7.2.2.2.2.2.2⟩
          rcases hx with ⟨w0, x0⟩ | ⟨w0, x1⟩
          · rw [if_pos w0] at hp
            exact sm.2.2.2.2.2.2.1 c5 ⟨fun y => absurd y (by decide), fun _ => ⟨by decide, fun y => absurd y.1 (by unfold tst; omega)⟩⟩ ⟨by decide, fun c hc => absurd hc List.not_mem_nil, by decide, by show c0 + ((0 : Nat) : Int) + 0 + ((0 : Nat) : Int) + ((0 : Nat) : Int) < st.2; omega⟩ hp (fin 6 (Or.inl ⟨rfl, x0⟩) [] hp)
          · rw [if_neg w0] at hp
            exact sm.1 c5 ⟨fun _ => ⟨Or.inl x1, rfl, rfl, fun y => absurd y (by decide)⟩, fun y => absurd y (by decide)⟩ ⟨by decide, fun c hc => absurd hc List.not_mem_nil, by decide, by show c0 + ((0 : Nat) : Int) + 0 + ((0 : Nat) : Int) + ((0 : Nat) : Int) < st.2; omega⟩ hp (fin 0 (Or.inr ⟨rfl, x1⟩) [] hp)
        · have b := pH_bad z hp
          refine rl_bad c5 z (fun s6 r6 f6 => ⟨(F.tr f6).tt ht, by rw [b.1]; exact r6, F.tr f6, fun y => absurd (by rw [← b.1]; exact y) z⟩)
    exact ⟨fun w0 => P 0 (Or.inl ⟨w0, rfl⟩), fun w0 => P 1 (Or.inr ⟨w0, rfl⟩)⟩
  · by_cases z : st.1 = 0
    · have := (hr.2.1 z).1.1; omega
    · have b := pH_bad z hp
      have hs : RRs s t st := ⟨hr.1, fun y => absurd y z, fun _ => by
        rcases hr.2.2 z with y | ⟨y0, a, y1, _⟩
        · exact y
        · have := y1.1; omega⟩
      exact ⟨ht, by rw [b.1]; exact hs, Fx.rf, fun y => absurd (by rw [← b.1]; exact y) z⟩
end RREADS
