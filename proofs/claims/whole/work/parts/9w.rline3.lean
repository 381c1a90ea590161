/-! statements of the reference: children -/
/-- those not told have no twin -/
def zTw (T : Tn) : Prop := ∀ c, T 1 1 ≤ c → c < 8 → T 10 c = -1
section RLN2
variable {g : GT} {e : Nat} {s : Sg} {t : Tp} {st : Int × Int} {T : Tn} {b : Int}
theorem R_childing (h : RLn s t b T st) (hw : zTw T) (z : st.1 = 0) : Mw g (e + 6) M_X13_childing [(21, 92)] s (RQ s t b (chS2 t T st) (fun T2 => T2 = chT2 t T st)) := by
  obtain ⟨ht, hr, h36, hb, ⟨hR, hN, hC⟩, hT⟩ := h
  have cn := hR.cn hT
  have cK : s 97 b = T 1 1 := cn.2.1.1
  have kb : 0 ≤ T 1 1 ∧ T 1 1 ≤ 8 := cn.2.1.2
  have main : ∀ x : Int, (T 1 1 ≠ 8 → x = 0) ∧ (T 1 1 = 8 → x = 1) → P_X13_childing_20 g (e + 5) (RQ s t b (chS2 t T st) (fun T2 => T2 = chT2 t T st)) s x := fun x hx => by
    refine S_X13_childing_20 ((R_counts (e := e + 2) ht hr).imp (fun r1 s2 q2 => ?_))
    rw [lim_eq hx kb.2] at q2
    obtain ⟨w2, f2, g1, g2⟩ := q2
    have o2 : ∀ o, o ≠ 92 → s2 o = s o := f2.1
    have k2 : s2 92 36 = b := by rw [f2.2 36 (by unfold Ka; omega)]; exact h36
    refine ⟨fun r0 => ?_, fun r0 => ?_⟩
    · have x0 : x = 0 := Classical.byContradiction (fun u => r0 (g2 (fun v => u v.2)))
      have lt : T 1 1 < 8 := by
        apply Classical.byContradiction
        intro u
        have := hx.2 (by omega)
        omega
      have ht2 := ht.fa f2
      have ix : w32 (w32 (8 * s2 92 36) + s2 97 (s2 92 36)) = 8 * b + T 1 1 := by
        rw [k2, o2 97 (by decide), cK, w32_of (show _ ≤ 8 * b by omega) (by omega), w32_of (by omega) (by omega)]
      rw [ix, k2]
      refine ⟨⟨by omega, by omega⟩, (R_fresh (e := e + 1) ht2 w2 ⟨k2, hb⟩ (cn.same (o2 94 (by decide)) (o2 97 (by decide)) (o2 104 (by decide))) (hN.same (o2 112 (by decide)) (o2 113 (by decide)) (o2 114 (by decide)))).imp (fun r3 s4 q4 => ⟨⟨by omega, by omega⟩, fun s5 h5 => ?_⟩)⟩
      have u5 : s5 92 = s4 92 := by rw [h5, ups_at _ (by decide)]
      have ht5 : RTt s5 t := (ht2.fa q4.2.1).same (by rw [u5]) (by rw [h5, ups_at _ (by decide)])
      refine (R_must (e := e + 2) (k := 4) ht5 (q4.1.same (fun k _ => by rw [u5])) (by decide) (by decide)).imp (fun _ s7 q7 => ?_)
      have o7 : ∀ o, o ≠ 92 → o ≠ 113 → s7 o = s o := fun o a1 a2 => by rw [q7.2.1 o a1, h5, ups_at _ a2, q4.2.1.1 o a1, o2 o a1]
      have k7 : s7 92 36 = b := by rw [q7.2.2 36 (by unfold Ka; omega), u5, q4.2.1.2 36 (by unfold Ka; omega)]; exact k2
      have n7 : ∀ i, i ≠ 8 * b + T 1 1 → s7 113 i = s 113 i := fun i a => by rw [q7.2.1 113 (by decide), h5, ups_k _ a, q4.2.1.1 113 (by decide), o2 113 (by decide)]
      have nt7 : NT s7 b T := by
        intro k i k0 k3 i0 i1
        have q := hN k i k0 k3 i0 i1
        unfold nmR at q ⊢
        rw [o7 112 (by decide) (by decide), o7 114 (by decide) (by decide)]
        by_cases y0 : k = 0
        · rw [if_pos y0] at q ⊢; exact q
        · by_cases y1 : k = 1
          · rw [if_neg y0, if_pos y1] at q ⊢
            rw [n7 _ (by rw [y1] at i1; omega)]; exact q
          · rw [if_neg y0, if_neg y1] at q ⊢; exact q
      refine (R_asked (e := e + 1) (k := 0) (bar := 0) (ht5.fa q7.2) q7.1 ⟨k7, hb⟩ (cn.same (o7 94 (by decide) (by decide)) (o7 97 (by decide) (by decide)) (o7 104 (by decide) (by decide))) nt7 (by decide) (by decide)).imp (fun r8 s9 q9 => ⟨⟨by omega, by omega⟩, fun s10 h10 => ?_⟩)
      have u10 : s10 92 = s9 92 := by rw [h10, ups_at _ (by decide)]
      have ht10 : RTt s10 t := ((ht5.fa q7.2).fa q9.2.1).same (by rw [u10]) (by rw [h10, ups_at _ (by decide)])
      refine (R_must (e := e + 2) (k := 5) ht10 (q9.1.same (fun k _ => by rw [u10])) (by decide) (by decide)).imp (fun _ s12 q12 => (R_number (e := e + 2) (ht10.fa q12.2) q12.1).imp (fun r13 s14 q14 => ⟨⟨by omega, by omega⟩, fun s14b h14b => ⟨⟨by omega, by omega⟩, fun s15 h15 => ?_⟩⟩))
      have u15 : s15 92 = s14 92 := by rw [h15, ups_at _ (by decide), h14b, ups_at _ (by decide)]
      have w15 : RRw s15 t (chS2 t T st) := q14.1.same (fun k _ => by rw [u15])
      have o15 : ∀ o, o ≠ 92 → o ≠ 113 → o ≠ 98 → o ≠ 99 → o ≠ 100 → s15 o = s o := fun o a1 a2 a3 a4 a5 => by rw [h15, ups_at _ a5, h14b, ups_at _ a4, q14.2.1.1 o a1, q12.2.1 o a1, h10, ups_at _ a3, q9.2.1.1 o a1, q7.2.1 o a1, h5, ups_at _ a2, q4.2.1.1 o a1, o2 o a1]
      have k15 : ∀ k, ¬ Ka k → s15 92 k = s 92 k := fun k a => by rw [u15, q14.2.1.2 k a, q12.2.2 k a, u10, q9.2.1.2 k a, q7.2.2 k a, u5, q4.2.1.2 k a, f2.2 k a]
      have vN : ∀ i, s15 113 i = if i = 8 * b + T 1 1 then r3 else s 113 i := fun i => by
        rw [h15, ups_at _ (by decide), h14b, ups_at _ (by decide), q14.2.1.1 113 (by decide), q12.2.1 113 (by decide), h10, ups_at _ (by decide), q9.2.1.1 113 (by decide), q7.2.1 113 (by decide), h5]
        by_cases y : i = 8 * b + T 1 1
        · rw [if_pos y, y, ups_eq]
        · rw [if_neg y, ups_k _ y, q4.2.1.1 113 (by decide), o2 113 (by decide)]
      have v1 : ∀ i, s15 98 i = if i = 8 * b + T 1 1 then r8 else s 98 i := fun i => by
        rw [h15, ups_at _ (by decide), h14b, ups_at _ (by decide), q14.2.1.1 98 (by decide), q12.2.1 98 (by decide), h10]
        by_cases y : i = 8 * b + T 1 1
        · rw [if_pos y, y, ups_eq]
        · rw [if_neg y, ups_k _ y, q9.2.1.1 98 (by decide), q7.2.1 98 (by decide), h5, ups_at _ (by decide), q4.2.1.1 98 (by decide), o2 98 (by decide)]
      have v2 : ∀ i, s15 99 i = if i = 8 * b + T 1 1 then r13 else s 99 i := fun i => by
        rw [h15, ups_at _ (by decide), h14b]
        by_cases y : i = 8 * b + T 1 1
        · rw [if_pos y, y, ups_eq]
        · rw [if_neg y, ups_k _ y, q14.2.1.1 99 (by decide), q12.2.1 99 (by decide), h10, ups_at _ (by decide), q9.2.1.1 99 (by decide), q7.2.1 99 (by decide), h5, ups_at _ (by decide), q4.2.1.1 99 (by decide), o2 99 (by decide)]
      have v3 : ∀ i, s15 100 i = if i = 8 * b + T 1 1 then -1 else s 100 i := fun i => by
        rw [h15]
        by_cases y : i = 8 * b + T 1 1
        · rw [if_pos y, y, ups_eq]
        · rw [if_neg y, ups_k _ y, h14b, ups_at _ (by decide), q14.2.1.1 100 (by decide), q12.2.1 100 (by decide), h10, ups_at _ (by decide), q9.2.1.1 100 (by decide), o7 100 (by decide) (by decide)]
      have u3 : ∀ s0 v, Fdb b s0 (ups s0 100 (8 * b + T 1 1) v) := fun s0 v => Fdb.up (by decide) (by decide) (by show 8 * b ≤ _ ∧ _ < 8 * b + 8; omega)
      have uN : ∀ s0 v, Fdb b s0 (ups s0 113 (8 * b + T 1 1) v) := fun s0 v => Fdb.up (by decide) (by decide) (by show 8 * b ≤ _ ∧ _ < 8 * b + 8; omega)
      have u1 : ∀ s0 v, Fdb b s0 (ups s0 98 (8 * b + T 1 1) v) := fun s0 v => Fdb.up (by decide) (by decide) (by show 8 * b ≤ _ ∧ _ < 8 * b + 8; omega)
      have u2 : ∀ s0 v, Fdb b s0 (ups s0 99 (8 * b + T 1 1) v) := fun s0 v => Fdb.up (by decide) (by decide) (by show 8 * b ≤ _ ∧ _ < 8 * b + 8; omega)
      have F15 : Fdb b s s15 := by
        have a5 := (f2.db.tr q4.2.1.db).tr (uN s4 r3)
        rw [← h5] at a5
        have a10 := ((a5.tr q7.2.db).tr q9.2.1.db).tr (u1 s9 r8)
        rw [← h10] at a10
        have a14 := ((a10.tr q12.2.db).tr q14.2.1.db).tr (u2 s14 r13)
        rw [← h14b] at a14
        have a15 := a14.tr (u3 s14b (-1))
        rw [← h15] at a15
        exact a15
      refine ⟨fun y => ⟨w15, F15, fun y2 => absurd (w15.2.1 y2).1.1 y, Or.inl (k15 35 (by unfold Ka; omega))⟩, fun y => ?_⟩
      have k36 : s15 92 36 = b := by rw [k15 36 (by unfold Ka; omega)]; exact h36
      have c15 : s15 97 b = T 1 1 := by rw [o15 97 (by decide) (by decide) (by decide) (by decide) (by decide)]; exact cK
      rw [k36, c15, w32_of (show _ ≤ T 1 1 + 1 by omega) (by omega)]
      refine ⟨⟨by omega, by omega⟩, ⟨by omega, by omega⟩, fun s16 h16 => ?_⟩
      have u16 : s16 92 = s15 92 := by rw [h16, ups_at _ (by decide)]
      have F16 : Fdb b s s16 := F15.tr (by rw [h16]; exact Fdb.up (by decide) (by decide) (by show 1 * b ≤ b ∧ b < 1 * b + 1; omega))
      refine ⟨w15.same (fun k _ => by rw [u16]), F16, fun gd T2 eT => ?_, Or.inl (by rw [u16]; exact k15 35 (by unfold Ka; omega))⟩
      have eo : ∀ o, o ≠ 92 → o ≠ 97 → o ≠ 113 → o ≠ 98 → o ≠ 99 → o ≠ 100 → s16 o = s o := fun o a0 a1 a2 a3 a4 a5 => by rw [h16, ups_at _ a1, o15 o a0 a2 a3 a4 a5]
      have z6 := g_num gd
      have z5 := g_own z6.1
      have z4 := g_knw z5
      have z3 := g_own z4.1
      have z2 := g_new z3
      have e8 := q9.2.2.1 z5
      have e13 := q14.2.2 gd
      have e3 := q4.2.2 z3
      have tO : ∀ a, a ≠ 1 → a ≠ 3 + 1 → a ≠ 8 → a ≠ 9 → T2 a = T a := fun a a1 a2 a3 a4 => by rw [eT]; unfold chT2; rw [zAdd_o a1 a2, ups_at _ a4, ups_at _ a3]
      have t1 : ∀ j, T2 1 j = if j = 1 then T 1 1 + 1 else T 1 j := fun j => by rw [eT]; unfold chT2; rw [zAdd_1 (by decide), ups_at _ (by decide), ups_at _ (by decide)]
      have tA : ∀ j, T2 8 j = if j = T 1 1 then r8 else T 8 j := fun j => by rw [eT]; unfold chT2; rw [zAdd_o (by decide) (by decide), ups_at _ (by decide), ups_if, e8]; rfl
      have tB : ∀ j, T2 9 j = if j = T 1 1 then r13 else T 9 j := fun j => by rw [eT]; unfold chT2; rw [zAdd_o (by decide) (by decide), ups_if, e13, ups_at _ (by decide)]; rfl
      have tN : ∀ j, T2 (3 + 1) j = if j = T 1 1 then vlT t (avS t (zLim (T 1 1) 8 st)).2 else T (3 + 1) j := fun j => by
        rw [eT]; unfold chT2 zAdd
        rw [ups_at _ (by decide), ups_at (o2 := 1) _ (by decide), ups_at (o2 := 1) _ (by decide), ups_if, ups_at _ (by decide), ups_at _ (by decide)]
      refine ⟨?_, ?_, ?_⟩
      · unfold RT RF at hR ⊢
        obtain ⟨r1, r2, r3', r4, r5, r6, r7, r8'⟩ := hR
        rw [tO 0 (by decide) (by decide) (by decide) (by decide), tO 6 (by decide) (by decide) (by decide) (by decide), tO 7 (by decide) (by decide) (by decide) (by decide), tO 10 (by decide) (by decide) (by decide) (by decide), tO 11 (by decide) (by decide) (by decide) (by decide), tO 12 (by decide) (by decide) (by decide) (by decide), tO 13 (by decide) (by decide) (by decide) (by decide), tO 14 (by decide) (by decide) (by decide) (by decide), tO 15 (by decide) (by decide) (by decide) (by decide), tO 17 (by decide) (by decide) (by decide) (by decide), tO 18 (by decide) (by decide) (by decide) (by decide), t1 0, t1 1, t1 2, if_pos rfl, if_neg (by decide), if_neg (by decide)]
        rw [eo 94 (by decide) (by decide) (by decide) (by decide) (by decide) (by decide), eo 95 (by decide) (by decide) (by decide) (by decide) (by decide) (by decide), eo 96 (by decide) (by decide) (by decide) (by decide) (by decide) (by decide), eo 101 (by decide) (by decide) (by decide) (by decide) (by decide) (by decide), eo 102 (by decide) (by decide) (by decide) (by decide) (by decide) (by decide), eo 103 (by decide) (by decide) (by decide) (by decide) (by decide) (by decide), eo 104 (by decide) (by decide) (by decide) (by decide) (by decide) (by decide), eo 105 (by decide) (by decide) (by decide) (by decide) (by decide) (by decide), eo 106 (by decide) (by decide) (by decide) (by decide) (by decide) (by decide), eo 107 (by decide) (by decide) (by decide) (by decide) (by decide) (by decide), eo 108 (by decide) (by decide) (by decide) (by decide) (by decide) (by decide), eo 109 (by decide) (by decide) (by decide) (by decide) (by decide) (by decide), eo 110 (by decide) (by decide) (by decide) (by decide) (by decide) (by decide), eo 111 (by decide) (by decide) (by decide) (by decide) (by decide) (by decide)]
        refine ⟨⟨r1.1, by rw [h16, ups_eq], r1.2.2⟩, r2, fun i i0 i1 => ?_, r4, fun f f0 f1 => ?_, r6, r7, r8'⟩
        · rw [h16, ups_at _ (by decide), ups_at _ (by decide), ups_at _ (by decide), v1, v2, v3, tA, tB]
          by_cases y : i = T 1 1
          · have y2 : 8 * b + i = 8 * b + T 1 1 := by omega
            rw [if_pos y2, if_pos y2, if_pos y2, if_pos y, if_pos y, y]
            exact ⟨rfl, rfl, (hw (T 1 1) (Int.le_refl _) lt).symm⟩
          · have y2 : ¬ 8 * b + i = 8 * b + T 1 1 := by omega
            rw [if_neg y2, if_neg y2, if_neg y2, if_neg y, if_neg y]; exact r3' i i0 (by omega)
        · have q := r5 f f0 f1
          exact ⟨⟨q.1.1, by omega⟩, ⟨q.2.1.1, by omega⟩, q.2.2⟩
      · intro k i k0 k3 i0 i1
        rw [t1] at i1
        by_cases y : k = 1
        · subst y
          rw [if_pos rfl] at i1
          unfold nmR
          rw [if_neg (by decide), if_pos rfl]
          rw [tN, h16, ups_at _ (by decide), vN]
          by_cases x : i = T 1 1
          · rw [if_pos x, if_pos (by omega)]
            exact ⟨_, _, e3.2.1, e3.2.2, e3.1⟩
          · rw [if_neg x, if_neg (by omega)]
            have := hN 1 i (by decide) (by decide) i0 (by omega)
            unfold nmR at this
            rw [if_neg (by decide), if_pos rfl] at this
            exact this
        · rw [if_neg y] at i1
          obtain ⟨l, L, a1, a2, a3⟩ := hN k i k0 k3 i0 i1
          refine ⟨l, L, a1, ?_, ?_⟩
          · rw [tO (3 + k) (by omega) (by omega) (by omega) (by omega)]; exact a2
          · unfold nmR at a3 ⊢
            by_cases w : k = 0
            · rw [if_pos w] at a3 ⊢
              rw [eo 112 (by decide) (by decide) (by decide) (by decide) (by decide) (by decide)]; exact a3
            · rw [if_neg w, if_neg y] at a3 ⊢
              rw [eo 114 (by decide) (by decide) (by decide) (by decide) (by decide) (by decide)]; exact a3
      · rw [tO 14 (by decide) (by decide) (by decide) (by decide), tO 17 (by decide) (by decide) (by decide) (by decide), u16, k15 35 (by unfold Ka; omega), eo 108 (by decide) (by decide) (by decide) (by decide) (by decide) (by decide)]
        exact hC
    · have bad : ¬ (st.1 = 0 ∧ x = 0) := fun u => by have := g1 u.1 u.2; omega
      have nz : (avS t (zLim (T 1 1) 8 st)).1 ≠ 0 := fun u => by
        have := (g_lim (g_av u)).2
        exact bad ⟨z, hx.1 (by omega)⟩
      have eb : chS2 t T st = avS t (zLim (T 1 1) 8 st) := by unfold chS2; rw [zNew_bad nz, zOwn_bad nz, zKnw_bad nz, zOwn_bad nz, zNum_bad nz]
      rw [eb]
      exact ⟨w2, f2.db, fun u => absurd u nz, Or.inl (f2.2 35 (by unfold Ka; omega))⟩
  refine S_X13_childing ?_
  rw [h36, cK]
  exact ⟨⟨by omega, by omega⟩, fun q => main 0 ⟨fun _ => rfl, fun u => absurd u q⟩, fun q => main 1 ⟨fun u => absurd q u, fun _ => rfl⟩⟩
end RLN2
