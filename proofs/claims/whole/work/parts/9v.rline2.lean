/-! statements of the reference: homes and walls -/
def szB (o : Int) : Int := if o = 94 ∨ o = 97 ∨ o = 101 ∨ o = 104 then 1 else if o = 95 ∨ o = 96 ∨ o = 112 then 6 else if o = 98 ∨ o = 99 ∨ o = 100 ∨ o = 113 then 8 else if o = 102 ∨ o = 103 then 10 else if o = 105 ∨ o = 106 ∨ o = 114 then 4 else if o = 107 then 5 else if o = 108 ∨ o = 109 then 2 else 1600
/-- the bank in the making is changed, the other left alone -/
def Fdb (b : Int) (s s2 : Sg) : Prop := (∀ o, o ≠ 92 → (o < 94 ∨ 120 < o) → s2 o = s o) ∧ (∀ k, ¬ Ka k → k ≠ 35 → k ≠ 37 → k ≠ 43 → k ≠ 44 → k ≠ 46 → k ≠ 47 → s2 92 k = s 92 k) ∧ ∀ o i, 94 ≤ o → o ≤ 114 → (i < szB o * b ∨ szB o * b + szB o ≤ i) → s2 o i = s o i
/-- the draft of a bank -/
def RD (s : Sg) (b : Int) (T : Tn) : Prop := RT s b T ∧ NT s b T ∧ (0 ≤ s 92 35 ∧ (0 < T 14 2 → s 108 (2 * b) + T 14 2 ≤ s 92 35) ∧ (0 < T 17 2 → s 108 (2 * b + 1) + T 17 2 ≤ s 92 35))
def RQ (s : Sg) (t : Tp) (b : Int) (st2 : Int × Int) (R : Tn → Prop) : Int → Sg → Prop := fun _ s2 => RRw s2 t st2 ∧ Fdb b s s2 ∧ (st2.1 = 0 → ∀ T2, R T2 → RD s2 b T2) ∧ (s2 92 35 = s 92 35 ∨ (st2.1 = 0 → s2 92 35 ≤ st2.2))
def RLn (s : Sg) (t : Tp) (b : Int) (T : Tn) (st : Int × Int) : Prop := RTt s t ∧ RRs s t st ∧ s 92 36 = b ∧ (b = 0 ∨ b = 1) ∧ RD s b T ∧ TOK T
section RLN
variable {g : GT} {e : Nat} {s : Sg} {t : Tp} {st : Int × Int} {T : Tn} {b : Int}
theorem Fdb.rf : Fdb b s s := ⟨fun _ _ _ => rfl, fun _ _ _ _ _ _ _ _ => rfl, fun _ _ _ _ _ => rfl⟩
theorem Fdb.tr {s2 s3 : Sg} (h : Fdb b s s2) (h2 : Fdb b s2 s3) : Fdb b s s3 := ⟨fun o a c => (h2.1 o a c).trans (h.1 o a c), fun k a1 a2 a3 a4 a5 a6 a7 => (h2.2.1 k a1 a2 a3 a4 a5 a6 a7).trans (h.2.1 k a1 a2 a3 a4 a5 a6 a7), fun o i a c d => (h2.2.2 o i a c d).trans (h.2.2 o i a c d)⟩
theorem Fa.db {s2 : Sg} (h : Fa s s2) : Fdb b s s2 := ⟨fun o a _ => h.1 o a, fun k a _ _ _ _ _ _ => h.2 k a, fun o i a _ _ => by rw [h.1 o (by omega)]⟩
theorem Fdb.up {o i v : Int} (h1 : 94 ≤ o) (h2 : o ≤ 114) (hi : szB o * b ≤ i ∧ i < szB o * b + szB o) : Fdb b s (ups s o i v) := by
  refine ⟨fun p a c => ups_at _ (by omega), fun k _ _ _ _ _ _ _ => ups_o _ (by omega), fun p j a c d => ?_⟩
  by_cases z : p = o
  · rw [z, ups_k _ (by rw [z] at d; omega)]
  · rw [ups_at _ z]
theorem RT.cn (h : RT s b T) (hT : TOK T) : RCn s b T := ⟨⟨h.1.1, hT.1⟩, ⟨h.1.2.1, hT.2.1⟩, ⟨h.1.2.2.1, hT.2.2.1⟩⟩
theorem RCn.same {s2 : Sg} (h : RCn s b T) (e1 : s2 94 = s 94) (e2 : s2 97 = s 97) (e3 : s2 104 = s 104) : RCn s2 b T := by unfold RCn; rw [e1, e2, e3]; exact h
theorem NT.same {s2 : Sg} (h : NT s b T) (e1 : s2 112 = s 112) (e2 : s2 113 = s 113) (e3 : s2 114 = s 114) : NT s2 b T := by unfold NT nmR; rw [e1, e2, e3]; exact h
theorem l2_bad {k m w1 w2 lo hi : Int} (z : (avS t (zLim (T 1 k) m st)).1 ≠ 0) : l2S t T k m w1 w2 lo hi st = avS t (zLim (T 1 k) m st) := by
  unfold l2S
  rw [zNew_bad z, zOwn_bad z, zNum_bad z, zOwn_bad z, zNum_bad z]
theorem lim_eq {x c m : Int} (hx : (c ≠ m → x = 0) ∧ (c = m → x = 1)) (hc : c ≤ m) : (if x = 0 then st else flS1 6 st) = zLim c m st := by
  unfold zLim
  by_cases z : c = m
  · rw [hx.2 z, if_neg (by decide), if_neg (by omega)]
  · rw [hx.1 z, if_pos rfl, if_pos (by omega)]
theorem R_homing (h : RLn s t b T st) (z : st.1 = 0) : Mw g (e + 6) M_X13_homing [(21, 92)] s (RQ s t b (l2S t T 0 6 1 2 0 9 st) (fun T2 => T2 = l2T t T 0 6 1 2 0 9 6 7 st)) := by
  obtain ⟨ht, hr, h36, hb, ⟨hR, hN, hC⟩, hT⟩ := h
  have cn := hR.cn hT
  have cK : s 94 b = T 1 0 := cn.1.1
  have kb : 0 ≤ T 1 0 ∧ T 1 0 ≤ 6 := cn.1.2
  have main : ∀ x : Int, (T 1 0 ≠ 6 → x = 0) ∧ (T 1 0 = 6 → x = 1) → P_X13_homing_20 g (e + 5) (RQ s t b (l2S t T 0 6 1 2 0 9 st) (fun T2 => T2 = l2T t T 0 6 1 2 0 9 6 7 st)) s x := fun x hx => by
    refine S_X13_homing_20 ((R_counts (e := e + 2) ht hr).imp (fun r1 s2 q2 => ?_))
    rw [lim_eq hx kb.2] at q2
    obtain ⟨w2, f2, g1, g2⟩ := q2
    have o2 : ∀ o, o ≠ 92 → s2 o = s o := f2.1
    have k2 : s2 92 36 = b := by rw [f2.2 36 (by unfold Ka; omega)]; exact h36
    refine ⟨fun r0 => ?_, fun r0 => ?_⟩
    · have x0 : x = 0 := Classical.byContradiction (fun u => r0 (g2 (fun v => u v.2)))
      have lt : T 1 0 < 6 := by
        apply Classical.byContradiction
        intro u
        have := hx.2 (by omega)
        omega
      have ht2 := ht.fa f2
      have ix : w32 (w32 (6 * s2 92 36) + s2 94 (s2 92 36)) = 6 * b + T 1 0 := by
        rw [k2, o2 94 (by decide), cK, w32_of (show _ ≤ 6 * b by omega) (by omega), w32_of (by omega) (by omega)]
      rw [ix, k2]
      refine ⟨⟨by omega, by omega⟩, (R_fresh (e := e + 1) ht2 w2 ⟨k2, hb⟩ (cn.same (o2 94 (by decide)) (o2 97 (by decide)) (o2 104 (by decide))) (hN.same (o2 112 (by decide)) (o2 113 (by decide)) (o2 114 (by decide)))).imp (fun r3 s4 q4 => ⟨⟨by omega, by omega⟩, fun s5 h5 => ?_⟩)⟩
      have u5 : s5 92 = s4 92 := by rw [h5, ups_at _ (by decide)]
      have ht5 : RTt s5 t := (ht2.fa q4.2.1).same (by rw [u5]) (by rw [h5, ups_at _ (by decide)])
      refine (R_must (e := e + 2) (k := 1) ht5 (q4.1.same (fun k _ => by rw [u5])) (by decide) (by decide)).imp (fun _ s7 q7 => (R_number (e := e + 2) (ht5.fa q7.2) q7.1).imp (fun r8 s9 q9 => ⟨⟨by omega, by omega⟩, fun s10 h10 => ?_⟩))
      have u10 : s10 92 = s9 92 := by rw [h10, ups_at _ (by decide)]
      have ht10 : RTt s10 t := ((ht5.fa q7.2).fa q9.2.1).same (by rw [u10]) (by rw [h10, ups_at _ (by decide)])
      refine (R_must (e := e + 2) (k := 2) ht10 (q9.1.same (fun k _ => by rw [u10])) (by decide) (by decide)).imp (fun _ s12 q12 => (R_number (e := e + 2) (ht10.fa q12.2) q12.1).imp (fun r13 s14 q14 => ⟨⟨by omega, by omega⟩, fun s15 h15 => ?_⟩))
      have u15 : s15 92 = s14 92 := by rw [h15, ups_at _ (by decide)]
      have w15 : RRw s15 t (l2S t T 0 6 1 2 0 9 st) := q14.1.same (fun k _ => by rw [u15])
      have o15 : ∀ o, o ≠ 92 → o ≠ 112 → o ≠ 95 → o ≠ 96 → s15 o = s o := fun o a1 a2 a3 a4 => by rw [h15, ups_at _ a4, q14.2.1.1 o a1, q12.2.1 o a1, h10, ups_at _ a3, q9.2.1.1 o a1, q7.2.1 o a1, h5, ups_at _ a2, q4.2.1.1 o a1, o2 o a1]
      have k15 : ∀ k, ¬ Ka k → s15 92 k = s 92 k := fun k a => by rw [u15, q14.2.1.2 k a, q12.2.2 k a, u10, q9.2.1.2 k a, q7.2.2 k a, u5, q4.2.1.2 k a, f2.2 k a]
      have vN : ∀ i, s15 112 i = if i = 6 * b + T 1 0 then r3 else s 112 i := fun i => by
        rw [h15, ups_at _ (by decide), q14.2.1.1 112 (by decide), q12.2.1 112 (by decide), h10, ups_at _ (by decide), q9.2.1.1 112 (by decide), q7.2.1 112 (by decide), h5]
        by_cases y : i = 6 * b + T 1 0
        · rw [if_pos y, y, ups_eq]
        · rw [if_neg y, ups_k _ y, q4.2.1.1 112 (by decide), o2 112 (by decide)]
      have v1 : ∀ i, s15 95 i = if i = 6 * b + T 1 0 then r8 else s 95 i := fun i => by
        rw [h15, ups_at _ (by decide), q14.2.1.1 95 (by decide), q12.2.1 95 (by decide), h10]
        by_cases y : i = 6 * b + T 1 0
        · rw [if_pos y, y, ups_eq]
        · rw [if_neg y, ups_k _ y, q9.2.1.1 95 (by decide), q7.2.1 95 (by decide), h5, ups_at _ (by decide), q4.2.1.1 95 (by decide), o2 95 (by decide)]
      have v2 : ∀ i, s15 96 i = if i = 6 * b + T 1 0 then r13 else s 96 i := fun i => by
        rw [h15]
        by_cases y : i = 6 * b + T 1 0
        · rw [if_pos y, y, ups_eq]
        · rw [if_neg y, ups_k _ y, q14.2.1.1 96 (by decide), q12.2.1 96 (by decide), h10, ups_at _ (by decide), q9.2.1.1 96 (by decide), q7.2.1 96 (by decide), h5, ups_at _ (by decide), q4.2.1.1 96 (by decide), o2 96 (by decide)]
      have uN : ∀ s0 v, Fdb b s0 (ups s0 112 (6 * b + T 1 0) v) := fun s0 v => Fdb.up (by decide) (by decide) (by show 6 * b ≤ _ ∧ _ < 6 * b + 6; omega)
      have u1 : ∀ s0 v, Fdb b s0 (ups s0 95 (6 * b + T 1 0) v) := fun s0 v => Fdb.up (by decide) (by decide) (by show 6 * b ≤ _ ∧ _ < 6 * b + 6; omega)
      have u2 : ∀ s0 v, Fdb b s0 (ups s0 96 (6 * b + T 1 0) v) := fun s0 v => Fdb.up (by decide) (by decide) (by show 6 * b ≤ _ ∧ _ < 6 * b + 6; omega)
      have F15 : Fdb b s s15 := by
        have a5 := (f2.db.tr q4.2.1.db).tr (uN s4 r3)
        rw [← h5] at a5
        have a10 := ((a5.tr q7.2.db).tr q9.2.1.db).tr (u1 s9 r8)
        rw [← h10] at a10
        have a15 := ((a10.tr q12.2.db).tr q14.2.1.db).tr (u2 s14 r13)
        rw [← h15] at a15
        exact a15
      refine ⟨fun y => ⟨w15, F15, fun y2 => absurd (w15.2.1 y2).1.1 y, Or.inl (k15 35 (by unfold Ka; omega))⟩, fun y => ?_⟩
      have k36 : s15 92 36 = b := by rw [k15 36 (by unfold Ka; omega)]; exact h36
      have c15 : s15 94 b = T 1 0 := by rw [o15 94 (by decide) (by decide) (by decide) (by decide)]; exact cK
      rw [k36, c15, w32_of (show _ ≤ T 1 0 + 1 by omega) (by omega)]
      refine ⟨⟨by omega, by omega⟩, ⟨by omega, by omega⟩, fun s16 h16 => ?_⟩
      have u16 : s16 92 = s15 92 := by rw [h16, ups_at _ (by decide)]
      have F16 : Fdb b s s16 := F15.tr (by rw [h16]; exact Fdb.up (by decide) (by decide) (by show 1 * b ≤ b ∧ b < 1 * b + 1; omega))
      refine ⟨w15.same (fun k _ => by rw [u16]), F16, fun gd T2 eT => ?_, Or.inl (by rw [u16]; exact k15 35 (by unfold Ka; omega))⟩
      have eo : ∀ o, o ≠ 92 → o ≠ 94 → o ≠ 112 → o ≠ 95 → o ≠ 96 → s16 o = s o := fun o a0 a1 a2 a3 a4 => by rw [h16, ups_at _ a1, o15 o a0 a2 a3 a4]
      have z6 := g_num gd
      have z5 := g_own z6.1
      have z4 := g_num z5
      have z3 := g_own z4.1
      have z2 := g_new z3
      have e8 := q9.2.2 z5
      have e13 := q14.2.2 gd
      have e3 := q4.2.2 z3
      have tO : ∀ a, a ≠ 1 → a ≠ 3 + 0 → a ≠ 6 → a ≠ 7 → T2 a = T a := fun a a1 a2 a3 a4 => by rw [eT]; unfold l2T; rw [zAdd_o a1 a2, ups_at _ a4, ups_at _ a3]
      have t1 : ∀ j, T2 1 j = if j = 0 then T 1 0 + 1 else T 1 j := fun j => by rw [eT]; unfold l2T; rw [zAdd_1 (by decide), ups_at _ (by decide), ups_at _ (by decide)]
      have tA : ∀ j, T2 6 j = if j = T 1 0 then r8 else T 6 j := fun j => by rw [eT]; unfold l2T; rw [zAdd_o (by decide) (by decide), ups_at _ (by decide), ups_if, e8]; rfl
      have tB : ∀ j, T2 7 j = if j = T 1 0 then r13 else T 7 j := fun j => by rw [eT]; unfold l2T; rw [zAdd_o (by decide) (by decide), ups_if, e13, ups_at _ (by decide)]; rfl
      have tN : ∀ j, T2 (3 + 0) j = if j = T 1 0 then vlT t (avS t (zLim (T 1 0) 6 st)).2 else T (3 + 0) j := fun j => by
        rw [eT]; unfold l2T zAdd
        rw [ups_at _ (by decide), ups_at (o2 := 1) _ (by decide), ups_at (o2 := 1) _ (by decide), ups_if, ups_at _ (by decide), ups_at _ (by decide)]
      refine ⟨?_, ?_, ?_⟩
      · unfold RT RF at hR ⊢
        obtain ⟨r1, r2, r3', r4, r5, r6, r7, r8'⟩ := hR
        rw [tO 0 (by decide) (by decide) (by decide) (by decide), tO 8 (by decide) (by decide) (by decide) (by decide), tO 9 (by decide) (by decide) (by decide) (by decide), tO 10 (by decide) (by decide) (by decide) (by decide), tO 11 (by decide) (by decide) (by decide) (by decide), tO 12 (by decide) (by decide) (by decide) (by decide), tO 13 (by decide) (by decide) (by decide) (by decide), tO 14 (by decide) (by decide) (by decide) (by decide), tO 15 (by decide) (by decide) (by decide) (by decide), tO 17 (by decide) (by decide) (by decide) (by decide), tO 18 (by decide) (by decide) (by decide) (by decide), t1 0, t1 1, t1 2, if_pos rfl, if_neg (by decide), if_neg (by decide)]
        rw [eo 97 (by decide) (by decide) (by decide) (by decide) (by decide), eo 98 (by decide) (by decide) (by decide) (by decide) (by decide), eo 99 (by decide) (by decide) (by decide) (by decide) (by decide), eo 100 (by decide) (by decide) (by decide) (by decide) (by decide), eo 101 (by decide) (by decide) (by decide) (by decide) (by decide), eo 102 (by decide) (by decide) (by decide) (by decide) (by decide), eo 103 (by decide) (by decide) (by decide) (by decide) (by decide), eo 104 (by decide) (by decide) (by decide) (by decide) (by decide), eo 105 (by decide) (by decide) (by decide) (by decide) (by decide), eo 106 (by decide) (by decide) (by decide) (by decide) (by decide), eo 107 (by decide) (by decide) (by decide) (by decide) (by decide), eo 108 (by decide) (by decide) (by decide) (by decide) (by decide), eo 109 (by decide) (by decide) (by decide) (by decide) (by decide), eo 110 (by decide) (by decide) (by decide) (by decide) (by decide), eo 111 (by decide) (by decide) (by decide) (by decide) (by decide)]
        refine ⟨⟨by rw [h16, ups_eq], r1.2⟩, fun i i0 i1 => ?_, r3', r4, r5, r6, r7, r8'⟩
        rw [h16, ups_at _ (by decide), ups_at _ (by decide), v1, v2, tA, tB]
        by_cases y : i = T 1 0
        · have y2 : 6 * b + i = 6 * b + T 1 0 := by omega
          rw [if_pos y2, if_pos y2, if_pos y, if_pos y]; exact ⟨rfl, rfl⟩
        · have y2 : ¬ 6 * b + i = 6 * b + T 1 0 := by omega
          rw [if_neg y2, if_neg y2, if_neg y, if_neg y]; exact r2 i i0 (by omega)
      · intro k i k0 k3 i0 i1
        rw [t1] at i1
        by_cases y : k = 0
        · subst y
          rw [if_pos rfl] at i1
          unfold nmR
          rw [if_pos rfl]
          rw [tN, h16, ups_at _ (by decide), vN]
          by_cases x : i = T 1 0
          · rw [if_pos x, if_pos (by omega)]
            exact ⟨_, _, e3.2.1, e3.2.2, e3.1⟩
          · rw [if_neg x, if_neg (by omega)]
            have := hN 0 i (by decide) (by decide) i0 (by omega)
            unfold nmR at this
            rw [if_pos rfl] at this
            exact this
        · rw [if_neg y] at i1
          obtain ⟨l, L, a1, a2, a3⟩ := hN k i k0 k3 i0 i1
          refine ⟨l, L, a1, ?_, ?_⟩
          · rw [tO (3 + k) (by omega) (by omega) (by omega) (by omega)]; exact a2
          · unfold nmR at a3 ⊢
            rw [if_neg y] at a3 ⊢
            rw [eo 113 (by decide) (by decide) (by decide) (by decide) (by decide), eo 114 (by decide) (by decide) (by decide) (by decide) (by decide)]
            exact a3
      · rw [tO 14 (by decide) (by decide) (by decide) (by decide), tO 17 (by decide) (by decide) (by decide) (by decide), u16, k15 35 (by unfold Ka; omega), eo 108 (by decide) (by decide) (by decide) (by decide) (by decide)]
        exact hC
    · have bad : ¬ (st.1 = 0 ∧ x = 0) := fun u => by have := g1 u.1 u.2; omega
      have nz : (avS t (zLim (T 1 0) 6 st)).1 ≠ 0 := fun u => by
        have := (g_lim (g_av u)).2
        exact bad ⟨z, hx.1 (by omega)⟩
      rw [l2_bad nz]
      exact ⟨w2, f2.db, fun u => absurd u nz, Or.inl (f2.2 35 (by unfold Ka; omega))⟩
  refine S_X13_homing ?_
  rw [h36, cK]
  exact ⟨⟨by omega, by omega⟩, fun q => main 0 ⟨fun _ => rfl, fun u => absurd u q⟩, fun q => main 1 ⟨fun u => absurd q u, fun _ => rfl⟩⟩
theorem R_walling (h : RLn s t b T st) (z : st.1 = 0) : Mw g (e + 6) M_X13_walling [(21, 92)] s (RQ s t b (l2S t T 2 4 9 10 1 4 st) (fun T2 => T2 = l2T t T 2 4 9 10 1 4 11 12 st)) := by
  obtain ⟨ht, hr, h36, hb, ⟨hR, hN, hC⟩, hT⟩ := h
  have cn := hR.cn hT
  have cK : s 104 b = T 1 2 := cn.2.2.1
  have kb : 0 ≤ T 1 2 ∧ T 1 2 ≤ 4 := cn.2.2.2
  have main : ∀ x : Int, (T 1 2 ≠ 4 → x = 0) ∧ (T 1 2 = 4 → x = 1) → P_X13_walling_19 g (e + 5) (RQ s t b (l2S t T 2 4 9 10 1 4 st) (fun T2 => T2 = l2T t T 2 4 9 10 1 4 11 12 st)) s x := fun x hx => by
    refine S_X13_walling_19 ((R_counts (e := e + 2) ht hr).imp (fun r1 s2 q2 => ?_))
    rw [lim_eq hx kb.2] at q2
    obtain ⟨w2, f2, g1, g2⟩ := q2
    have o2 : ∀ o, o ≠ 92 → s2 o = s o := f2.1
    have k2 : s2 92 36 = b := by rw [f2.2 36 (by unfold Ka; omega)]; exact h36
    refine ⟨fun r0 => ?_, fun r0 => ?_⟩
    · have x0 : x = 0 := Classical.byContradiction (fun u => r0 (g2 (fun v => u v.2)))
      have lt : T 1 2 < 4 := by
        apply Classical.byContradiction
        intro u
        have := hx.2 (by omega)
        omega
      have ht2 := ht.fa f2
      have ix : w32 (w32 (4 * s2 92 36) + s2 104 (s2 92 36)) = 4 * b + T 1 2 := by
        rw [k2, o2 104 (by decide), cK, w32_of (show _ ≤ 4 * b by omega) (by omega), w32_of (by omega) (by omega)]
      rw [ix, k2]
      refine ⟨⟨by omega, by omega⟩, (R_fresh (e := e + 1) ht2 w2 ⟨k2, hb⟩ (cn.same (o2 94 (by decide)) (o2 97 (by decide)) (o2 104 (by decide))) (hN.same (o2 112 (by decide)) (o2 113 (by decide)) (o2 114 (by decide)))).imp (fun r3 s4 q4 => ⟨⟨by omega, by omega⟩, fun s5 h5 => ?_⟩)⟩
      have u5 : s5 92 = s4 92 := by rw [h5, ups_at _ (by decide)]
      have ht5 : RTt s5 t := (ht2.fa q4.2.1).same (by rw [u5]) (by rw [h5, ups_at _ (by decide)])
      refine (R_must (e := e + 2) (k := 9) ht5 (q4.1.same (fun k _ => by rw [u5])) (by decide) (by decide)).imp (fun _ s7 q7 => (R_number (e := e + 2) (ht5.fa q7.2) q7.1).imp (fun r8 s9 q9 => ⟨⟨by omega, by omega⟩, fun s10 h10 => ?_⟩))
      have u10 : s10 92 = s9 92 := by rw [h10, ups_at _ (by decide)]
      have ht10 : RTt s10 t := ((ht5.fa q7.2).fa q9.2.1).same (by rw [u10]) (by rw [h10, ups_at _ (by decide)])
      refine (R_must (e := e + 2) (k := 10) ht10 (q9.1.same (fun k _ => by rw [u10])) (by decide) (by decide)).imp (fun _ s12 q12 => (R_number (e := e + 2) (ht10.fa q12.2) q12.1).imp (fun r13 s14 q14 => ⟨⟨by omega, by omega⟩, fun s15 h15 => ?_⟩))
      have u15 : s15 92 = s14 92 := by rw [h15, ups_at _ (by decide)]
      have w15 : RRw s15 t (l2S t T 2 4 9 10 1 4 st) := q14.1.same (fun k _ => by rw [u15])
      have o15 : ∀ o, o ≠ 92 → o ≠ 114 → o ≠ 105 → o ≠ 106 → s15 o = s o := fun o a1 a2 a3 a4 => by rw [h15, ups_at _ a4, q14.2.1.1 o a1, q12.2.1 o a1, h10, ups_at _ a3, q9.2.1.1 o a1, q7.2.1 o a1, h5, ups_at _ a2, q4.2.1.1 o a1, o2 o a1]
      have k15 : ∀ k, ¬ Ka k → s15 92 k = s 92 k := fun k a => by rw [u15, q14.2.1.2 k a, q12.2.2 k a, u10, q9.2.1.2 k a, q7.2.2 k a, u5, q4.2.1.2 k a, f2.2 k a]
      have vN : ∀ i, s15 114 i = if i = 4 * b + T 1 2 then r3 else s 114 i := fun i => by
        rw [h15, ups_at _ (by decide), q14.2.1.1 114 (by decide), q12.2.1 114 (by decide), h10, ups_at _ (by decide), q9.2.1.1 114 (by decide), q7.2.1 114 (by decide), h5]
        by_cases y : i = 4 * b + T 1 2
        · rw [if_pos y, y, ups_eq]
        · rw [if_neg y, ups_k _ y, q4.2.1.1 114 (by decide), o2 114 (by decide)]
      have v1 : ∀ i, s15 105 i = if i = 4 * b + T 1 2 then r8 else s 105 i := fun i => by
        rw [h15, ups_at _ (by decide), q14.2.1.1 105 (by decide), q12.2.1 105 (by decide), h10]
        by_cases y : i = 4 * b + T 1 2
        · rw [if_pos y, y, ups_eq]
        · rw [if_neg y, ups_k _ y, q9.2.1.1 105 (by decide), q7.2.1 105 (by decide), h5, ups_at _ (by decide), q4.2.1.1 105 (by decide), o2 105 (by decide)]
      have v2 : ∀ i, s15 106 i = if i = 4 * b + T 1 2 then r13 else s 106 i := fun i => by
        rw [h15]
        by_cases y : i = 4 * b + T 1 2
        · rw [if_pos y, y, ups_eq]
        · rw [if_neg y, ups_k _ y, q14.2.1.1 106 (by decide), q12.2.1 106 (by decide), h10, ups_at _ (by decide), q9.2.1.1 106 (by decide), q7.2.1 106 (by decide), h5, ups_at _ (by decide), q4.2.1.1 106 (by decide), o2 106 (by decide)]
      have uN : ∀ s0 v, Fdb b s0 (ups s0 114 (4 * b + T 1 2) v) := fun s0 v => Fdb.up (by decide) (by decide) (by show 4 * b ≤ _ ∧ _ < 4 * b + 4; omega)
      have u1 : ∀ s0 v, Fdb b s0 (ups s0 105 (4 * b + T 1 2) v) := fun s0 v => Fdb.up (by decide) (by decide) (by show 4 * b ≤ _ ∧ _ < 4 * b + 4; omega)
      have u2 : ∀ s0 v, Fdb b s0 (ups s0 106 (4 * b + T 1 2) v) := fun s0 v => Fdb.up (by decide) (by decide) (by show 4 * b ≤ _ ∧ _ < 4 * b + 4; omega)
      have F15 : Fdb b s s15 := by
        have a5 := (f2.db.tr q4.2.1.db).tr (uN s4 r3)
        rw [← h5] at a5
        have a10 := ((a5.tr q7.2.db).tr q9.2.1.db).tr (u1 s9 r8)
        rw [← h10] at a10
        have a15 := ((a10.tr q12.2.db).tr q14.2.1.db).tr (u2 s14 r13)
        rw [← h15] at a15
        exact a15
      refine ⟨fun y => ⟨w15, F15, fun y2 => absurd (w15.2.1 y2).1.1 y, Or.inl (k15 35 (by unfold Ka; omega))⟩, fun y => ?_⟩
      have k36 : s15 92 36 = b := by rw [k15 36 (by unfold Ka; omega)]; exact h36
      have c15 : s15 104 b = T 1 2 := by rw [o15 104 (by decide) (by decide) (by decide) (by decide)]; exact cK
      rw [k36, c15, w32_of (show _ ≤ T 1 2 + 1 by omega) (by omega)]
      refine ⟨⟨by omega, by omega⟩, ⟨by omega, by omega⟩, fun s16 h16 => ?_⟩
      have u16 : s16 92 = s15 92 := by rw [h16, ups_at _ (by decide)]
      have F16 : Fdb b s s16 := F15.tr (by rw [h16]; exact Fdb.up (by decide) (by decide) (by show 1 * b ≤ b ∧ b < 1 * b + 1; omega))
      refine ⟨w15.same (fun k _ => by rw [u16]), F16, fun gd T2 eT => ?_, Or.inl (by rw [u16]; exact k15 35 (by unfold Ka; omega))⟩
      have eo : ∀ o, o ≠ 92 → o ≠ 104 → o ≠ 114 → o ≠ 105 → o ≠ 106 → s16 o = s o := fun o a0 a1 a2 a3 a4 => by rw [h16, ups_at _ a1, o15 o a0 a2 a3 a4]
      have z6 := g_num gd
      have z5 := g_own z6.1
      have z4 := g_num z5
      have z3 := g_own z4.1
      have z2 := g_new z3
      have e8 := q9.2.2 z5
      have e13 := q14.2.2 gd
      have e3 := q4.2.2 z3
      have tO : ∀ a, a ≠ 1 → a ≠ 3 + 2 → a ≠ 11 → a ≠ 12 → T2 a = T a := fun a a1 a2 a3 a4 => by rw [eT]; unfold l2T; rw [zAdd_o a1 a2, ups_at _ a4, ups_at _ a3]
      have t1 : ∀ j, T2 1 j = if j = 2 then T 1 2 + 1 else T 1 j := fun j => by rw [eT]; unfold l2T; rw [zAdd_1 (by decide), ups_at _ (by decide), ups_at _ (by decide)]
      have tA : ∀ j, T2 11 j = if j = T 1 2 then r8 else T 11 j := fun j => by rw [eT]; unfold l2T; rw [zAdd_o (by decide) (by decide), ups_at _ (by decide), ups_if, e8]; rfl
      have tB : ∀ j, T2 12 j = if j = T 1 2 then r13 else T 12 j := fun j => by rw [eT]; unfold l2T; rw [zAdd_o (by decide) (by decide), ups_if, e13, ups_at _ (by decide)]; rfl
      have tN : ∀ j, T2 (3 + 2) j = if j = T 1 2 then vlT t (avS t (zLim (T 1 2) 4 st)).2 else T (3 + 2) j := fun j => by
        rw [eT]; unfold l2T zAdd
        rw [ups_at _ (by decide), ups_at (o2 := 1) _ (by decide), ups_at (o2 := 1) _ (by decide), ups_if, ups_at _ (by decide), ups_at _ (by decide)]
      refine ⟨?_, ?_, ?_⟩
      · unfold RT RF at hR ⊢
        obtain ⟨r1, r2, r3', r4, r5, r6, r7, r8'⟩ := hR
        rw [tO 0 (by decide) (by decide) (by decide) (by decide), tO 8 (by decide) (by decide) (by decide) (by decide), tO 9 (by decide) (by decide) (by decide) (by decide), tO 10 (by decide) (by decide) (by decide) (by decide), tO 6 (by decide) (by decide) (by decide) (by decide), tO 7 (by decide) (by decide) (by decide) (by decide), tO 13 (by decide) (by decide) (by decide) (by decide), tO 14 (by decide) (by decide) (by decide) (by decide), tO 15 (by decide) (by decide) (by decide) (by decide), tO 17 (by decide) (by decide) (by decide) (by decide), tO 18 (by decide) (by decide) (by decide) (by decide), t1 0, t1 1, t1 2, if_pos rfl, if_neg (by decide), if_neg (by decide)]
        rw [eo 94 (by decide) (by decide) (by decide) (by decide) (by decide), eo 95 (by decide) (by decide) (by decide) (by decide) (by decide), eo 96 (by decide) (by decide) (by decide) (by decide) (by decide), eo 97 (by decide) (by decide) (by decide) (by decide) (by decide), eo 98 (by decide) (by decide) (by decide) (by decide) (by decide), eo 99 (by decide) (by decide) (by decide) (by decide) (by decide), eo 100 (by decide) (by decide) (by decide) (by decide) (by decide), eo 101 (by decide) (by decide) (by decide) (by decide) (by decide), eo 102 (by decide) (by decide) (by decide) (by decide) (by decide), eo 103 (by decide) (by decide) (by decide) (by decide) (by decide), eo 107 (by decide) (by decide) (by decide) (by decide) (by decide), eo 108 (by decide) (by decide) (by decide) (by decide) (by decide), eo 109 (by decide) (by decide) (by decide) (by decide) (by decide), eo 110 (by decide) (by decide) (by decide) (by decide) (by decide), eo 111 (by decide) (by decide) (by decide) (by decide) (by decide)]
        refine ⟨⟨r1.1, r1.2.1, by rw [h16, ups_eq], r1.2.2.2⟩, r2, r3', fun i i0 i1 => ?_, r5, r6, r7, r8'⟩
        rw [h16, ups_at _ (by decide), ups_at _ (by decide), v1, v2, tA, tB]
        by_cases y : i = T 1 2
        · have y2 : 4 * b + i = 4 * b + T 1 2 := by omega
          rw [if_pos y2, if_pos y2, if_pos y, if_pos y]; exact ⟨rfl, rfl⟩
        · have y2 : ¬ 4 * b + i = 4 * b + T 1 2 := by omega
          rw [if_neg y2, if_neg y2, if_neg y, if_neg y]; exact r4 i i0 (by omega)
      · intro k i k0 k3 i0 i1
        rw [t1] at i1
        by_cases y : k = 2
        · subst y
          rw [if_pos rfl] at i1
          unfold nmR
          rw [if_neg (by decide), if_neg (by decide)]
          rw [tN, h16, ups_at _ (by decide), vN]
          by_cases x : i = T 1 2
          · rw [if_pos x, if_pos (by omega)]
            exact ⟨_, _, e3.2.1, e3.2.2, e3.1⟩
          · rw [if_neg x, if_neg (by omega)]
            have := hN 2 i (by decide) (by decide) i0 (by omega)
            unfold nmR at this
            rw [if_neg (by decide), if_neg (by decide)] at this
            exact this
        · rw [if_neg y] at i1
          obtain ⟨l, L, a1, a2, a3⟩ := hN k i k0 k3 i0 i1
          refine ⟨l, L, a1, ?_, ?_⟩
          · rw [tO (3 + k) (by omega) (by omega) (by omega) (by omega)]; exact a2
          · unfold nmR at a3 ⊢
            have k01 : k = 0 ∨ k = 1 := by omega
            rcases k01 with w | w
            · rw [if_pos w] at a3 ⊢
              rw [eo 112 (by decide) (by decide) (by decide) (by decide) (by decide)]; exact a3
            · rw [if_neg (by omega), if_pos w] at a3 ⊢
              rw [eo 113 (by decide) (by decide) (by decide) (by decide) (by decide)]; exact a3
      · rw [tO 14 (by decide) (by decide) (by decide) (by decide), tO 17 (by decide) (by decide) (by decide) (by decide), u16, k15 35 (by unfold Ka; omega), eo 108 (by decide) (by decide) (by decide) (by decide) (by decide)]
        exact hC
    · have bad : ¬ (st.1 = 0 ∧ x = 0) := fun u => by have := g1 u.1 u.2; omega
      have nz : (avS t (zLim (T 1 2) 4 st)).1 ≠ 0 := fun u => by
        have := (g_lim (g_av u)).2
        exact bad ⟨z, hx.1 (by omega)⟩
      rw [l2_bad nz]
      exact ⟨w2, f2.db, fun u => absurd u nz, Or.inl (f2.2 35 (by unfold Ka; omega))⟩
  refine S_X13_walling ?_
  rw [h36, cK]
  exact ⟨⟨by omega, by omega⟩, fun q => main 0 ⟨fun _ => rfl, fun u => absurd u q⟩, fun q => main 1 ⟨fun u => absurd q u, fun _ => rfl⟩⟩
end RLN
