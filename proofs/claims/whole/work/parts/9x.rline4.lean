/-! statements of the reference: what is set, twins -/
section RLN3
variable {g : GT} {e : Nat} {s s' : Sg} {t : Tp} {st : Int × Int} {T T2 : Tn} {b : Int}
theorem zrd_107 (h : RD s b T) (eo : ∀ o, 94 ≤ o → o ≤ 114 → o ≠ 107 → s' o = s o) (k35 : s' 92 35 = s 92 35) (tO : ∀ a, a ≠ 0 → T2 a = T a) (t13 : T2 0 13 = T 0 13) (h107 : ∀ k, 0 ≤ k → k < 5 → s' 107 (5 * b + k) = T2 0 (14 + k)) : RD s' b T2 := by
  obtain ⟨hR, hN, hC⟩ := h
  refine ⟨?_, ?_, ?_⟩
  · unfold RT RF at hR ⊢
    obtain ⟨r1, r2, r3, r4, r5, r6, r7, r8⟩ := hR
    rw [eo 94 (by decide) (by decide) (by decide), eo 95 (by decide) (by decide) (by decide), eo 96 (by decide) (by decide) (by decide), eo 97 (by decide) (by decide) (by decide), eo 98 (by decide) (by decide) (by decide), eo 99 (by decide) (by decide) (by decide), eo 100 (by decide) (by decide) (by decide), eo 101 (by decide) (by decide) (by decide), eo 102 (by decide) (by decide) (by decide), eo 103 (by decide) (by decide) (by decide), eo 104 (by decide) (by decide) (by decide), eo 105 (by decide) (by decide) (by decide), eo 106 (by decide) (by decide) (by decide), eo 108 (by decide) (by decide) (by decide), eo 109 (by decide) (by decide) (by decide), eo 110 (by decide) (by decide) (by decide), eo 111 (by decide) (by decide) (by decide), t13, tO 1 (by decide), tO 6 (by decide), tO 7 (by decide), tO 8 (by decide), tO 9 (by decide), tO 10 (by decide), tO 11 (by decide), tO 12 (by decide), tO 13 (by decide), tO 14 (by decide), tO 15 (by decide), tO 17 (by decide), tO 18 (by decide)]
    exact ⟨r1, r2, r3, r4, r5, h107, r7, r8⟩
  · have := hN.same (eo 112 (by decide) (by decide) (by decide)) (eo 113 (by decide) (by decide) (by decide)) (eo 114 (by decide) (by decide) (by decide))
    intro k i k0 k3 i0 i1
    rw [tO 1 (by decide)] at i1
    have q := this k i k0 k3 i0 i1
    rw [tO (3 + k) (by omega)]
    exact q
  · rw [tO 14 (by decide), tO 17 (by decide), k35, eo 108 (by decide) (by decide) (by decide)]
    exact hC
theorem zrd_100 (h : RD s b T) (eo : ∀ o, 94 ≤ o → o ≤ 114 → o ≠ 100 → s' o = s o) (k35 : s' 92 35 = s 92 35) (tO : ∀ a, a ≠ 10 → T2 a = T a) (h100 : ∀ c, 0 ≤ c → c < T 1 1 → s' 100 (8 * b + c) = T2 10 c) : RD s' b T2 := by
  obtain ⟨hR, hN, hC⟩ := h
  refine ⟨?_, ?_, ?_⟩
  · unfold RT RF at hR ⊢
    obtain ⟨r1, r2, r3, r4, r5, r6, r7, r8⟩ := hR
    rw [eo 94 (by decide) (by decide) (by decide), eo 95 (by decide) (by decide) (by decide), eo 96 (by decide) (by decide) (by decide), eo 97 (by decide) (by decide) (by decide), eo 98 (by decide) (by decide) (by decide), eo 99 (by decide) (by decide) (by decide), eo 107 (by decide) (by decide) (by decide), eo 101 (by decide) (by decide) (by decide), eo 102 (by decide) (by decide) (by decide), eo 103 (by decide) (by decide) (by decide), eo 104 (by decide) (by decide) (by decide), eo 105 (by decide) (by decide) (by decide), eo 106 (by decide) (by decide) (by decide), eo 108 (by decide) (by decide) (by decide), eo 109 (by decide) (by decide) (by decide), eo 110 (by decide) (by decide) (by decide), eo 111 (by decide) (by decide) (by decide), tO 0 (by decide), tO 1 (by decide), tO 6 (by decide), tO 7 (by decide), tO 8 (by decide), tO 9 (by decide), tO 11 (by decide), tO 12 (by decide), tO 13 (by decide), tO 14 (by decide), tO 15 (by decide), tO 17 (by decide), tO 18 (by decide)]
    exact ⟨r1, r2, fun c c0 c1 => ⟨(r3 c c0 c1).1, (r3 c c0 c1).2.1, h100 c c0 c1⟩, r4, r5, r6, r7, r8⟩
  · have := hN.same (eo 112 (by decide) (by decide) (by decide)) (eo 113 (by decide) (by decide) (by decide)) (eo 114 (by decide) (by decide) (by decide))
    intro k i k0 k3 i0 i1
    rw [tO 1 (by decide)] at i1
    have q := this k i k0 k3 i0 i1
    rw [tO (3 + k) (by omega)]
    exact q
  · rw [tO 14 (by decide), tO 17 (by decide), k35, eo 108 (by decide) (by decide) (by decide)]
    exact hC
/-- counts that has nothing to count -/
theorem R_count0 (ht : RTt s t) (hr : RRs s t st) (z : st.1 = 0) : Mw g (e + 3) M_X13_counts [(21, 92), (0, 0)] s (fun r s' => RRw s' t (avS t st) ∧ Fa s s' ∧ r = 1) :=
  (R_counts ht hr).imp (fun _ _ q => ⟨by have := q.1; rw [if_pos rfl] at this; exact this, q.2.1, q.2.2.1 z rfl⟩)
theorem RRw.g8 (h : RRw s t st) (z : st.1 = 0) : s 92 8 = 0 := (h.2.1 z).1.1
theorem R_telling {w hi : Int} (h : RLn s t b T st) (z : st.1 = 0) (hw : 2 ≤ w ∧ w ≤ 4) : Mw g (e + 6) M_X13_telling [(21, 92), (0, w), (0, 0), (0, hi)] s (RQ s t b (zNum t 0 hi (avS t st)) (fun T2 => T2 = ups T 0 (14 + w) (vlT t (avS t st).2))) := by
  obtain ⟨ht, hr, h36, hb, hD, hT⟩ := h
  refine S_X13_telling (fun _ _ _ => (R_count0 (e := e + 2) ht hr z).imp (fun r1 s2 q2 => ⟨fun _ => (R_number (e := e + 2) (ht.fa q2.2.1) q2.1).imp (fun r3 s4 q4 => ?_), fun q => by have := q2.2.2; omega⟩))
  have f4 := q2.2.1.tr q4.2.1
  have k4 : ∀ k, ¬ Ka k → s4 92 k = s 92 k := f4.2
  have k36 : s4 92 36 = b := by rw [k4 36 (by unfold Ka; omega)]; exact h36
  refine ⟨fun y => ⟨q4.1, f4.db, fun y2 => absurd (q4.1.g8 y2) y, Or.inl (k4 35 (by unfold Ka; omega))⟩, fun y => ?_⟩
  rw [k36, w32_of (show _ ≤ 5 * b by omega) (by omega), w32_of (show _ ≤ 5 * b + w by omega) (by omega)]
  refine ⟨⟨by omega, by omega⟩, fun s5 h5 => ?_⟩
  have u5 : s5 92 = s4 92 := by rw [h5, ups_at _ (by decide)]
  refine ⟨q4.1.same (fun k _ => by rw [u5]), f4.db.tr (by rw [h5]; exact Fdb.up (by decide) (by decide) (by show 5 * b ≤ _ ∧ _ < 5 * b + 5; omega)), fun gd T2 eT => ?_, Or.inl (by rw [u5]; exact k4 35 (by unfold Ka; omega))⟩
  have r3 := q4.2.2 gd
  refine zrd_107 hD (fun o o1 o2 o3 => by rw [h5, ups_at _ o3]; exact f4.1 o (by omega)) (by rw [u5]; exact k4 35 (by unfold Ka; omega)) (fun a ha => by rw [eT, ups_at _ ha]) (by rw [eT, ups_k _ (by omega)]) (fun k k0 k5 => ?_)
  rw [eT, h5, ups_if, ups_if]
  by_cases y : k = w
  · rw [if_pos (show 5 * b + k = 5 * b + w by omega), if_pos (show 14 + k = 14 + w by omega)]; exact r3
  · rw [if_neg (show ¬ 5 * b + k = 5 * b + w by omega), if_neg (show ¬ 14 + k = 14 + w by omega), f4.1 107 (by decide)]
    exact hD.1.2.2.2.2.2.1 k k0 k5
theorem R_raising (h : RLn s t b T st) (z : st.1 = 0) : Mw g (e + 6) M_X13_raising [(21, 92)] s (RQ s t b (raS t st) (fun T2 => T2 = raT t T st)) := by
  obtain ⟨ht, hr, h36, hb, hD, hT⟩ := h
  refine S_X13_raising ((R_count0 (e := e + 2) ht hr z).imp (fun r1 s2 q2 => ⟨fun _ => (R_number (e := e + 2) (ht.fa q2.2.1) q2.1).imp (fun r3 s4 q4 => ?_), fun q => by have := q2.2.2; omega⟩))
  have f4 := q2.2.1.tr q4.2.1
  refine (R_must (e := e + 2) (k := 14) (ht.fa f4) q4.1 (by decide) (by decide)).imp (fun _ s6 q6 => ?_)
  have f6 := f4.tr q6.2
  have main : ∀ x : Int, ((zOwn t 14 (zNum t 1 30 (avS t st))).1 = 0 → x = vlT t (avS t st).2 + 1) → P_X13_raising_39 g (e + 5) (RQ s t b (raS t st) (fun T2 => T2 = raT t T st)) s6 r3 x := fun x hx => by
    refine S_X13_raising_39 ((R_number (e := e + 2) (ht.fa f6) q6.1).imp (fun r1 s8 q8 => ?_))
    have es : zNum t x 30 (zOwn t ((14 : Nat) : Int) (zNum t 1 30 (avS t st))) = raS t st := by
      unfold raS
      by_cases y : (zOwn t 14 (zNum t 1 30 (avS t st))).1 = 0
      · rw [hx y]; rfl
      · have y' : (zOwn t ((14 : Nat) : Int) (zNum t 1 30 (avS t st))).1 ≠ 0 := y
        rw [zNum_bad y', zNum_bad y]; rfl
    rw [es] at q8
    have f8 := f6.tr q8.2.1
    have k36 : s8 92 36 = b := by rw [f8.2 36 (by unfold Ka; omega)]; exact h36
    refine ⟨fun y => ?_, fun y => ⟨q8.1, f8.db, fun y2 => absurd (by rw [q8.1.g8 y2]; decide) y, Or.inl (f8.2 35 (by unfold Ka; omega))⟩⟩
    rw [k36, w32_of (show _ ≤ 5 * b by omega) (by omega), w32_of (show _ ≤ 5 * b + 0 by omega) (by omega)]
    refine ⟨⟨by omega, by omega⟩, fun s9 h9 => ?_⟩
    have u9 : s9 92 = s8 92 := by rw [h9, ups_at _ (by decide)]
    rw [u9, k36, w32_of (show _ ≤ 5 * b by omega) (by omega), w32_of (show _ ≤ 5 * b + 1 by omega) (by omega)]
    refine ⟨⟨by omega, by omega⟩, fun s10 h10 => ?_⟩
    have u10 : s10 92 = s8 92 := by rw [h10, ups_at _ (by decide), u9]
    have U : ∀ s0 i v, 5 * b ≤ i → i < 5 * b + 5 → Fdb b s0 (ups s0 107 i v) := fun s0 i v a1 a2 => Fdb.up (by decide) (by decide) (by show 5 * b ≤ _ ∧ _ < 5 * b + 5; omega)
    refine ⟨q8.1.same (fun k _ => by rw [u10]), f8.db.tr (by rw [h10, h9]; exact (U _ _ _ (by omega) (by omega)).tr (U _ _ _ (by omega) (by omega))), fun gd T2 eT => ?_, Or.inl (by rw [u10]; exact f8.2 35 (by unfold Ka; omega))⟩
    have z4 := g_num gd
    have z2 := g_own z4.1
    have v3 := q4.2.2 z2
    have v1 := q8.2.2 gd
    refine zrd_107 hD (fun o o1 o2 o3 => by rw [h10, ups_at _ o3, h9, ups_at _ o3]; exact f8.1 o (by omega)) (by rw [u10]; exact f8.2 35 (by unfold Ka; omega)) (fun a ha => by rw [eT]; unfold raT; rw [ups_at _ ha, ups_at _ ha]) (by rw [eT]; unfold raT; rw [ups_k _ (by decide), ups_k _ (by decide)]) (fun k k0 k5 => ?_)
    rw [eT]
    unfold raT
    rw [h10, h9, ups_if, ups_if, ups_if, ups_if]
    by_cases y1 : k = 1
    · rw [if_pos (show 5 * b + k = 5 * b + 1 by omega), if_pos (show 14 + k = 15 by omega)]; exact v1
    · rw [if_neg (show ¬ 5 * b + k = 5 * b + 1 by omega), if_neg (show ¬ 14 + k = 15 by omega)]
      by_cases y0 : k = 0
      · rw [if_pos (show 5 * b + k = 5 * b + 0 by omega), if_pos (show 14 + k = 14 by omega)]; exact v3
      · rw [if_neg (show ¬ 5 * b + k = 5 * b + 0 by omega), if_neg (show ¬ 14 + k = 14 by omega), f8.1 107 (by decide)]
        exact hD.1.2.2.2.2.2.1 k k0 k5
  have bb : (zOwn t 14 (zNum t 1 30 (avS t st))).1 = 0 → r3 = vlT t (avS t st).2 ∧ 1 ≤ r3 ∧ r3 ≤ 30 := fun y => by
    have n := g_num (g_own y)
    have := q4.2.2 (g_own y)
    omega
  refine ⟨fun y => main _ (fun u => ?_), fun y => main 0 (fun u => ?_)⟩
  · have := bb u
    rw [w32_of (show _ ≤ r3 + 1 by omega) (by omega)]; omega
  · have := (q6.1.g8 u); omega
theorem rtw_loop {Q : Int → Sg → Prop} (h36 : s 92 36 = b) (hb : b = 0 ∨ b = 1) (h97 : s 97 b = T 1 1) (h8 : T 1 1 ≤ 8) (h100 : ∀ c, 0 ≤ c → c < T 1 1 → s 100 (8 * b + c) = T 10 c) : ∀ (n : Nat) (c a : Int), 0 ≤ c → c + n = T 1 1 → Q (twF T n c a) s → P_X13_twins_4 g e Q s a c := by
  intro n
  induction n with
  | zero =>
    intro c a c0 h hQ
    refine S_X13_twins_4 ?_
    rw [h36, h97]
    exact ⟨⟨by omega, by omega⟩, fun _ => hQ, fun q => absurd (by omega) q⟩
  | succ n ih =>
    intro c a c0 h hQ
    refine S_X13_twins_4 ?_
    rw [h36, h97, w32_of (show _ ≤ 8 * b by omega) (by omega), w32_of (show _ ≤ 8 * b + c by omega) (by omega), w32_of (show _ ≤ c + 1 by omega) (by omega), h100 c c0 (by omega)]
    have hQ : Q (twF T n (c + 1) (bOr a (if T 10 c = -1 then 0 else bShl 1 c))) s := hQ
    refine ⟨⟨by omega, by omega⟩, fun q => by omega, fun _ => ⟨⟨by omega, by omega⟩, fun q => ih (c + 1) _ (by omega) (by omega) ?_, fun q => ih (c + 1) _ (by omega) (by omega) ?_⟩⟩
    · rw [if_neg q] at hQ; exact hQ
    · rw [if_pos q] at hQ; exact hQ
theorem R_twins (h36 : s 92 36 = b) (hb : b = 0 ∨ b = 1) (hR : RT s b T) (hT : TOK T) : Mw g (e + 1) M_X13_twins [(21, 92)] s (Ex (twS T) s) := by
  have c1 := hT.2.1
  exact S_X13_twins (rtw_loop h36 hb hR.1.2.1 c1.2 (fun c c0 c1 => (hR.2.2.1 c c0 c1).2.2) (T 1 1).toNat 0 0 (Int.le_refl 0) (by omega) ⟨rfl, rfl⟩)
theorem RT.fa {s2 : Sg} (h : RT s b T) (f : Fa s s2) : RT s2 b T := h.fr (J := fun o => o = 92) (fun o ho => f.1 o ho) (fun o o1 o2 => by omega)
theorem R_twinning (h : RLn s t b T st) (z : st.1 = 0) : Mw g (e + 6) M_X13_twinning [(21, 92)] s (RQ s t b (p2S t T (twS T) (zTwB T) (avS t st)) (fun T2 => T2 = twP T (o1S t T (twS T) (avS t st)) (o2S t T (twS T) (zTwB T) (avS t st)))) := by
  obtain ⟨ht, hr, h36, hb, hD, hT⟩ := h
  have cn := hD.1.cn hT
  have c1 := hT.2.1
  have tb := twS_bd hT
  have F36 : ∀ s1, Fa s s1 → s1 92 36 = b := fun s1 f => by rw [f.2 36 (by unfold Ka; omega)]; exact h36
  have FN : ∀ s1, Fa s s1 → NT s1 b T := fun s1 f => hD.2.1.same (f.1 112 (by decide)) (f.1 113 (by decide)) (f.1 114 (by decide))
  have FC : ∀ s1, Fa s s1 → RCn s1 b T := fun s1 f => cn.same (f.1 94 (by decide)) (f.1 97 (by decide)) (f.1 104 (by decide))
  refine S_X13_twinning ((R_count0 (e := e + 2) ht hr z).imp (fun r1 s2 q2 => ⟨fun _ => ?_, fun q => by have := q2.2.2; omega⟩))
  have f2 := q2.2.1
  refine Mw.ex (R_twins (e := e + 4) (F36 s2 f2) hb (hD.1.fa f2) hT) ((R_asked (e := e + 1) (ht.fa f2) q2.1 ⟨F36 s2 f2, hb⟩ (FC s2 f2) (FN s2 f2) (by decide) ⟨tb.1, by omega⟩).imp (fun r5 s6 q6 => ?_))
  have f6 := f2.tr q6.2.1
  have r5b := q6.2.2.2
  have sb := sh_bd r5b
  have ob := or_bd tb sb
  refine Mw.ex (R_twins (e := e + 4) (F36 s6 f6) hb (hD.1.fa f6) hT) ((R_asked (e := e + 1) (ht.fa f6) q6.1 ⟨F36 s6 f6, hb⟩ (FC s6 f6) (FN s6 f6) (by decide) ⟨ob.1, by omega⟩).imp (fun r9 s10 q10 => ?_))
  have f10 := f6.tr q10.2.1
  have e5 : (p1S t T (twS T) (avS t st)).1 = 0 → r5 = o1S t T (twS T) (avS t st) := q6.2.2.1
  have es : zKnw t T 1 (bOr (twS T) (bShl 1 r5)) (zKnw t T 1 (twS T) (avS t st)) = p2S t T (twS T) (zTwB T) (avS t st) := by
    unfold p2S
    by_cases y : (p1S t T (twS T) (avS t st)).1 = 0
    · rw [e5 y]; rfl
    · rw [zKnw_bad y]; exact zKnw_bad y
  have w10 : RRw s10 t (p2S t T (twS T) (zTwB T) (avS t st)) := by rw [← es]; exact q10.1
  refine ⟨fun y => ?_, fun y => ⟨w10, f10.db, fun y2 => absurd (by rw [w10.g8 y2]; decide) y, Or.inl (f10.2 35 (by unfold Ka; omega))⟩⟩
  have r9b := q10.2.2.2
  rw [F36 s10 f10, w32_of (show _ ≤ 8 * b by omega) (by omega), w32_of (show _ ≤ 8 * b + r5 by omega) (by omega)]
  refine ⟨⟨by omega, by omega⟩, fun s11 h11 => ?_⟩
  have u11 : s11 92 = s10 92 := by rw [h11, ups_at _ (by decide)]
  rw [u11, F36 s10 f10, w32_of (show _ ≤ 8 * b by omega) (by omega), w32_of (show _ ≤ 8 * b + r9 by omega) (by omega)]
  refine ⟨⟨by omega, by omega⟩, fun s12 h12 => ?_⟩
  have u12 : s12 92 = s10 92 := by rw [h12, ups_at _ (by decide), u11]
  have U : ∀ s0 i v, 8 * b ≤ i → i < 8 * b + 8 → Fdb b s0 (ups s0 100 i v) := fun s0 i v a1 a2 => Fdb.up (by decide) (by decide) (by show 8 * b ≤ _ ∧ _ < 8 * b + 8; omega)
  refine ⟨w10.same (fun k _ => by rw [u12]), f10.db.tr (by rw [h12, h11]; exact (U _ _ _ (by omega) (by omega)).tr (U _ _ _ (by omega) (by omega))), fun gd T2 eT => ?_, Or.inl (by rw [u12]; exact f10.2 35 (by unfold Ka; omega))⟩
  have k2 := g_knw gd
  have e5 := e5 k2.1
  have e9 : r9 = o2S t T (twS T) (zTwB T) (avS t st) := by
    have := q10.2.2.1 (by rw [es]; exact gd)
    rw [this, e5]
    rfl
  refine zrd_100 hD (fun o o1 o2 o3 => by rw [h12, ups_at _ o3, h11, ups_at _ o3]; exact f10.1 o (by omega)) (by rw [u12]; exact f10.2 35 (by unfold Ka; omega)) (fun a ha => by rw [eT]; unfold twP; rw [ups_at _ ha, ups_at _ ha]) (fun c c0 cc => ?_)
  rw [eT, ← e5, ← e9]
  unfold twP
  rw [h12, h11, ups_if, ups_if, ups_if, ups_if]
  by_cases y1 : c = r9
  · rw [if_pos (show 8 * b + c = 8 * b + r9 by omega), if_pos y1]
  · rw [if_neg (show ¬ 8 * b + c = 8 * b + r9 by omega), if_neg y1]
    by_cases y0 : c = r5
    · rw [if_pos (show 8 * b + c = 8 * b + r5 by omega), if_pos y0]
    · rw [if_neg (show ¬ 8 * b + c = 8 * b + r5 by omega), if_neg y0, f10.1 100 (by decide)]
      exact (hD.1.2.2.1 c c0 cc).2.2
end RLN3
