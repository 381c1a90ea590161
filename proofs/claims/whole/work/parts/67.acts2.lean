/-! acts: pull, undo of the class; years, go, pull, peace of the reference -/
theorem dropL_same : ∀ (n : Nat) (X Y : WX) (k : Int), X.1 = Y.1 → X.2.2 = Y.2.2 → (dropL n X k).1 = (dropL n Y k).1 ∧ (dropL n X k).2.2 = (dropL n Y k).2.2 := by
  intro n
  induction n with
  | zero => intro X Y k h1 h2; exact ⟨h1, h2⟩
  | succ n ih =>
    intro X Y k h1 h2
    show (dropL n (drop1 X k) (k + 1)).1 = (dropL n (drop1 Y k) (k + 1)).1 ∧ (dropL n (drop1 X k) (k + 1)).2.2 = (dropL n (drop1 Y k) (k + 1)).2.2
    refine ih _ _ _ ?_ ?_
    · unfold drop1
      rw [h1]
      split
      · exact h1
      · rfl
    · unfold drop1
      rw [h1, h2]
      split
      · exact h2
      · rfl
theorem fallX_same {T : Tn} : ∀ (m : Nat) (X Y : WX), X.1 = Y.1 → X.2.2 = Y.2.2 → (fallX T m X).1 = (fallX T m Y).1 ∧ (fallX T m X).2.2 = (fallX T m Y).2.2 := by
  intro m
  induction m with
  | zero => intro X Y h1 h2; exact ⟨h1, h2⟩
  | succ m ih =>
    intro X Y h1 h2
    show (if looS T X.1 = -1 then X else fallX T m (dropX X (looS T X.1))).1 = (if looS T Y.1 = -1 then Y else fallX T m (dropX Y (looS T Y.1))).1 ∧ (if looS T X.1 = -1 then X else fallX T m (dropX X (looS T X.1))).2.2 = (if looS T Y.1 = -1 then Y else fallX T m (dropX Y (looS T Y.1))).2.2
    rw [h1]
    split
    · exact ⟨h1, h2⟩
    · have d : (dropX X (looS T Y.1)).1 = (dropX Y (looS T Y.1)).1 ∧ (dropX X (looS T Y.1)).2.2 = (dropX Y (looS T Y.1)).2.2 := by
        unfold dropX
        rw [h1]
        exact dropL_same _ X Y _ h1 h2
      exact ih _ _ d.1 d.2
section ACTS2
variable {T : Tn} {A : Wd} {g : GT} {e : Nat} {s : Sg} {tw b u : Int} {U : Int → Wd}
theorem dwn_pop (hT : TOK T) (hW : WOK T A) {c : Int} (c0 : 0 ≤ c) (c8 : c < 8) (h3 : A 3 c ≠ -1) : (dwnX T A c).2.2 = popF (dwnX T A c).2.1 := by
  obtain ⟨⟨p0, p1⟩, hl⟩ := built_lie hW c0 c8 h3
  have w0 : Wq A 0 := ⟨by decide, fun c _ _ _ => by show Nat.testBit 0 _ = _; exact Nat.zero_testBit _⟩
  obtain ⟨d1, d2, d3, d4⟩ := dropX_pop (X := (A, 0, 0)) hW p0 p1 hl w0 (Int.le_refl 0) (by show (0 : Int) ≤ 900000; decide)
  have f := fallX_pop hT 8 (dropX (A, 0, 0) (A 3 c)) (dropX_spec (X := (A, 0, 0)) hW p0 p1 hl).1 d1 d3 (by show (dropX (A, 0, 0) (A 3 c)).2.2 + 4 * ((8 : Nat) : Int) ≤ 900000; have := d4; dsimp only at this; omega)
  have e0 : popF 0 = 0 := by decide
  have f2 := f.2.1
  dsimp only at d2
  unfold dwnX
  omega
theorem fallX_y (hT : TOK T) (hW : WOK T A) {c : Int} (c0 : 0 ≤ c) (c8 : c < 8) (h3 : A 3 c ≠ -1) : (dwnX T A c).1 0 1 = A 0 1 := by
  obtain ⟨⟨p0, p1⟩, hl⟩ := built_lie hW c0 c8 h3
  have d := dropX_spec (X := (A, 0, 0)) hW p0 p1 hl
  unfold dwnX
  rw [fallX_0 hT 8 _ d.1 1 (by decide), d.2.2.2.2.1 1 (by decide)]
def okU (T : Tn) (A : Wd) (c : Int) : Prop := (0 ≤ c ∧ c < T 1 1) ∧ A 3 c ≠ -1
theorem C_pull {c : Int} (hs : CS s tw T A u U) : Mw g (e + 6) M_X12_pull [(20, 1), (0, c)] s (fun r s' => (¬ okU T A c → r = -1 ∧ s' = ups s 91 3 (w32 (s 91 3 + 1))) ∧ (okU T A c → r = popF (dwnX T A c).2.1 ∧ CS s' tw T (dwnX T A c).1 (puN u) (puU u U A) ∧ Fr Ja s s')) := by
  have hW := hs.2.2.1
  have hx := hs.2.1
  have hT := hx.ok
  have b8 := hT.2.1
  refine S_X12_pull (fun _ => Mw.ex (C_isBuilt hs.1 hx) ⟨fun q => (C_saves hs).imp (fun _ s4 h4 s5 e5 => ?_), fun q => Mw.ex (C_refuse (by decide) (by decide)) ⟨fun _ => ⟨rfl, rfl⟩, fun z => ?_⟩⟩)
  · have ok : okU T A c := Classical.byContradiction (fun z => by
      have z : ¬ ((0 ≤ c ∧ c < T 1 1) ∧ A 3 c ≠ -1) := z
      rw [if_neg z] at q; omega)
    obtain ⟨ok1, ok2⟩ := id ok
    have x5 := h4.1.2.1.cz.cnf (x := 0)
    rw [← e5] at x5
    refine (C_pullOut x5 hW ok1.1 (by omega) ok2).imp (fun _ s7 h7 => ⟨fun z => absurd ok z, fun _ => ?_⟩)
    have d : (fallX T 8 (dropX (A, s4 48 10, 0) (A 3 c))).1 = (dwnX T A c).1 ∧ (fallX T 8 (dropX (A, s4 48 10, 0) (A 3 c))).2.2 = (dwnX T A c).2.2 := by
      have dd : (dropX (A, s4 48 10, 0) (A 3 c)).1 = (dropX (A, 0, 0) (A 3 c)).1 ∧ (dropX (A, s4 48 10, 0) (A 3 c)).2.2 = (dropX (A, 0, 0) (A 3 c)).2.2 := dropL_same _ (A, s4 48 10, 0) (A, 0, 0) _ rfl rfl
      exact fallX_same 8 _ _ dd.1 dd.2
    have x7 : CZ s7 48 tw T (fallX T 8 (dropX (A, s4 48 10, 0) (A 3 c))) (s4 48 12) := h7.1
    have fs : Fr Ja s s7 := by
      refine (h4.2.wk (fun o ho => Or.inr ho)).tr (Fr.tr (s2 := s5) ?_ (h7.2.wk (fun o ho => Or.inl ho)))
      rw [e5]; exact Fr.up (Or.inl Jw_0)
    refine ⟨?_, ⟨by rw [fs 1 Ja_n1]; exact hs.1, ?_, (dwnX_sb hT hW ok1.1 (by omega) ok2).2, hs.2.2.2.1, ?_, ?_, h4.1.2.2.2.2.2.2⟩, fs⟩
    · rw [show s7 48 11 = (fallX T 8 (dropX (A, s4 48 10, 0) (A 3 c))).2.2 from x7.2.2.1, d.2, dwn_pop hT hW ok1.1 (by omega) ok2]
    · rw [← d.1]; exact x7.1
    · rw [fallX_y hT hW ok1.1 (by omega) ok2]; exact hs.2.2.2.2.1
    · have u5 : UC s5 (puN u) (puU u U A) := h4.1.2.2.2.2.2.1.fr (J := fun o => o = 48) (by rw [e5]; exact Fr.up rfl) (fun o o1 o2 => by omega)
      exact u5.fr h7.2 (fun o o1 o2 => by unfold Jw Jk; omega)
  · exact absurd z (fun y => by
      have y : (0 ≤ c ∧ c < T 1 1) ∧ A 3 c ≠ -1 := y
      rw [if_pos y] at q; omega)
theorem C_undo (hs : CS s tw T A u U) : Mw g (e + 4) M_X12_undo [(20, 1)] s (fun r s' => (u = 0 → r = 0 ∧ s' = ups s 91 4 (w32 (s 91 4 + 1))) ∧ (u ≠ 0 → r = 1 ∧ ∃ B, CS s' tw T B (u - 1) U ∧ WEq (U (u - 1)) B ∧ B 0 9 = U (u - 1) 0 9 ∧ (∀ k, 0 ≤ k → k < 60 → B 6 k = U (u - 1) 6 k) ∧ Fr Ja s s')) := by
  obtain ⟨h1, h2, h3, h4, h5, h6, h7⟩ := id hs
  have u2 := h6.2.1
  refine S_X12_undo ((C_takeBack h2 h6 h7).imp (fun r s2 q => ⟨fun z => ⟨fun y => ?_, fun y => ⟨rfl, ?_⟩⟩, fun z => ?_⟩))
  · exact absurd (q.1 y).1 z
  · obtain ⟨_, B, c1, c2, c3, c4, c5, c6, c7⟩ := q.2 y
    have hv := h7 (u - 1) (by omega) (by omega)
    have fs : Fr Ja s s2 := c7.wk (fun o ho => by
      rcases ho with z | z
      · exact Or.inl z
      · exact Or.inr (by omega))
    exact ⟨B, ⟨by rw [fs 1 Ja_n1]; exact h1, c1, c2, h4, by rw [c3.1]; exact hv.2, c6, fun i i0 i1 => h7 i i0 (by omega)⟩, c3, c4, c5, fs⟩
  · by_cases y : u = 0
    · obtain ⟨_, es⟩ := q.1 y
      refine Mw.ex (C_refuse (by decide) (by decide)) ⟨fun _ => ⟨rfl, by rw [es]⟩, fun k => absurd y k⟩
    · exact absurd z (by rw [(q.2 y).1]; decide)
/-- the reference: its town, its world, its undo worlds -/
def RS (s : Sg) (b : Int) (T : Tn) (A : Wd) (u : Int) (U : Int → Wd) : Prop := RZ True s 0 b T A ∧ WOK T A ∧ A 0 1 ≤ 999 ∧ UR s b T u U ∧ UOK T u U
def Jf (k : Int) : Prop := k = 58 ∨ k = 59 ∨ k = 63 ∨ k = 64
theorem R_saves (h : RS s b T A u U) : Mw g (e + 2) M_X13_keeps [(21, 92)] s (fun _ s' => RS s' b T A (puN u) (puU u U A) ∧ Fg Jf s s') := by
  obtain ⟨h1, h2, h3, h4, h5⟩ := h
  exact (R_keeps h1 h4 h2 h5).imp (fun _ s' q => ⟨⟨q.1, h2, h3, q.2.1, h5.pu h2 h3 h4.2.1.2⟩, q.2.2.wk (fun k hk => by unfold Jf; omega)⟩)
theorem UR.fm {s2 : Sg} (h : UR s b T u U) (hO : UOK T u U) (hf : Fm 0 s s2) : UR s2 b T u U := h.fp hO (Fp.of hf) (by decide) (by decide)
theorem yR_loop {n : Int} (n1 : n ≤ 1000) : ∀ (m : Nat) (k f : Int) (s0 : Sg) (A : Wd), k + m = n → 0 ≤ k → RS s0 b T A u U → A 0 1 + m ≤ 999 → 0 ≤ f → f + 8 * m ≤ 100000 → Fg Jf s s0 →
    P_X13_years_25 g (e + 8) (fun r s' => r = f + aheB T m A ∧ RS s' b T (aheA T m A) u U ∧ Fg Jf s s') s0 n f k := by
  intro m
  induction m with
  | zero =>
    intro k f s0 A hk k0 h hy f0 f1 hf
    exact S_X13_years_25 ⟨fun _ => ⟨(Int.add_zero _).symm, h, hf⟩, fun q => absurd (by omega) q⟩
  | succ m ih =>
    intro k f s0 A hk k0 h hy f0 f1 hf
    obtain ⟨h1, h2, h3, h4, h5⟩ := h
    have hT := h1.1.ok
    have p := pasA_R (fr := 0) (f := 0) (b := 0) (by omega) hT h2 (by decide) (by decide)
    have py := pasR_y (fr := 0) hT h2 (by omega)
    refine S_X13_years_25 ⟨fun q => by omega, fun _ => (R_passes h1 h2 (by omega)).imp (fun _ s2 q => ?_)⟩
    obtain ⟨c1, c2, c3, c4⟩ := q
    rw [c2, w32_of (by omega) (by omega), w32_of (by omega) (by omega)]
    have := ih (k + 1) (f + (pasR T 0 A).2) s2 (pasR T 0 A).1 (by omega) (by omega) ⟨c1, pasR_ok hT h2 (by omega), by rw [py.1]; omega, h4.fp h5 c4 (by decide) (by decide), h5⟩ (by rw [py.1]; omega) (by omega) (by omega) (hf.tr (Fg.fp c4 (by unfold Jf; omega) (by unfold Jf; omega)))
    rw [Int.add_assoc] at this
    exact this
theorem R_years {n : Int} (h : RS s b T A u U) : Mw g (e + 9) M_X13_years [(21, 92), (0, n)] s (fun r s' => (¬ okY A n → r = -1 ∧ s' = ups s 121 2 (w32 (s 121 2 + 1))) ∧ (okY A n → r = aheB T n.toNat A ∧ RS s' b T (aheA T n.toNat A) (puN u) (puU u U A) ∧ Fg Jf s s')) := by
  have hW := h.2.1
  have a1 := hW.1.1
  refine S_X13_years (fun _ => Mw.ex (R_isAhead h.1.1 hW (by decide) (by decide)) ⟨fun q => (R_saves h).imp (fun _ s4 h4 => ?_), fun q => Mw.ex (R_refuses (by decide) (by decide)) ⟨fun _ => ⟨rfl, rfl⟩, fun z => ?_⟩⟩)
  · have ok : okY A n := Classical.byContradiction (fun z => by
      have z : ¬ ((1 ≤ n ∧ n ≤ 100) ∧ A 0 1 + n ≤ 999) := z
      rw [if_neg z] at q; omega)
    obtain ⟨⟨ok1, ok2⟩, ok3⟩ := id ok
    refine Wp.imp (yR_loop (g := g) (e := e) (s := s) (n := n) (by omega) n.toNat 0 0 s4 A (by omega) (by decide) h4.1 (by omega) (by decide) (by omega) h4.2) (fun r s' q => ⟨fun z => absurd ok z, fun _ => ⟨?_, q.2.1, q.2.2⟩⟩)
    rw [q.1, Int.zero_add]
  · exact absurd z (fun y => by
      have y : (1 ≤ n ∧ n ≤ 100) ∧ A 0 1 + n ≤ 999 := y
      rw [if_pos y] at q; omega)
theorem R_go {c h : Int} (hs : RS s b T A u U) : Mw g (e + 3) M_X13_go [(21, 92), (0, c), (0, h)] s (fun r s' => (¬ okG T A c h → r = 0 ∧ s' = ups s 121 3 (w32 (s 121 3 + 1))) ∧ (okG T A c h → r = 1 ∧ RS s' b T (ups A 1 c h) (puN u) (puU u U A) ∧ Fg Jf s s')) := by
  have hW := hs.2.1
  have hx := hs.1.1
  have hT := hx.ok
  have b8 := hT.2.1
  have b6 := hT.1
  have no : ¬ okG T A c h → P_X13_go_26 g (e + 2) (fun r s' => (¬ okG T A c h → r = 0 ∧ s' = ups s 121 3 (w32 (s 121 3 + 1))) ∧ (okG T A c h → r = 1 ∧ RS s' b T (ups A 1 c h) (puN u) (puU u U A) ∧ Fg Jf s s')) s := fun hn =>
    S_X13_go_26 (Mw.ex (R_refuses (by decide) (by decide)) ⟨fun _ => ⟨fun _ => ⟨rfl, rfl⟩, fun z => absurd z hn⟩, fun z => absurd (by decide) z⟩)
  refine S_X13_go (fun _ _ => Mw.ex (R_isChild hx.1) ⟨fun q => no (fun z => ?_), fun q => Mw.ex (R_isHome hx.1) ⟨fun q2 => no (fun z => ?_), fun q2 => ?_⟩⟩)
  · rw [if_pos z.1] at q; omega
  · rw [if_pos z.2.1] at q2; omega
  · have hc : 0 ≤ c ∧ c < T 1 1 := Classical.byContradiction (fun z => by rw [if_neg z] at q; omega)
    have hh : 0 ≤ h ∧ h < T 1 0 := Classical.byContradiction (fun z => by rw [if_neg z] at q2; omega)
    have e1 := (hx.c hc.1 hc.2).1
    rw [show 8 * (0 : Int) + c = c by omega] at e1
    rw [e1]
    refine ⟨⟨by omega, by omega⟩, fun q3 => (R_saves hs).imp (fun _ s6 h6 => ⟨⟨by omega, by omega⟩, fun s7 e7 => ⟨fun z => absurd ⟨hc, hh, q3⟩ z, fun _ => ⟨rfl, ?_, ?_⟩⟩⟩), fun q3 => no (fun z => z.2.2 q3)⟩
    · have f7 : Fm 0 s6 s7 := by rw [e7]; exact Fm.up (by omega)
      refine ⟨⟨⟨h6.1.1.1.1.fv f7, h6.1.1.1.2.1, ?_, ?_, ?_, fun k k0 k1 => ?_⟩, fun _ => ?_⟩, hW.upA hh.1 (by omega) (fun _ => hh.2), by rw [ups_o _ (by decide)]; exact hs.2.2.1, h6.1.2.2.2.1.fm h6.1.2.2.2.2 f7, h6.1.2.2.2.2⟩
      · rw [e7, ups_o _ (by decide), ups_o _ (by decide)]; exact h6.1.1.1.2.2.1
      · rw [e7, ups_o _ (by decide), ups_o _ (by decide)]; exact h6.1.1.1.2.2.2.1
      · rw [e7, ups_o _ (by decide)]; exact h6.1.1.1.2.2.2.2.1
      · obtain ⟨x1, x2, x3, x4, x5⟩ := h6.1.1.1.c k0 k1
        have es : ∀ o, o ≠ 124 → s7 o = s6 o := fun o ho => by rw [e7, ups_at _ ho]
        have ea : ∀ o, o ≠ 1 → ups A 1 c h o = A o := fun o ho => ups_at _ ho
        rw [es 125 (by decide), es 126 (by decide), es 127 (by decide), es 128 (by decide), ea 2 (by decide), ea 3 (by decide)]
        refine ⟨?_, x2, x3, x4, x5⟩
        rw [e7]
        by_cases z : k = c
        · rw [z, show 8 * (0 : Int) + c = c by omega, ups_eq, ups_eq]
        · rw [ups_k _ (by omega), ups_k _ z]; exact x1
      · have hr := (h6.1.1.2 trivial).eq (B := ups A 1 c h) (ups_o _ (by decide)) (ups_at _ (by decide))
        unfold RK at hr ⊢
        rw [e7, ups_at s6 (show (129 : Int) ≠ 124 by decide), ups_at s6 (show (130 : Int) ≠ 124 by decide)]
        exact hr
    · rw [e7]; exact h6.2.tr (Fg.fm (v := 0) (Fm.up (by omega)))
theorem R_peace {f : Int} (hs : RS s b T A u U) : Mw g (e + 3) M_X13_peace [(21, 92), (0, f)] s (fun r s' => (¬ okP2 T A f → r = 0 ∧ s' = ups s 121 3 (w32 (s 121 3 + 1))) ∧ (okP2 T A f → r = 1 ∧ RS s' b T (reA A (bShl 1 f)) (puN u) (puU u U A) ∧ Fg Jf s s')) := by
  have hW := hs.2.1
  have hx := hs.1.1
  have hb := hx.b2
  have b13 := hx.ok.2.2.2.1
  have a02 := hW.1.2.1
  have no : ¬ okP2 T A f → P_X13_peace_32 g (e + 2) (fun r s' => (¬ okP2 T A f → r = 0 ∧ s' = ups s 121 3 (w32 (s 121 3 + 1))) ∧ (okP2 T A f → r = 1 ∧ RS s' b T (reA A (bShl 1 f)) (puN u) (puU u U A) ∧ Fg Jf s s')) s := fun hn =>
    S_X13_peace_32 (Mw.ex (R_refuses (by decide) (by decide)) ⟨fun _ => ⟨fun _ => ⟨rfl, rfl⟩, fun z => absurd z hn⟩, fun z => absurd (by decide) z⟩)
  refine S_X13_peace (fun _ => ?_)
  rw [hx.bk, hx.rt.1.2.2.2, w32_of (by omega) (by omega)]
  refine ⟨⟨by omega, by omega⟩, Mw.ex R_is ⟨fun q => no (fun z => ?_), fun q => ?_⟩⟩
  · have := z.1
    rw [if_pos (by omega)] at q
    omega
  · have hf : 0 ≤ f ∧ f ≤ T 0 13 - 1 := Classical.byContradiction (fun z => by rw [if_neg z] at q; omega)
    have hbit := bAnd_bit (a := A 0 2) (k := f) a02.1 (by omega) hf.1 (by omega)
    have sb := bS10 (f := f) hf.1 (by omega)
    rw [hx.2.2.2.1]
    refine Mw.ex (R_has2 a02.1 (by omega) hf.1 (by omega)) ⟨fun q2 => (R_saves hs).imp (fun _ s6 h6 s7 e7 => ?_), fun q2 => no (fun z => by rw [hbit.mp z.2] at q2; simp at q2)⟩
    have hop : bAnd (A 0 2) (bShl 1 f) = 0 := by
      refine hbit.mpr ?_
      cases y : (A 0 2).toNat.testBit f.toNat
      · rfl
      · rw [y] at q2; simp at q2
    rw [h6.1.1.1.2.2.2.1] at e7
    have f7 : Fm 0 s6 s7 := by rw [e7]; exact Fm.up (by omega)
    refine ⟨fun z => absurd ⟨by omega, hop⟩ z, fun _ => ⟨rfl, ⟨⟨⟨h6.1.1.1.1.fv f7, h6.1.1.1.2.1, ?_, ?_, ?_, fun k k0 k1 => ?_⟩, fun _ => ?_⟩, hW.en sb.1 sb.2, by rw [show reA A (bShl 1 f) 0 1 = A 0 1 from ups_k _ (by decide)]; exact hs.2.2.1, h6.1.2.2.2.1.fm h6.1.2.2.2.2 f7, h6.1.2.2.2.2⟩, ?_⟩⟩
    · rw [e7, ups_o _ (by decide), show reA A (bShl 1 f) 0 1 = A 0 1 from ups_k _ (by decide)]; exact h6.1.1.1.2.2.1
    · rw [e7, ups_eq, show reA A (bShl 1 f) 0 2 = bOr (A 0 2) (bShl 1 f) from ups_eq _ _ _ _]
    · rw [e7, ups_o _ (by decide)]; exact h6.1.1.1.2.2.2.2.1
    · have es : ∀ o, o ≠ 123 → s7 o = s6 o := fun o ho => by rw [e7, ups_at _ ho]
      have ea : ∀ a, a ≠ 0 → reA A (bShl 1 f) a = A a := fun a ha => ups_at _ ha
      rw [es 124 (by decide), es 125 (by decide), es 126 (by decide), es 127 (by decide), es 128 (by decide), ea 1 (by decide), ea 2 (by decide), ea 3 (by decide)]
      exact h6.1.1.1.c k0 k1
    · have hr := (h6.1.1.2 trivial).eq (B := reA A (bShl 1 f)) (ups_k _ (by decide)) (ups_at _ (by decide))
      unfold RK at hr ⊢
      rw [e7, ups_at s6 (show (129 : Int) ≠ 123 by decide), ups_at s6 (show (130 : Int) ≠ 123 by decide)]
      exact hr
    · rw [e7]; exact h6.2.tr (Fg.fm (v := 0) (Fm.up (by omega)))
theorem R_pull {c : Int} (hs : RS s b T A u U) : Mw g (e + 7) M_X13_pull [(21, 92), (0, c)] s (fun r s' => (¬ okU T A c → r = -1 ∧ s' = ups s 121 3 (w32 (s 121 3 + 1))) ∧ (okU T A c → r = popF (dwnX T A c).2.1 ∧ RS s' b T (dwnX T A c).1 (puN u) (puU u U A) ∧ Fg Jf s s')) := by
  have hW := hs.2.1
  have hx := hs.1.1
  have hT := hx.ok
  have b8 := hT.2.1
  have no : ¬ okU T A c → P_X13_pull_18 g (e + 6) (fun r s' => (¬ okU T A c → r = -1 ∧ s' = ups s 121 3 (w32 (s 121 3 + 1))) ∧ (okU T A c → r = popF (dwnX T A c).2.1 ∧ RS s' b T (dwnX T A c).1 (puN u) (puU u U A) ∧ Fg Jf s s')) s := fun hn =>
    S_X13_pull_18 (Mw.ex (R_refuses (by decide) (by decide)) ⟨fun _ => ⟨rfl, rfl⟩, fun z => absurd z hn⟩)
  refine S_X13_pull (fun _ => Mw.ex (R_isChild hx.1) ⟨fun q => no (fun z => ?_), fun q => ?_⟩)
  · rw [if_pos z.1] at q; omega
  · have hc : 0 ≤ c ∧ c < T 1 1 := Classical.byContradiction (fun z => by rw [if_neg z] at q; omega)
    have c8 : c < 8 := by omega
    have hp := waP_n (pl_in hW.2.1 hc.1 c8)
    refine Mw.ex (R_inWall hx hc.1 hc.2) ⟨fun q2 => (R_saves hs).imp (fun _ s6 h6 => ?_), fun q2 => no (fun z => z.2 (hp.mp q2))⟩
    have h3 : A 3 c ≠ -1 := fun y => q2 (hp.mpr y)
    obtain ⟨⟨p0, p1⟩, hl⟩ := built_lie hW hc.1 c8 h3
    refine (R_takesDown h6.1.1 hW hc.1 hc.2 h3).imp (fun r7 s8 h8 => ?_)
    have d1 := (dropX_spec (X := (A, 0, 0)) hW p0 p1 hl).1
    refine (R_falls h8.2.1 d1).imp (fun r9 s10 h10 => ?_)
    have db := (dropX_bit (A := A) hW p0 p1 hl).1
    have fw := fallX_w (T := T) 8 (dropX (A, 0, 0) (A 3 c)) ⟨by omega, by omega⟩
    have er : bOr r7 r9 = (dwnX T A c).2.1 := by rw [h8.1, h10.1]; unfold dwnX; rw [fw.2]
    have sb := (dwnX_sb hT hW hc.1 c8 h3).1.1
    rw [er]
    refine Mw.ex (R_bits sb.1 (by omega)) ⟨fun z => absurd ⟨hc, h3⟩ z, fun _ => ⟨rfl, ⟨?_, (dwnX_sb hT hW hc.1 c8 h3).2, by rw [fallX_y hT hW hc.1 c8 h3]; exact hs.2.2.1, (h6.1.2.2.2.1.fm h6.1.2.2.2.2 h8.2.2).fm h6.1.2.2.2.2 h10.2.2, h6.1.2.2.2.2⟩, (h6.2.tr (Fg.fm h8.2.2)).tr (Fg.fm h10.2.2)⟩⟩
    have := h10.2.1
    unfold dwnX
    rw [fw.1]
    exact this
end ACTS2
