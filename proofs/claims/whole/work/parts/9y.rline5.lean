/-! statements of the reference: feuds, formulas -/
def RBx (s : Sg) (b : Int) (T : Tn) : Prop := True ∧ (b = 0 ∨ b = 1) ∧ RT s b T ∧ TOK T ∧ True
section RLN4
variable {g : GT} {e : Nat} {s s' : Sg} {t : Tp} {st : Int × Int} {T T2 : Tn} {b : Int}
theorem fx_one {f c : Int} (h : RBx s b T) (f0 : 0 ≤ f) (f1 : f < T 0 13) (c0 : 0 ≤ c) (c8 : c < 8) :
    (bAnd (T 13 f) (bShl 1 c) = 0 ↔ ¬ (s 102 (10 * b + f) = c ∨ s 103 (10 * b + f) = c)) ∧ (s 102 (10 * b + f) = c → bAnd (T 13 f) (bXor (bShl 1 c) (-1)) = bShl 1 (s 103 (10 * b + f)) ∧ ¬ s 103 (10 * b + f) = c) ∧ (s 103 (10 * b + f) = c → bAnd (T 13 f) (bXor (bShl 1 c) (-1)) = bShl 1 (s 102 (10 * b + f)) ∧ ¬ s 102 (10 * b + f) = c) := by
  obtain ⟨r1, r2, r3, r4⟩ := h.2.2.1.2.2.2.2.1 f f0 f1
  have b8 := h.2.2.2.1.2.1
  obtain ⟨d1, d2, d3⟩ := fe_dec (s 102 (10 * b + f)).toNat (by omega) (s 103 (10 * b + f)).toNat (by omega) c.toNat (by omega) (by omega)
  rw [← r4, show ((c.toNat : Nat) : Int) = c by omega, show (((s 103 (10 * b + f)).toNat : Nat) : Int) = s 103 (10 * b + f) by omega, show (((s 102 (10 * b + f)).toNat : Nat) : Int) = s 102 (10 * b + f) by omega] at *
  refine ⟨?_, fun q => ⟨d2 (by omega), by omega⟩, fun q => ⟨d3 (by omega), by omega⟩⟩
  rw [d1]
  constructor <;> intro q <;> omega
theorem fxF_bd {c en : Int} (h : RBx s b T) (c0 : 0 ≤ c) (c8 : c < 8) : ∀ n : Nat, (n : Int) ≤ T 0 13 → 0 ≤ foeF T c en n ∧ foeF T c en n < 256 := by
  intro n
  have b8 := h.2.2.2.1.2.1
  induction n with
  | zero => intro _; exact ⟨Int.le_refl 0, by show (0 : Int) < 256; decide⟩
  | succ n ih =>
    intro hn
    have i := ih (by omega)
    obtain ⟨d1, d2, d3⟩ := fx_one (f := n) h (by omega) (by omega) c0 c8
    obtain ⟨r1, r2, r3, r4⟩ := h.2.2.1.2.2.2.2.1 n (by omega) (by omega)
    unfold foeF
    split
    · rename_i q
      have : s 102 (10 * b + n) = c ∨ s 103 (10 * b + n) = c := Classical.byContradiction (fun z => q.2 (d1.mpr z))
      rcases this with z | z
      · rw [(d2 z).1]
        have sb := bShl_8 r2.1 (by omega)
        exact bOr_lt (n := 8) i.1 i.2 sb.1 sb.2 (by decide)
      · rw [(d3 z).1]
        have sb := bShl_8 r1.1 (by omega)
        exact bOr_lt (n := 8) i.1 i.2 sb.1 sb.2 (by decide)
    · exact i
theorem fx_loop {c en : Int} (h : RBx s b T) (c0 : 0 ≤ c) (c8 : c < 8) (e0 : 0 ≤ en) (e1 : en < 1024) : ∀ (m n : Nat), (n : Int) + m = T 0 13 → P_X13_feuding_6 g (e + 1) (Ex (foeS T c en) s) s b c en (foeF T c en n) n := by
  intro m
  have b13 := h.2.2.2.1.2.2.2.1
  have hb := h.2.1
  induction m with
  | zero =>
    intro n hn
    refine S_X13_feuding_6 ?_
    rw [h.2.2.1.1.2.2.2]
    refine ⟨⟨by omega, by omega⟩, fun _ => ⟨?_, rfl⟩, fun q => absurd (by omega) q⟩
    unfold foeS
    rw [show (T 0 13).toNat = n by omega]
  | succ m ih =>
    intro n hn
    have i := ih (n + 1) (by omega)
    rw [show (((n + 1 : Nat)) : Int) = (n : Int) + 1 by omega] at i
    have fb := fxF_bd (en := en) h c0 c8 n (by omega)
    have fR : inR (foeF T c en n) := ⟨by omega, by omega⟩
    obtain ⟨d1, d2, d3⟩ := fx_one (f := n) h (by omega) (by omega) c0 c8
    have hbit := bAnd_bit (k := (n : Int)) e0 (by omega) (by omega) (by omega)
    refine S_X13_feuding_6 ?_
    rw [h.2.2.1.1.2.2.2, w32_of (show _ ≤ 10 * b by omega) (by omega), w32_of (show _ ≤ 10 * b + (n : Int) by omega) (by omega), w32_of (show _ ≤ (n : Int) + 1 by omega) (by omega)]
    have h65 : ∀ x1 : Int, (s 102 (10 * b + n) = c → x1 = bShl 1 (s 103 (10 * b + n))) → (¬ s 102 (10 * b + n) = c → x1 = 0) → bAnd en (bShl 1 n) = 0 → P_X13_feuding_65 g (e + 1) (Ex (foeS T c en) s) s b c en n (foeF T c en n) x1 := by
      intro x1 hx1 hx2 hop
      refine S_X13_feuding_65 ?_
      rw [w32_of (show _ ≤ 10 * b by omega) (by omega), w32_of (show _ ≤ 10 * b + (n : Int) by omega) (by omega), w32_of (show _ ≤ (n : Int) + 1 by omega) (by omega)]
      refine ⟨⟨by omega, by omega⟩, fun q => ?_, fun q => ⟨⟨by omega, by omega⟩, ?_⟩⟩
      · rw [bOr_0 bOr_in]
        by_cases z : s 102 (10 * b + n) = c
        · unfold foeF at i
          rw [if_pos ⟨hop, fun y => (d1.mp y) (Or.inl z)⟩, (d2 z).1] at i
          rw [hx1 z]
          exact i
        · unfold foeF at i
          rw [if_neg (fun y => y.2 (d1.mpr (fun u => u.elim z q)))] at i
          rw [hx2 z, bOr_0 fR]
          exact i
      · have z := (d3 q).2
        unfold foeF at i
        rw [if_pos ⟨hop, fun y => (d1.mp y) (Or.inr q)⟩, (d3 q).1] at i
        rw [hx2 z, bOr_0 fR]
        exact i
    refine ⟨⟨by omega, by omega⟩, fun q => by omega, fun _ => Mw.ex (R_has2 e0 (by omega) (by omega) (by omega)) ⟨fun q => ⟨⟨by omega, by omega⟩, fun z => h65 0 (fun y => absurd y z) (fun _ => rfl) ?_, fun z => ⟨⟨by omega, by omega⟩, h65 _ (fun _ => rfl) (fun y => absurd z y) ?_⟩⟩, fun q => ?_⟩⟩
    · refine hbit.mpr ?_
      cases y : en.toNat.testBit (n : Int).toNat
      · rfl
      · rw [y] at q; simp at q
    · refine hbit.mpr ?_
      cases y : en.toNat.testBit (n : Int).toNat
      · rfl
      · rw [y] at q; simp at q
    · have : ¬ bAnd en (bShl 1 n) = 0 := fun y => by rw [hbit.mp y] at q; simp at q
      unfold foeF at i
      rw [if_neg (fun y => this y.1)] at i
      exact i
theorem Rx_feuding {c en : Int} (h : RBx s b T) (c0 : 0 ≤ c) (c8 : c < 8) (e0 : 0 ≤ en) (e1 : en < 1024) : Mw g (e + 2) M_X13_feuding [(21, 92), (0, b), (0, c), (0, en)] s (Ex (foeS T c en) s) := by
  have b13 := h.2.2.2.1.2.2.2.1
  exact S_X13_feuding (fun _ _ _ => fx_loop h c0 c8 e0 e1 (T 0 13).toNat 0 (by omega))
theorem zrd_f {x y : Int} (h : RD s b T) (hT : TOK T) (eo : ∀ o, 94 ≤ o → o ≤ 114 → o ≠ 101 → o ≠ 102 → o ≠ 103 → s' o = s o) (k35 : s' 92 35 = s 92 35) (hx : 0 ≤ x ∧ x < T 1 1) (hy : 0 ≤ y ∧ y < T 1 1) (hn : x ≠ y) (hf : T 0 13 < 10) (h101 : s' 101 b = T 0 13 + 1) (h102 : ∀ i, s' 102 i = if i = 10 * b + T 0 13 then x else s 102 i) (h103 : ∀ i, s' 103 i = if i = 10 * b + T 0 13 then y else s 103 i) : RD s' b (feP T x y) := by
  obtain ⟨hR, hN, hC⟩ := h
  have b13 := hT.2.2.2.1
  have tO : ∀ o, o ≠ 13 → o ≠ 0 → feP T x y o = T o := fun o q r => by unfold feP; rw [ups_at _ r, ups_at _ q]
  have e0 : ∀ k, k ≠ 13 → feP T x y 0 k = T 0 k := fun k q => by unfold feP; rw [ups_k _ q, ups_at _ (by decide)]
  have e013 : feP T x y 0 13 = T 0 13 + 1 := by unfold feP; rw [ups_eq]
  have ev := (ok_feud hT hf hx hy hn).2
  have eN : ∀ j, j ≠ T 0 13 → feP T x y 13 j = T 13 j := fun j q => by unfold feP; rw [ups_at _ (by decide), ups_k _ q]
  refine ⟨?_, ?_, ?_⟩
  · unfold RT RF at hR ⊢
    obtain ⟨r1, r2, r3, r4, r5, r6, r7, r8⟩ := hR
    rw [eo 94 (by decide) (by decide) (by decide) (by decide) (by decide), eo 95 (by decide) (by decide) (by decide) (by decide) (by decide), eo 96 (by decide) (by decide) (by decide) (by decide) (by decide), eo 97 (by decide) (by decide) (by decide) (by decide) (by decide), eo 98 (by decide) (by decide) (by decide) (by decide) (by decide), eo 99 (by decide) (by decide) (by decide) (by decide) (by decide), eo 100 (by decide) (by decide) (by decide) (by decide) (by decide), eo 104 (by decide) (by decide) (by decide) (by decide) (by decide), eo 105 (by decide) (by decide) (by decide) (by decide) (by decide), eo 106 (by decide) (by decide) (by decide) (by decide) (by decide), eo 107 (by decide) (by decide) (by decide) (by decide) (by decide), eo 108 (by decide) (by decide) (by decide) (by decide) (by decide), eo 109 (by decide) (by decide) (by decide) (by decide) (by decide), eo 110 (by decide) (by decide) (by decide) (by decide) (by decide), eo 111 (by decide) (by decide) (by decide) (by decide) (by decide), e013, tO 1 (by decide) (by decide), tO 6 (by decide) (by decide), tO 7 (by decide) (by decide), tO 8 (by decide) (by decide), tO 9 (by decide) (by decide), tO 10 (by decide) (by decide), tO 11 (by decide) (by decide), tO 12 (by decide) (by decide), tO 14 (by decide) (by decide), tO 15 (by decide) (by decide), tO 17 (by decide) (by decide), tO 18 (by decide) (by decide)]
    refine ⟨⟨r1.1, r1.2.1, r1.2.2.1, h101⟩, r2, r3, r4, fun f f0 f1 => ?_, fun k k0 k5 => by rw [e0 (14 + k) (by omega)]; exact r6 k k0 k5, r7, r8⟩
    rw [h102, h103]
    by_cases z : f = T 0 13
    · have z2 : 10 * b + f = 10 * b + T 0 13 := by omega
      rw [if_pos z2, if_pos z2, z]
      exact ⟨hx, hy, hn, ev⟩
    · have z2 : ¬ 10 * b + f = 10 * b + T 0 13 := by omega
      rw [if_neg z2, if_neg z2, eN f z]
      exact r5 f f0 (by omega)
  · have := hN.same (eo 112 (by decide) (by decide) (by decide) (by decide) (by decide)) (eo 113 (by decide) (by decide) (by decide) (by decide) (by decide)) (eo 114 (by decide) (by decide) (by decide) (by decide) (by decide))
    intro k i k0 k3 i0 i1
    rw [tO 1 (by decide) (by decide)] at i1
    have q := this k i k0 k3 i0 i1
    rw [tO (3 + k) (by omega) (by omega)]
    exact q
  · rw [tO 14 (by decide) (by decide), tO 17 (by decide) (by decide), k35, eo 108 (by decide) (by decide) (by decide) (by decide) (by decide)]
    exact hC
theorem R_feuds (h : RLn s t b T st) (z : st.1 = 0) : Mw g (e + 6) M_X13_feuds [(21, 92)] s (RQ s t b (p2S t T 0 (zFeB T) (avS t (zLim (T 0 13) 10 st))) (fun T2 => T2 = feP T (o1S t T 0 (avS t (zLim (T 0 13) 10 st))) (o2S t T 0 (zFeB T) (avS t (zLim (T 0 13) 10 st))))) := by
  obtain ⟨ht, hr, h36, hb, hD, hT⟩ := h
  have cn := hD.1.cn hT
  have c1 := hT.2.1
  have b13 := hT.2.2.2.1
  have c101 : s 101 b = T 0 13 := hD.1.1.2.2.2
  have F36 : ∀ s1, Fa s s1 → s1 92 36 = b := fun s1 f => by rw [f.2 36 (by unfold Ka; omega)]; exact h36
  have FN : ∀ s1, Fa s s1 → NT s1 b T := fun s1 f => hD.2.1.same (f.1 112 (by decide)) (f.1 113 (by decide)) (f.1 114 (by decide))
  have FC : ∀ s1, Fa s s1 → RCn s1 b T := fun s1 f => cn.same (f.1 94 (by decide)) (f.1 97 (by decide)) (f.1 104 (by decide))
  generalize hst : avS t (zLim (T 0 13) 10 st) = st1
  have main : ∀ x : Int, (T 0 13 ≠ 10 → x = 0) ∧ (T 0 13 = 10 → x = 1) → P_X13_feuds_20 g (e + 5) (RQ s t b (p2S t T 0 (zFeB T) st1) (fun T2 => T2 = feP T (o1S t T 0 st1) (o2S t T 0 (zFeB T) st1))) s x := fun x hx => by
    refine S_X13_feuds_20 ((R_counts (e := e + 2) ht hr).imp (fun r1 s2 q2 => ?_))
    rw [lim_eq hx b13.2, hst] at q2
    obtain ⟨w2, f2, g1, g2⟩ := q2
    refine ⟨fun r0 => ?_, fun r0 => ?_⟩
    · have x0 : x = 0 := Classical.byContradiction (fun u => r0 (g2 (fun v => u v.2)))
      have lt : T 0 13 < 10 := by
        apply Classical.byContradiction
        intro u
        have := hx.2 (by omega)
        omega
      have ix : w32 (w32 (10 * s2 92 36) + s2 101 (s2 92 36)) = 10 * b + T 0 13 := by
        rw [F36 s2 f2, f2.1 101 (by decide), c101, w32_of (show _ ≤ 10 * b by omega) (by omega), w32_of (by omega) (by omega)]
      rw [ix, F36 s2 f2]
      refine ⟨⟨by omega, by omega⟩, (R_asked (e := e + 1) (ht.fa f2) w2 ⟨F36 s2 f2, hb⟩ (FC s2 f2) (FN s2 f2) (by decide) (by decide)).imp (fun r3 s4 q4 => ?_)⟩
      have f4 := f2.tr q4.2.1
      have r3b := q4.2.2.2
      have fb := foe_bd (en := 0) hT r3b.1 r3b.2
      have sb := sh_bd r3b
      have ob := or_bd fb sb
      have e3 : (p1S t T 0 st1).1 = 0 → r3 = o1S t T 0 st1 := q4.2.2.1
      have go : ∀ bar : Int, (0 ≤ bar ∧ bar < 256) → ((p1S t T 0 st1).1 = 0 → bar = zFeB T (o1S t T 0 st1)) → P_X13_feuds_79 g (e + 5) (RQ s t b (p2S t T 0 (zFeB T) st1) (fun T2 => T2 = feP T (o1S t T 0 st1) (o2S t T 0 (zFeB T) st1))) s4 (10 * b + T 0 13) r3 bar := fun bar hbar ebar => by
        refine S_X13_feuds_79 ((R_asked (e := e + 1) (ht.fa f4) q4.1 ⟨F36 s4 f4, hb⟩ (FC s4 f4) (FN s4 f4) (by decide) ⟨hbar.1, by omega⟩).imp (fun r9 s10 q10 => ?_))
        have f10 := f4.tr q10.2.1
        have es : zKnw t T 1 bar (zKnw t T 1 0 st1) = p2S t T 0 (zFeB T) st1 := by
          unfold p2S
          by_cases y : (p1S t T 0 st1).1 = 0
          · rw [ebar y]; rfl
          · rw [zKnw_bad y]; exact zKnw_bad y
        have w10 : RRw s10 t (p2S t T 0 (zFeB T) st1) := by rw [← es]; exact q10.1
        refine ⟨fun y => ?_, fun y => ⟨w10, f10.db, fun y2 => absurd (by rw [w10.g8 y2]; decide) y, Or.inl (f10.2 35 (by unfold Ka; omega))⟩⟩
        refine ⟨⟨by omega, by omega⟩, fun s11 h11 => ⟨⟨by omega, by omega⟩, fun s12 h12 => ?_⟩⟩
        have u12 : s12 92 = s10 92 := by rw [h12, ups_at _ (by decide), h11, ups_at _ (by decide)]
        have c12 : s12 101 b = T 0 13 := by rw [h12, ups_at _ (by decide), h11, ups_at _ (by decide), f10.1 101 (by decide)]; exact c101
        rw [u12, F36 s10 f10, c12, w32_of (show _ ≤ T 0 13 + 1 by omega) (by omega)]
        refine ⟨⟨by omega, by omega⟩, ⟨by omega, by omega⟩, fun s13 h13 => ?_⟩
        have u13 : s13 92 = s10 92 := by rw [h13, ups_at _ (by decide), u12]
        have Fdd : Fdb b s s13 := by
          refine f10.db.tr ?_
          rw [h13, h12, h11]
          refine ((Fdb.up (by decide) (by decide) ?_).tr (Fdb.up (by decide) (by decide) ?_)).tr (Fdb.up (by decide) (by decide) ?_)
          · show 10 * b ≤ _ ∧ _ < 10 * b + 10; omega
          · show 10 * b ≤ _ ∧ _ < 10 * b + 10; omega
          · show 1 * b ≤ b ∧ b < 1 * b + 1; omega
        refine ⟨w10.same (fun k _ => by rw [u13]), Fdd, fun gd T2 eT => ?_, Or.inl (by rw [u13]; exact f10.2 35 (by unfold Ka; omega))⟩
        have gg := p2_good c1.1 gd
        have k2 := g_knw gd
        have e3 := e3 k2.1
        have e9 : r9 = o2S t T 0 (zFeB T) st1 := by
          have := q10.2.2.1 (by rw [es]; exact gd)
          rw [this, ebar k2.1]
          rfl
        have ne := bar_ne (foe_bd (en := 0) hT gg.2.1.1 (by omega)) (by omega) (by omega) gg.2.2.2
        rw [eT, ← e3, ← e9]
        rw [← e3, ← e9] at ne
        rw [← e3, ← e9] at gg
        refine zrd_f hD hT (fun o o1 o2 a1 a2 a3 => by rw [h13, ups_at _ a1, h12, ups_at _ a3, h11, ups_at _ a2]; exact f10.1 o (by omega)) (by rw [u13]; exact f10.2 35 (by unfold Ka; omega)) gg.2.1 gg.2.2.1 ne lt (by rw [h13, ups_eq]) (fun i => ?_) (fun i => ?_)
        · rw [h13, ups_at _ (by decide), h12, ups_at _ (by decide), h11, ups_if, f10.1 102 (by decide)]
        · rw [h13, ups_at _ (by decide), h12, ups_if, h11, ups_at _ (by decide), f10.1 103 (by decide)]
      refine ⟨fun y => ?_, fun y => go 0 (by decide) (fun u => ?_)⟩
      · rw [F36 s4 f4]
        refine Mw.ex (Rx_feuding (e := e + 3) (T := T) ⟨trivial, hb, hD.1.fa f4, hT, trivial⟩ r3b.1 r3b.2 (by decide) (by decide)) (go _ ob (fun u => ?_))
        rw [e3 u]; rfl
      · have := q4.1.g8 u
        omega
    · have bad : ¬ (st.1 = 0 ∧ x = 0) := fun u => by have := g1 u.1 u.2; omega
      have nz : st1.1 ≠ 0 := fun u => by
        rw [← hst] at u
        have := (g_lim (g_av u)).2
        exact bad ⟨z, hx.1 (by omega)⟩
      have eb : p2S t T 0 (zFeB T) st1 = st1 := by
        unfold p2S p1S
        rw [zKnw_bad nz]; exact zKnw_bad nz
      rw [eb]
      exact ⟨w2, f2.db, fun u => absurd u nz, Or.inl (f2.2 35 (by unfold Ka; omega))⟩
  refine S_X13_feuds ?_
  rw [h36, c101]
  exact ⟨⟨by omega, by omega⟩, fun q => main 0 ⟨fun _ => rfl, fun u => absurd u q⟩, fun q => main 1 ⟨fun u => absurd q u, fun _ => rfl⟩⟩
end RLN4
