/-! reconcile: both programs; the class's later, built, down, strongest -/
def reA (A : Wd) (en : Int) : Wd := ups A 0 2 (bOr (A 0 2) en)
def cnS (T : Tn) (A : Wd) (n en : Int) : Int := popF (bitsS T (aheA T n.toNat (reA A en)) 3)
def rcF (T : Tn) (A : Wd) (n : Int) : Nat → Int → Int → Int → Int × Int
  | 0, _, mo, ch => (mo, ch)
  | m + 1, f, mo, ch => if ¬ bAnd (A 0 2) (bShl 1 f) = 0 then rcF T A n m (f + 1) mo ch else if cnS T A n (bShl 1 f) ≤ mo then rcF T A n m (f + 1) mo ch else rcF T A n m (f + 1) (cnS T A n (bShl 1 f)) f
def rcS (T : Tn) (A : Wd) (n w : Int) : Int := if ((1 ≤ n ∧ n ≤ 40) ∧ A 0 1 + n ≤ 999) ∧ (0 ≤ w ∧ w ≤ 1) ∧ (rcF T A n (T 0 13).toNat 0 (cnS T A n 0) (-1)).2 ≠ -1 then (if w = 0 then (rcF T A n (T 0 13).toNat 0 (cnS T A n 0) (-1)).2 else (rcF T A n (T 0 13).toNat 0 (cnS T A n 0) (-1)).1 - cnS T A n 0) else -1
section RECON
variable {T : Tn} {A : Wd}
theorem WOK.en {en : Int} (hW : WOK T A) (e0 : 0 ≤ en) (e1 : en < 1024) : WOK T (reA A en) := by
  have a02 := hW.1.2.1
  have ob := bOr_lt (n := 10) a02.1 a02.2 e0 e1 (by decide)
  obtain ⟨⟨n1, n2, n3, n4, n5⟩, hI, hH⟩ := hW
  have ea : ∀ a, a ≠ 0 → reA A en a = A a := fun a ha => ups_at _ ha
  have e01 : reA A en 0 1 = A 0 1 := ups_k _ (by decide)
  refine ⟨?_, hI.eq (ea 3 (by decide)) (ea 4 (by decide)), ?_⟩
  · unfold WN
    rw [e01, ea 1 (by decide), ea 2 (by decide), show reA A en 0 2 = bOr (A 0 2) en from ups_eq _ _ _ _, show reA A en 0 9 = A 0 9 from ups_k _ (by decide)]
    exact ⟨n1, ob, n3, n4, n5⟩
  · unfold WH
    rw [ea 3 (by decide), ea 4 (by decide), ea 5 (by decide)]
    refine ⟨hH.1, fun c c0 c8 hc => ?_⟩
    rw [ageS_eq e01]
    exact hH.2 c c0 c8 hc
theorem WEe.re {B : Wd} {en : Int} (h : WEe A B en) : WEq (reA A en) B := by
  obtain ⟨e1, e2, e3, e4, e5, e6⟩ := h
  have ea : ∀ a, a ≠ 0 → reA A en a = A a := fun a ha => ups_at _ ha
  exact ⟨by rw [show reA A en 0 1 = A 0 1 from ups_k _ (by decide)]; exact e1, by rw [show reA A en 0 2 = bOr (A 0 2) en from ups_eq _ _ _ _]; exact e2, fun k k0 k1 => by rw [ea 1 (by decide), ea 2 (by decide), ea 3 (by decide)]; exact e4 k k0 k1, fun k k0 k1 => by rw [ea 4 (by decide)]; exact e5 k k0 k1, fun k k0 k1 => by rw [ea 5 (by decide)]; exact e6 k k0 k1⟩
theorem aheA_ok (hT : TOK T) : ∀ (n : Nat) (A : Wd), WOK T A → A 0 1 + n ≤ 1000 → WOK T (aheA T n A) := by
  intro n
  induction n with
  | zero => intro A h _; exact h
  | succ n ih =>
    intro A h hy
    exact ih _ (pasR_ok hT h (by omega)) (by rw [(pasR_y hT h (by omega)).1]; omega)
theorem cn_bd (hT : TOK T) (n en : Int) : 0 ≤ cnS T A n en ∧ cnS T A n en ≤ 10 := by
  have b := bits_bd (T := T) (A := aheA T n.toNat (reA A en)) hT 3
  exact popF_bd b.1 (by omega)
theorem bS10 {f : Int} (f0 : 0 ≤ f) (f1 : f < 10) : 0 ≤ bShl 1 f ∧ bShl 1 f < 1024 := by
  rw [bShl1 f0 (by omega)]
  have : 2 ^ f.toNat ≤ 2 ^ 9 := Nat.pow_le_pow_right (by omega) (by omega)
  exact ⟨Int.natCast_nonneg _, by omega⟩
theorem rcF_in (hT : TOK T) {n : Int} : ∀ (m : Nat) (f mo ch : Int), 0 ≤ mo ∧ mo ≤ 10 → -1 ≤ ch → ch < f → 0 ≤ f → (0 ≤ (rcF T A n m f mo ch).1 ∧ (rcF T A n m f mo ch).1 ≤ 10) ∧ -1 ≤ (rcF T A n m f mo ch).2 := by
  intro m
  induction m with
  | zero => intro f mo ch h1 h2 _ _; exact ⟨h1, h2⟩
  | succ m ih =>
    intro f mo ch h1 h2 h3 h4
    unfold rcF
    split
    · exact ih _ _ _ h1 h2 (by omega) (by omega)
    · split
      · exact ih _ _ _ h1 h2 (by omega) (by omega)
      · exact ih _ _ _ (cn_bd hT _ _) (by omega) (by omega) (by omega)
variable {g : GT} {e : Nat} {s : Sg} {tw b : Int}
theorem go_cn {n en : Int} {B : Wd} {X : WX} (hT : TOK T) (hW : WOK T A) (n0 : 0 ≤ n) (hn : A 0 1 + n ≤ 999) (e0 : 0 ≤ en) (e1 : en < 1024) (hE : WEe A B en) (hX : X.1 = aheA T n.toNat B) : popF (bitsS T X.1 3) = cnS T A n en := by
  have hR := hW.en e0 e1
  have h := (WEq.ahe hT n.toNat (reA A en) B hR (by rw [show reA A en 0 1 = A 0 1 from ups_k _ (by decide)]; omega) hE.re).1
  unfold cnS
  rw [hX, h.bits hT]
theorem rc_loop {n w wo : Int} (h8 : s 1 8 = tw) (hx : CX s 48 tw T A) (hW : WOK T A) (hF : TF T) (n0 : 0 ≤ n) (hn : A 0 1 + n ≤ 999) : ∀ (m : Nat) (f mo ch : Int) (s0 : Sg), f + m = T 0 13 → 0 ≤ f → wo ≤ mo → 0 ≤ wo → mo ≤ 10 → Fr (Jw 58) s s0 →
    P_X12_reconcile_51 g (e + 7) (fun r s' => r = (if (0 ≤ w ∧ w ≤ 1) ∧ (rcF T A n m f mo ch).2 ≠ -1 then (if w = 0 then (rcF T A n m f mo ch).2 else (rcF T A n m f mo ch).1 - wo) else -1) ∧ Fr (Jw 58) s s') s0 n w wo mo ch f := by
  intro m
  have hT := hx.ok
  have b13 := hT.2.2.2.1
  have nj : ¬ Jw 58 1 := fun q => by
    rcases q with y | y
    · omega
    · unfold Jk at y; omega
  induction m with
  | zero =>
    intro f mo ch s0 hf f0 hwm wo0 mo1 hfr
    have x0 := hx.o58 hfr
    refine S_X12_reconcile_51 ?_
    rw [hfr 1 nj, h8, x0.t0, w32_of (by omega) (by omega)]
    refine ⟨fun _ => ⟨fun q => ⟨?_, hfr⟩, fun q => ⟨fun q2 => ⟨?_, hfr⟩, fun q2 => ⟨fun q3 => ⟨fun q4 => ⟨?_, hfr⟩, fun q4 => ⟨?_, hfr⟩⟩, fun q3 => ⟨?_, hfr⟩⟩⟩⟩, fun q => absurd (by omega) q⟩
    · rw [if_neg (fun z => z.2 q)]
    · rw [if_neg (fun z => by omega)]
    · rw [if_pos ⟨by omega, q⟩, if_neg q4]; rfl
    · rw [if_pos ⟨by omega, q⟩, if_pos q4]; rfl
    · rw [if_neg (fun z => by omega)]
  | succ m ih =>
    intro f mo ch s0 hf f0 hwm wo0 mo1 hfr
    have x0 := hx.o58 hfr
    have sb := bS10 f0 (show f < 10 by omega)
    refine S_X12_reconcile_51 ?_
    rw [hfr 1 nj, h8, x0.t0, x0.en]
    refine ⟨fun q => by omega, fun _ => ⟨fun q => S_X12_reconcile_83 ⟨fun _ => S_X12_reconcile_110 ⟨fun _ => ?_, fun q2 => absurd hwm q2⟩, fun q2 => absurd rfl q2⟩, fun q => S_X12_reconcile_83 ⟨fun q2 => by omega, fun _ => ?_⟩⟩⟩
    · rw [w32_of (by omega) (by omega)]
      have e1 : rcF T A n (m + 1) f mo ch = rcF T A n m (f + 1) mo ch := by
        show (if ¬ bAnd (A 0 2) (bShl 1 f) = 0 then _ else _) = _
        rw [if_pos q]
      rw [e1]
      exact ih (f + 1) mo ch s0 (by omega) (by omega) hwm wo0 mo1 hfr
    · refine (C_goAhead x0 hW hF n0 hn sb.1 sb.2).imp (fun r s2 h2 => ?_)
      obtain ⟨B, X, b', g1, g2, g3, g4, g5, g6, g7⟩ := h2
      have er : r = cnS T A n (bShl 1 f) := by rw [g6]; exact go_cn hT hW n0 hn sb.1 sb.2 g1 g4
      have cb := cn_bd (A := A) hT n (bShl 1 f)
      rw [er]
      refine S_X12_reconcile_110 ⟨fun q2 => ?_, fun q2 => ?_⟩
      · rw [w32_of (by omega) (by omega)]
        have e1 : rcF T A n (m + 1) f mo ch = rcF T A n m (f + 1) mo ch := by
          show (if ¬ bAnd (A 0 2) (bShl 1 f) = 0 then _ else if cnS T A n (bShl 1 f) ≤ mo then _ else _) = _
          rw [if_neg (fun z => z q), if_pos q2]
        rw [e1]
        exact ih (f + 1) mo ch s2 (by omega) (by omega) hwm wo0 mo1 (hfr.tr g7)
      · rw [w32_of (by omega) (by omega)]
        have e1 : rcF T A n (m + 1) f mo ch = rcF T A n m (f + 1) (cnS T A n (bShl 1 f)) f := by
          show (if ¬ bAnd (A 0 2) (bShl 1 f) = 0 then _ else if cnS T A n (bShl 1 f) ≤ mo then _ else _) = _
          rw [if_neg (fun z => z q), if_neg q2]
        rw [e1]
        exact ih (f + 1) _ f s2 (by omega) (by omega) (by omega) wo0 cb.2 (hfr.tr g7)
theorem C_reconcile {n w : Int} (h8 : s 1 8 = tw) (hx : CX s 48 tw T A) (hW : WOK T A) (hF : TF T) : Mw g (e + 8) M_X12_reconcile [(20, 1), (0, n), (0, w)] s (fun r s' => r = rcS T A n w ∧ Fr (Jw 58) s s') := by
  have hT := hx.ok
  have a1 := hW.1.1
  have b13 := hT.2.2.2.1
  unfold rcS
  refine S_X12_reconcile (fun _ _ => ⟨fun q => ⟨?_, Fr.rf⟩, fun q => ⟨fun q2 => ⟨?_, Fr.rf⟩, fun q2 => ?_⟩⟩)
  · rw [if_neg (fun z => by omega)]
  · rw [if_neg (fun z => by omega)]
  rw [hx.y, w32_of (by omega) (by omega)]
  refine ⟨fun q3 => (C_goAhead hx hW hF (by omega) q3 (by decide) (by decide)).imp (fun r s2 h2 => ?_), fun q3 => ⟨?_, Fr.rf⟩⟩
  · obtain ⟨B, X, b', g1, g2, g3, g4, g5, g6, g7⟩ := h2
    have er : r = cnS T A n 0 := by rw [g6]; exact go_cn hT hW (by omega) q3 (by decide) (by decide) g1 g4
    have cb := cn_bd (A := A) hT n 0
    rw [er]
    have := rc_loop (g := g) (e := e) (w := w) (wo := cnS T A n 0) h8 hx hW hF (by omega) q3 (T 0 13).toNat 0 (cnS T A n 0) (-1) s2 (by omega) (by decide) (Int.le_refl _) cb.1 cb.2 g7
    refine Wp.imp this (fun r' s' h => ⟨?_, h.2⟩)
    rw [h.1]
    by_cases z : (0 ≤ w ∧ w ≤ 1) ∧ (rcF T A n (T 0 13).toNat 0 (cnS T A n 0) (-1)).2 ≠ -1
    · have hc : ((1 ≤ n ∧ n ≤ 40) ∧ A 0 1 + n ≤ 999) ∧ (0 ≤ w ∧ w ≤ 1) ∧ (rcF T A n (T 0 13).toNat 0 (cnS T A n 0) (-1)).2 ≠ -1 := ⟨⟨by omega, q3⟩, z⟩
      rw [if_pos z, if_pos hc]
    · rw [if_neg z, if_neg (fun y => z y.2)]
  · rw [if_neg (fun z => by omega)]
theorem RX.re (h : RX s 0 b T A) {s2 : Sg} {K : Prop} (hz : RZ False s2 1 b T A) {en x : Int} (hx : x = bOr (A 0 2) en) : RZ False (ups s2 123 1 x) 1 b T (reA A en) := by
  have es : ∀ o, o ≠ 123 → ups s2 123 1 x o = s2 o := fun o ho => ups_at _ ho
  have ea : ∀ a, a ≠ 0 → reA A en a = A a := fun a ha => ups_at _ ha
  refine ⟨⟨hz.1.1.fv (v := 1) (Fm.up (by omega)), hz.1.2.1, ?_, ?_, ?_, fun c c0 c1 => ?_⟩, fun k => k.elim⟩
  · rw [es 122 (by decide), show reA A en 0 1 = A 0 1 from ups_k _ (by decide)]; exact hz.1.2.2.1
  · rw [ups_eq, show reA A en 0 2 = bOr (A 0 2) en from ups_eq _ _ _ _]; exact hx
  · rw [es 129 (by decide)]; exact hz.1.2.2.2.2.1
  · rw [es 124 (by decide), es 125 (by decide), es 126 (by decide), es 127 (by decide), es 128 (by decide), ea 1 (by decide), ea 2 (by decide), ea 3 (by decide)]
    exact hz.1.c c0 c1
theorem rcp_loop {n w wo mo ch f : Int} {Q : Int → Sg → Prop} {C : Int} (hT : TOK T) (hQ : ∀ s' : Sg, Fp 1 s s' → ((mo < C → P_X13_reconcile_65 g (e + 8) Q s' n w wo C f (w32 (f + 1))) ∧ (¬ mo < C → P_X13_reconcile_65 g (e + 8) Q s' n w wo mo ch (w32 (f + 1))))) (n4 : n ≤ 1000) :
    ∀ (m : Nat) (k : Int) (s0 : Sg) (B : Wd), k + m = n → 0 ≤ k → RZ False s0 1 b T B → WOK T B → B 0 1 + m ≤ 999 → popF (bitsS T (aheA T m B) 3) = C → Fp 1 s s0 → P_X13_reconcile_118 g (e + 8) Q s0 n w wo mo ch f k := by
  intro m
  induction m with
  | zero =>
    intro k s0 B hk k0 h hW hy hC hf
    have bb := bits_bd (T := T) (A := B) hT 3
    have hC : popF (bitsS T B 3) = C := hC
    refine S_X13_reconcile_118 ⟨fun _ => Mw.ex (R_builtIn h.1 hW) (Mw.ex (R_bits bb.1 (by omega)) ?_), fun q => absurd (by omega) q⟩
    rw [hC]
    refine ⟨fun q => Mw.ex (R_builtIn h.1 hW) (Mw.ex (R_bits bb.1 (by omega)) ?_), fun q => (hQ s0 hf).2 q⟩
    rw [hC]
    exact (hQ s0 hf).1 q
  | succ m ih =>
    intro k s0 B hk k0 h hW hy hC hf
    refine S_X13_reconcile_118 ⟨fun q => by omega, fun _ => (R_passes h hW (by omega)).imp (fun _ s6 h6 => ?_)⟩
    obtain ⟨c1, c2, c3, c4⟩ := h6
    rw [w32_of (by omega) (by omega)]
    exact ih (k + 1) s6 (pasR T 0 B).1 (by omega) (by omega) c1 (pasR_ok hT hW (by omega)) (by rw [(pasR_y hT hW (by omega)).1]; omega) hC (hf.tr c4)
theorem rcR_loop {n w wo : Int} (h : RX s 0 b T A) (hW : WOK T A) (n0 : 0 ≤ n) (hn : A 0 1 + n ≤ 999) (w01 : 0 ≤ w ∧ w ≤ 1) : ∀ (m : Nat) (f mo ch : Int) (s0 : Sg), f + m = T 0 13 → 0 ≤ f → 0 ≤ wo → wo ≤ 10 → 0 ≤ mo → mo ≤ 10 → Fp 1 s s0 →
    P_X13_reconcile_65 g (e + 8) (fun r s' => r = (if (rcF T A n m f mo ch).2 ≠ -1 then (if w = 0 then (rcF T A n m f mo ch).2 else (rcF T A n m f mo ch).1 - wo) else -1) ∧ Fp 1 s s') s0 n w wo mo ch f := by
  intro m
  have hT := h.ok
  have b13 := hT.2.2.2.1
  have hz : RZ False s 0 b T A := ⟨h, fun k => k.elim⟩
  have a02 := hW.1.2.1
  have a1 := hW.1.1
  induction m with
  | zero =>
    intro f mo ch s0 hf f0 wo0 wo1 mo0 mo1 hfr
    have h0 := (hz.fp hfr (by decide) (fun k => k.elim)).1
    have hb := h0.b2
    refine S_X13_reconcile_65 ?_
    rw [h0.bk, h0.rt.1.2.2.2, w32_of (by omega) (by omega)]
    refine ⟨⟨by omega, by omega⟩, fun _ => ⟨fun q => ⟨fun q2 => ⟨?_, hfr⟩, fun q2 => ⟨?_, hfr⟩⟩, fun q => ⟨?_, hfr⟩⟩, fun q => absurd (by omega) q⟩
    · show mo - wo = if ch ≠ -1 then (if w = 0 then ch else mo - wo) else -1
      rw [if_pos q, if_neg q2]
    · show ch = if ch ≠ -1 then (if w = 0 then ch else mo - wo) else -1
      rw [if_pos q, if_pos q2]
    · show (-1 : Int) = if ch ≠ -1 then (if w = 0 then ch else mo - wo) else -1
      rw [if_neg (fun z => z q)]
  | succ m ih =>
    intro f mo ch s0 hf f0 wo0 wo1 mo0 mo1 hfr
    have h0 := (hz.fp hfr (by decide) (fun k => k.elim)).1
    have hb := h0.b2
    have sb := bS10 f0 (show f < 10 by omega)
    have hbit := bAnd_bit (a := A 0 2) (k := f) a02.1 (by omega) f0 (by omega)
    have cb := cn_bd (A := A) hT n (bShl 1 f)
    refine S_X13_reconcile_65 ?_
    rw [h0.bk, h0.rt.1.2.2.2, h0.2.2.2.1]
    refine ⟨⟨by omega, by omega⟩, fun q => by omega, fun _ => Mw.ex (R_has2 a02.1 (by omega) f0 (by omega)) ⟨fun q => (R_try h0).imp (fun _ s4 h4 s5 e5 => ?_), fun q => ?_⟩⟩
    · have hop : bAnd (A 0 2) (bShl 1 f) = 0 := by
        refine hbit.mpr ?_
        cases y : (A 0 2).toNat.testBit f.toNat
        · rfl
        · rw [y] at q; simp at q
      rw [h4.1.1.2.2.2.1] at e5
      have z5 : RZ False s5 1 b T (reA A (bShl 1 f)) := by rw [e5]; exact h0.re (K := False) h4.1 rfl
      have f5 : Fp 1 s s5 := by rw [e5]; exact hfr.tr (Fp.of (h4.2.tr (Fm.up (by omega))))
      refine rcp_loop (s := s) (C := cnS T A n (bShl 1 f)) hT (fun s' f' => ⟨fun q2 => ?_, fun q2 => ?_⟩) (by omega) n.toNat 0 s5 (reA A (bShl 1 f)) (by omega) (by decide) z5 (hW.en sb.1 sb.2) (by rw [show reA A (bShl 1 f) 0 1 = A 0 1 from ups_k _ (by decide)]; omega) rfl f5
      · have e1 : rcF T A n (m + 1) f mo ch = rcF T A n m (f + 1) (cnS T A n (bShl 1 f)) f := by
          show (if ¬ bAnd (A 0 2) (bShl 1 f) = 0 then _ else if cnS T A n (bShl 1 f) ≤ mo then _ else _) = _
          rw [if_neg (fun z => z hop), if_neg (by omega)]
        rw [e1, w32_of (by omega) (by omega)]
        exact ih (f + 1) _ f s' (by omega) (by omega) wo0 wo1 cb.1 cb.2 f'
      · have e1 : rcF T A n (m + 1) f mo ch = rcF T A n m (f + 1) mo ch := by
          show (if ¬ bAnd (A 0 2) (bShl 1 f) = 0 then _ else if cnS T A n (bShl 1 f) ≤ mo then _ else _) = _
          rw [if_neg (fun z => z hop), if_pos (by omega)]
        rw [e1, w32_of (by omega) (by omega)]
        exact ih (f + 1) mo ch s' (by omega) (by omega) wo0 wo1 mo0 mo1 f'
    · have hcl : ¬ bAnd (A 0 2) (bShl 1 f) = 0 := fun y => by rw [hbit.mp y] at q; simp at q
      have e1 : rcF T A n (m + 1) f mo ch = rcF T A n m (f + 1) mo ch := by
        show (if ¬ bAnd (A 0 2) (bShl 1 f) = 0 then _ else _) = _
        rw [if_pos hcl]
      rw [e1, w32_of (by omega) (by omega)]
      exact ih (f + 1) mo ch s0 (by omega) (by omega) wo0 wo1 mo0 mo1 hfr
theorem rc0_loop {n w : Int} {Q : Int → Sg → Prop} {C : Int} (hT : TOK T) (hQ : ∀ s' : Sg, Fp 1 s s' → P_X13_reconcile_65 g (e + 8) Q s' n w C C (-1) 0) (n4 : n ≤ 1000) :
    ∀ (m : Nat) (k : Int) (s0 : Sg) (B : Wd), k + m = n → 0 ≤ k → RZ False s0 1 b T B → WOK T B → B 0 1 + m ≤ 999 → popF (bitsS T (aheA T m B) 3) = C → Fp 1 s s0 → P_X13_reconcile_30 g (e + 8) Q s0 n w k := by
  intro m
  induction m with
  | zero =>
    intro k s0 B hk k0 h hW hy hC hf
    have bb := bits_bd (T := T) (A := B) hT 3
    have hC : popF (bitsS T B 3) = C := hC
    refine S_X13_reconcile_30 ⟨fun _ => Mw.ex (R_builtIn h.1 hW) (Mw.ex (R_bits bb.1 (by omega)) ?_), fun q => absurd (by omega) q⟩
    rw [hC]
    exact hQ s0 hf
  | succ m ih =>
    intro k s0 B hk k0 h hW hy hC hf
    refine S_X13_reconcile_30 ⟨fun q => by omega, fun _ => (R_passes h hW (by omega)).imp (fun _ s6 h6 => ?_)⟩
    obtain ⟨c1, c2, c3, c4⟩ := h6
    rw [w32_of (by omega) (by omega)]
    exact ih (k + 1) s6 (pasR T 0 B).1 (by omega) (by omega) c1 (pasR_ok hT hW (by omega)) (by rw [(pasR_y hT hW (by omega)).1]; omega) hC (hf.tr c4)
theorem R_reconcile {n w : Int} (h : RX s 0 b T A) (hW : WOK T A) : Mw g (e + 9) M_X13_reconcile [(21, 92), (0, n), (0, w)] s (fun r s' => r = rcS T A n w ∧ Fp 1 s s') := by
  have hT := h.ok
  have a1 := hW.1.1
  have a02 := hW.1.2.1
  have b13 := hT.2.2.2.1
  unfold rcS
  refine S_X13_reconcile (fun _ _ => Mw.ex (R_isAhead h hW (by decide) (by decide)) ⟨fun q => ⟨?_, Fp.rf⟩, fun q => Mw.ex R_is ⟨fun q2 => (R_try h).imp (fun _ s6 h6 => ?_), fun q2 => ⟨?_, Fp.rf⟩⟩⟩)
  · rw [if_neg]
    intro z
    rw [if_pos z.1] at q
    omega
  · have z1 : (1 ≤ n ∧ n ≤ 40) ∧ A 0 1 + n ≤ 999 := Classical.byContradiction (fun z => by rw [if_neg z] at q; omega)
    have z2 : 0 ≤ w ∧ w ≤ 1 := Classical.byContradiction (fun z => by rw [if_neg z] at q2; omega)
    have cb := cn_bd (A := A) hT n 0
    have zr : RZ False s6 1 b T (reA A 0) := by
      refine ⟨⟨h6.1.1.1, h6.1.1.2.1, h6.1.1.2.2.eq (ups_k _ (by decide)) ?_ (fun c c0 c1 => ⟨?_, ?_, ?_⟩)⟩, fun k => k.elim⟩
      · rw [show reA A 0 0 2 = bOr (A 0 2) 0 from ups_eq _ _ _ _, bOr_0 ⟨by omega, by omega⟩]
      · exact ups_o _ (by decide)
      · exact ups_o _ (by decide)
      · exact ups_o _ (by decide)
    refine rc0_loop (s := s) (C := cnS T A n 0) hT (fun s' f' => ?_) (by omega) n.toNat 0 s6 (reA A 0) (by omega) (by decide) zr (hW.en (by decide) (by decide)) (by rw [show reA A 0 0 1 = A 0 1 from ups_k _ (by decide)]; omega) rfl (Fp.of h6.2)
    refine Wp.imp (rcR_loop (g := g) (e := e) (s := s) (w := w) (wo := cnS T A n 0) h hW (by omega) z1.2 z2 (T 0 13).toNat 0 (cnS T A n 0) (-1) s' (by omega) (by decide) cb.1 cb.2 cb.1 cb.2 f') (fun r s3 h3 => ⟨?_, h3.2⟩)
    rw [h3.1]
    by_cases y : (rcF T A n (T 0 13).toNat 0 (cnS T A n 0) (-1)).2 ≠ -1
    · have hc : ((1 ≤ n ∧ n ≤ 40) ∧ A 0 1 + n ≤ 999) ∧ (0 ≤ w ∧ w ≤ 1) ∧ (rcF T A n (T 0 13).toNat 0 (cnS T A n 0) (-1)).2 ≠ -1 := ⟨z1, z2, y⟩
      rw [if_pos y, if_pos hc]
    · rw [if_neg y, if_neg (fun u => y u.2.2)]
  · rw [if_neg]
    intro z
    rw [if_pos z.2.1] at q2
    omega
end RECON
