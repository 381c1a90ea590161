/-! the reference: later, built, down -/
def laV (T : Tn) (A : Wd) (f w : Int) : Int := if w = 0 then bitsS T A 3 else if w = 1 then bitsS T A 2 else if w = 2 then f else togS T A
def laS (T : Tn) (y : Int) (B : Wd) (n w : Int) : Int := if (0 ≤ n ∧ n ≤ 60 ∧ y + n ≤ 999) ∧ 0 ≤ w ∧ w ≤ 3 then laV T (aheA T n.toNat B) (aheF T n.toNat B) w else -1
section RLATER
variable {g : GT} {e : Nat} {s : Sg} {u v b : Int} {T : Tn} {A : Wd} {K : Prop}
theorem RB.fp {s2 : Sg} (h : RB s b T) (hf : Fp v s s2) : RB s2 b T := by
  refine ⟨by rw [hf.2.1 13 (by decide) (by decide)]; exact h.1, h.2.1, h.2.2.1.fr (J := fun o => 112 ≤ o ∨ o ≤ 93) (fun o ho => hf.1 o (by omega) (by omega)) (fun o o1 o2 => by omega), h.2.2.2⟩
theorem RZ.fp {s2 : Sg} (h : RZ K s u b T A) (hf : Fp v s s2) (hne : u ≠ v) (h60 : K → A 0 9 ≤ 60) : RZ K s2 u b T A := by
  obtain ⟨⟨h1, h2, h3, h4, h5, h6⟩, hk⟩ := h
  have b8 := h1.2.2.2.1.2.1
  refine ⟨⟨h1.fp hf, h2, ?_, ?_, ?_, fun c c0 c1 => ?_⟩, fun k => ?_⟩
  · rw [hf.2.2.1 122 u (by omega) hne]; exact h3
  · rw [hf.2.2.1 123 u (by omega) hne]; exact h4
  · rw [hf.2.2.1 129 u (by omega) hne]; exact h5
  · have := h6 c c0 c1
    rw [hf.2.2.2.1 124 _ (by decide) (by decide) (by omega), hf.2.2.2.1 125 _ (by decide) (by decide) (by omega), hf.2.2.2.1 126 _ (by decide) (by decide) (by omega), hf.2.2.2.1 127 _ (by decide) (by decide) (by omega), hf.2.2.2.1 128 _ (by decide) (by decide) (by omega)]
    exact this
  · have hr := hk k
    have h60 := h60 k
    refine ⟨by rw [hf.2.2.1 129 u (by omega) hne]; exact hr.1, fun j j0 j1 => ?_⟩
    rw [hf.2.2.2.2 _ (by omega), hf.2.2.2.2 _ (by omega), hf.2.2.2.2 _ (by omega), hf.2.2.2.2 _ (by omega)]
    exact hr.2 j j0 j1
theorem RZ.wee {B : Wd} (h : RZ False s v b T A) (hW : WOK T A) (hE : WEe A B 0) : RZ False s v b T B := by
  have a02 := hW.1.2.1
  have b8 := h.1.ok.2.1
  refine ⟨⟨h.1.1, h.1.2.1, h.1.2.2.eq hE.1 (by rw [hE.2.1, bOr_0 ⟨by omega, by omega⟩]) (fun c c0 c1 => hE.2.2.2.1 c c0 (by omega))⟩, fun k => k.elim⟩
theorem WEe.ok0 {B : Wd} (hT : TOK T) (hE : WEe A B 0) (hW : WOK T A) : WOK T B := by
  have a02 := hW.1.2.1
  exact hE.ok hT hW (by rw [bOr_0 ⟨by omega, by omega⟩]; exact a02)
theorem builtIn_loop (h : RX s v b T A) (hW : WOK T A) : ∀ (m c : Nat), (c : Int) + m = T 1 1 → P_X13_builtIn_4 g (e + 1) (Ex (bitsS T A 3) s) s v (setF c (fun c => whS T A c == 3)) c := by
  intro m
  have b8 := h.ok.2.1
  have hb := h.b2
  induction m with
  | zero =>
    intro c hc
    refine S_X13_builtIn_4 ?_
    rw [h.bk, h.nc]
    refine ⟨⟨by omega, by omega⟩, fun _ => ⟨?_, rfl⟩, fun q => absurd (by omega) q⟩
    unfold bitsS
    rw [show (T 1 1).toNat = c by omega]
  | succ m ih =>
    intro c hc
    have i := ih (c + 1) (by omega)
    rw [show (((c + 1 : Nat)) : Int) = (c : Int) + 1 by omega] at i
    have hp := waP_n (pl_in hW.2.1 (show (0 : Int) ≤ c by omega) (show (c : Int) < 8 by omega))
    refine S_X13_builtIn_4 ?_
    rw [h.bk, h.nc, w32_of (by omega) (by omega), setF_or (by omega), bOr_0 (setF_R (by omega) _)]
    refine ⟨⟨by omega, by omega⟩, fun q => by omega, fun _ => Mw.ex (R_inWall h (by omega) (by omega)) ⟨fun q => ?_, fun q => ?_⟩⟩
    · rw [setF_s (by rw [wh3]; exact decide_eq_true (fun z => q (hp.mpr z)))] at i; exact i
    · rw [setF_n (by rw [wh3]; exact decide_eq_false (fun z => z (hp.mp q)))] at i; exact i
theorem R_builtIn (h : RX s v b T A) (hW : WOK T A) : Mw g (e + 2) M_X13_builtIn [(21, 92), (0, v)] s (Ex (bitsS T A 3) s) := by
  have b8 := h.ok.2.1
  exact S_X13_builtIn (fun _ => builtIn_loop h hW (T 1 1).toNat 0 (by omega))
theorem onShelf_loop (h : RX s v b T A) (hW : WOK T A) : ∀ (m c : Nat), (c : Int) + m = T 1 1 → P_X13_onShelf_4 g (e + 4) (Ex (bitsS T A 2) s) s v (setF c (fun c => whS T A c == 2)) c := by
  intro m
  have b8 := h.ok.2.1
  have hb := h.b2
  induction m with
  | zero =>
    intro c hc
    refine S_X13_onShelf_4 ?_
    rw [h.bk, h.nc]
    refine ⟨⟨by omega, by omega⟩, fun _ => ⟨?_, rfl⟩, fun q => absurd (by omega) q⟩
    unfold bitsS
    rw [show (T 1 1).toNat = c by omega]
  | succ m ih =>
    intro c hc
    have i := ih (c + 1) (by omega)
    rw [show (((c + 1 : Nat)) : Int) = (c : Int) + 1 by omega] at i
    refine S_X13_onShelf_4 ?_
    rw [h.bk, h.nc, w32_of (by omega) (by omega), setF_or (by omega), bOr_0 (setF_R (by omega) _)]
    refine ⟨⟨by omega, by omega⟩, fun q => by omega, fun _ => Mw.ex (R_isOnShelf h hW (by omega) (by omega)) ⟨fun q => ?_, fun q => ?_⟩⟩
    · have z : ¬ whS T A c = 2 := fun z => by rw [if_pos z] at q; omega
      rw [setF_n (by simp [z])] at i; exact i
    · have z : whS T A c = 2 := Classical.byContradiction (fun z => by rw [if_neg z] at q; omega)
      rw [setF_s (by simp [z])] at i; exact i
theorem R_onShelf (h : RX s v b T A) (hW : WOK T A) : Mw g (e + 5) M_X13_onShelf [(21, 92), (0, v)] s (Ex (bitsS T A 2) s) := by
  have b8 := h.ok.2.1
  exact S_X13_onShelf (fun _ => onShelf_loop h hW (T 1 1).toNat 0 (by omega))
theorem together_R {Q : Int → Sg → Prop} (h : RX s 1 b T A) (hW : WOK T A) (hQ : Q (togS T A) s) : ∀ (m c : Nat), (c : Int) + m = T 1 1 → P_X13_later_94 g (e + 1) Q s (sumF c (A 2)) c := by
  intro m
  have b8 := h.ok.2.1
  have hb := h.b2
  induction m with
  | zero =>
    intro c hc
    refine S_X13_later_94 ?_
    rw [h.bk, h.nc]
    unfold togS at hQ
    rw [show (T 1 1).toNat = c by omega] at hQ
    exact ⟨⟨by omega, by omega⟩, fun _ => hQ, fun q => absurd (by omega) q⟩
  | succ m ih =>
    intro c hc
    have i := ih (c + 1) (by omega)
    rw [show (((c + 1 : Nat)) : Int) = (c : Int) + 1 by omega] at i
    have hsb := sumF_bd (f := A 2) (m := 999) (n := c) (fun k hk => (hW.1.2.2.2.1 k (by omega) (by omega)).2) (by decide)
    have hc2 := (hW.1.2.2.2.1 c (by omega) (by omega)).2
    refine S_X13_later_94 ?_
    rw [h.bk, h.nc, w32_of (show _ ≤ (c : Int) + 1 by omega) (by omega)]
    refine ⟨⟨by omega, by omega⟩, fun q => by omega, fun _ => Mw.ex (R_strong h (by omega) (by omega)) ?_⟩
    rw [w32_of (by omega) (by omega)]
    exact i
theorem R_isAhead {n l m : Int} (h : RX s 0 b T A) (hW : WOK T A) (l0 : 0 ≤ l) (m0 : m ≤ 1000) : Mw g (e + 2) M_X13_isAhead [(21, 92), (0, n), (0, l), (0, m)] s (Ex (if (l ≤ n ∧ n ≤ m) ∧ A 0 1 + n ≤ 999 then 1 else 0) s) := by
  have a1 := hW.1.1
  refine S_X13_isAhead (fun _ _ _ => Mw.ex R_is ?_)
  by_cases q : l ≤ n ∧ n ≤ m
  · rw [if_pos q, h.2.2.1, w32_of (by omega) (by omega)]
    refine ⟨fun z => by omega, fun _ => ⟨fun z => ⟨?_, rfl⟩, fun z => ⟨?_, rfl⟩⟩⟩
    · rw [if_neg (by omega)]
    · rw [if_pos (by omega)]
  · rw [if_neg q]
    refine ⟨fun _ => ⟨?_, rfl⟩, fun z => absurd rfl z⟩
    rw [if_neg (fun z => q z.1)]
theorem later_loop {n w : Int} (hT : TOK T) (w0 : 0 ≤ w) (w3 : w ≤ 3) (n6 : n ≤ 1000) : ∀ (m : Nat) (k f : Int) (s0 : Sg) (B : Wd), k + m = n → 0 ≤ k → RZ False s0 1 b T B → WOK T B → B 0 1 + m ≤ 999 → 0 ≤ f → f + 10 * m ≤ 100000 → Fp 1 s s0 →
    P_X13_later_33 g (e + 8) (fun r s' => r = laV T (aheA T m B) (f + aheF T m B) w ∧ Fp 1 s s') s0 n w f k := by
  intro m
  induction m with
  | zero =>
    intro k f s0 B hk k0 h hW hy f0 f1 hf
    refine S_X13_later_33 ⟨fun _ => ⟨fun q => ⟨fun q2 => ?_, fun q2 => ⟨fun q3 => Mw.ex (R_onShelf h.1 hW) ⟨?_, hf⟩, fun q3 => Mw.ex (R_builtIn h.1 hW) ⟨?_, hf⟩⟩⟩, fun q => ⟨?_, hf⟩⟩, fun q => absurd (by omega) q⟩
    · have b8 := hT.2.1
      refine together_R h.1 hW ⟨?_, hf⟩ (T 1 1).toNat 0 (by omega)
      show togS T B = laV T B _ w
      unfold laV
      rw [if_neg (by omega), if_neg (by omega), if_neg q]
    · show bitsS T B 2 = laV T B _ w
      unfold laV
      rw [if_neg q3, if_pos (by omega)]
    · show bitsS T B 3 = laV T B _ w
      unfold laV
      rw [if_pos q3]
    · show f = laV T B (f + 0) w
      unfold laV
      rw [if_neg (by omega), if_neg (by omega), if_pos q, Int.add_zero]
  | succ m ih =>
    intro k f s0 B hk k0 h hW hy f0 f1 hf
    have fb := falR_bd (fr := 0) hT hW (by omega)
    have pb := popF_bd fb.1 (by omega)
    refine S_X13_later_33 ⟨fun q => by omega, fun _ => (R_passes h hW (by omega)).imp (fun _ s6 h6 => ?_)⟩
    obtain ⟨c1, c2, c3, c4⟩ := h6
    rw [c3, w32_of (by omega) (by omega), w32_of (by omega) (by omega)]
    have := ih (k + 1) (f + popF (falR T 0 B).2.1) s6 (pasR T 0 B).1 (by omega) (by omega) c1 (pasR_ok hT hW (by omega)) (by rw [(pasR_y hT hW (by omega)).1]; omega) (by omega) (by omega) (hf.tr c4)
    rw [Int.add_assoc] at this
    exact this
theorem R_later {n w : Int} {B : Wd} (h : RX s 0 b T A) (hW : WOK T A) (hE : WEe A B 0) : Mw g (e + 9) M_X13_later [(21, 92), (0, n), (0, w)] s (fun r s' => r = laS T (A 0 1) B n w ∧ Fp 1 s s') := by
  have hT := h.ok
  refine S_X13_later (fun _ _ => Mw.ex (R_isAhead h hW (by decide) (by decide)) ⟨fun q => ⟨?_, Fp.rf⟩, fun q => Mw.ex R_is ⟨fun q2 => (R_try h).imp (fun _ s6 h6 => ?_), fun q2 => ⟨?_, Fp.rf⟩⟩⟩)
  · unfold laS
    rw [if_neg]
    intro z
    rw [if_pos ⟨⟨z.1.1, z.1.2.1⟩, z.1.2.2⟩] at q
    omega
  · have z1 : (0 ≤ n ∧ n ≤ 60) ∧ A 0 1 + n ≤ 999 := Classical.byContradiction (fun z => by rw [if_neg z] at q; omega)
    have z2 : 0 ≤ w ∧ w ≤ 3 := Classical.byContradiction (fun z => by rw [if_neg z] at q2; omega)
    have := later_loop (g := g) (e := e) (s := s) (n := n) hT z2.1 z2.2 (by omega) n.toNat 0 0 s6 B (by omega) (by decide) (h6.1.wee hW hE) (hE.ok0 hT hW) (by rw [hE.1]; omega) (by decide) (by omega) (Fp.of h6.2)
    unfold laS
    rw [if_pos ⟨⟨z1.1.1, z1.1.2, z1.2⟩, z2⟩]
    rw [Int.zero_add] at this
    exact this
  · unfold laS
    rw [if_neg]
    intro z
    rw [if_pos z.2] at q2
    omega
theorem R_isChild {c : Int} (h : RB s b T) : Mw g (e + 1) M_X13_isChild [(21, 92), (0, c)] s (Ex (if 0 ≤ c ∧ c < T 1 1 then 1 else 0) s) := by
  have hb := h.2.1
  refine S_X13_isChild (fun _ => ?_)
  rw [h.1, h.2.2.1.1.2.1]
  refine ⟨fun q => ⟨?_, rfl⟩, fun q => ⟨⟨by omega, by omega⟩, fun z => ⟨?_, rfl⟩, fun z => ⟨?_, rfl⟩⟩⟩
  · rw [if_neg (by omega)]
  · rw [if_neg (by omega)]
  · rw [if_pos (by omega)]
theorem R_isWall {c : Int} (h : RB s b T) : Mw g (e + 1) M_X13_isWall [(21, 92), (0, c)] s (Ex (if 0 ≤ c ∧ c < T 1 2 then 1 else 0) s) := by
  have hb := h.2.1
  refine S_X13_isWall (fun _ => ?_)
  rw [h.1, h.2.2.1.1.2.2.1]
  refine ⟨fun q => ⟨?_, rfl⟩, fun q => ⟨⟨by omega, by omega⟩, fun z => ⟨?_, rfl⟩, fun z => ⟨?_, rfl⟩⟩⟩
  · rw [if_neg (by omega)]
  · rw [if_neg (by omega)]
  · rw [if_pos (by omega)]
theorem R_isHome {c : Int} (h : RB s b T) : Mw g (e + 1) M_X13_isHome [(21, 92), (0, c)] s (Ex (if 0 ≤ c ∧ c < T 1 0 then 1 else 0) s) := by
  have hb := h.2.1
  refine S_X13_isHome (fun _ => ?_)
  rw [h.1, h.2.2.1.1.1]
  refine ⟨fun q => ⟨?_, rfl⟩, fun q => ⟨⟨by omega, by omega⟩, fun z => ⟨?_, rfl⟩, fun z => ⟨?_, rfl⟩⟩⟩
  · rw [if_neg (by omega)]
  · rw [if_neg (by omega)]
  · rw [if_pos (by omega)]
theorem fbR_loop {c : Int} (hA : WOK T A) (c0 : 0 ≤ c) (c1 : c < T 1 1) (hy : A 0 1 ≤ 999) : ∀ (n : Nat) (k : Int) (s0 : Sg) (Y : Wd), k + n = 62 → 0 ≤ k → RX s0 0 b T A → RZ False s0 1 b T Y → WOK T Y → (A 0 1 + k ≤ 999 → Y 0 1 = A 0 1 + k) → Fp 1 s s0 →
    P_X13_built_18 g (e + 8) (fun r s' => r = fbF T c (A 0 1) n k Y ∧ Fp 1 s s') s0 c k := by
  intro n
  induction n with
  | zero =>
    intro k s0 Y hk k0 h h1 hW hyk hf
    refine S_X13_built_18 (Mw.ex (R_isAhead h hA (by decide) (by decide)) ⟨fun _ => ⟨rfl, hf⟩, fun q => ?_⟩)
    rw [if_neg (by omega)] at q
    exact absurd rfl q
  | succ n ih =>
    intro k s0 Y hk k0 h h1 hW hyk hf
    have hT := h.ok
    have b8 := hT.2.1
    have hp := waP_n (pl_in hW.2.1 c0 (show c < 8 by omega))
    refine S_X13_built_18 (Mw.ex (R_isAhead h hA (by decide) (by decide)) ⟨fun q => ⟨?_, hf⟩, fun q => ?_⟩)
    · show (-1 : Int) = (if 60 < k ∨ 999 < A 0 1 + k then (-1 : Int) else _)
      rw [if_pos]
      apply Classical.byContradiction
      intro z
      rw [if_pos (by omega)] at q
      omega
    · have z : (0 ≤ k ∧ k ≤ 60) ∧ A 0 1 + k ≤ 999 := Classical.byContradiction (fun z => by rw [if_neg z] at q; omega)
      have yk := hyk z.2
      refine Mw.ex (R_inWall h1.1 c0 c1) ⟨fun q3 => (R_passes h1 hW (by omega)).imp (fun _ s6 h6 => ?_), fun q3 => ⟨?_, hf⟩⟩
      · obtain ⟨d1, d2, d3, d4⟩ := h6
        have e1 : fbF T c (A 0 1) (n + 1) k Y = fbF T c (A 0 1) n (k + 1) (pasR T 0 Y).1 := by
          show (if 60 < k ∨ 999 < A 0 1 + k then (-1 : Int) else if Y 3 c ≠ -1 then k else _) = _
          rw [if_neg (by omega), if_neg (fun y => y (hp.mp q3))]
        rw [e1, w32_of (by omega) (by omega)]
        have h0 : RZ False s0 0 b T A := ⟨h, fun k => k.elim⟩
        exact ih (k + 1) s6 (pasR T 0 Y).1 (by omega) (by omega) (h0.fp d4 (by decide) (fun k => k.elim)).1 d1 (pasR_ok hT hW (by omega)) (fun q => by rw [(pasR_y hT hW (by omega)).1]; omega) (hf.tr d4)
      · show k = (if 60 < k ∨ 999 < A 0 1 + k then (-1 : Int) else if Y 3 c ≠ -1 then k else _)
        rw [if_neg (by omega), if_pos (fun y => q3 (hp.mpr y))]
def buS (T : Tn) (y : Int) (B : Wd) (c : Int) : Int := if 0 ≤ c ∧ c < T 1 1 then fbF T c y 62 0 B else -1
theorem R_built {c : Int} {B : Wd} (h : RX s 0 b T A) (hW : WOK T A) (hE : WEe A B 0) (hy : A 0 1 ≤ 999) : Mw g (e + 9) M_X13_built [(21, 92), (0, c)] s (fun r s' => r = buS T (A 0 1) B c ∧ Fp 1 s s') := by
  have hT := h.ok
  unfold buS
  refine S_X13_built (fun _ => Mw.ex (R_isChild h.1) ⟨fun q => (R_try h).imp (fun _ s4 h4 => ?_), fun q => ⟨?_, Fp.rf⟩⟩)
  · have z : 0 ≤ c ∧ c < T 1 1 := Classical.byContradiction (fun z => by rw [if_neg z] at q; omega)
    rw [if_pos z]
    have h0 : RZ False s 0 b T A := ⟨h, fun k => k.elim⟩
    exact fbR_loop hW z.1 z.2 hy 62 0 s4 B (by decide) (by decide) (h0.fp (Fp.of h4.2) (by decide) (fun k => k.elim)).1 (h4.1.wee hW hE) (hE.ok0 hT hW) (fun _ => by rw [hE.1, Int.add_zero]) (Fp.of h4.2)
  · rw [if_neg]
    intro z
    rw [if_pos z] at q
    omega
def doS (T : Tn) (B : Wd) (c : Int) : Int := if (0 ≤ c ∧ c < T 1 1) ∧ B 3 c ≠ -1 then (dwnX T B c).2.1 else -1
theorem R_down {c : Int} {B : Wd} (h : RX s 0 b T A) (hW : WOK T A) (hE : WEe A B 0) : Mw g (e + 7) M_X13_down [(21, 92), (0, c)] s (fun r s' => r = doS T B c ∧ Fp 1 s s') := by
  have hT := h.ok
  have b8 := hT.2.1
  unfold doS
  refine S_X13_down (fun _ => Mw.ex (R_isChild h.1) ⟨fun q => ⟨?_, Fp.rf⟩, fun q => ?_⟩)
  · rw [if_neg]
    intro z
    rw [if_pos z.1] at q
    omega
  · have z : 0 ≤ c ∧ c < T 1 1 := Classical.byContradiction (fun z => by rw [if_neg z] at q; omega)
    have hp := waP_n (pl_in hW.2.1 z.1 (show c < 8 by omega))
    have e3 : B 3 c = A 3 c := (hE.2.2.2.1 c z.1 (by omega)).2.2
    refine Mw.ex (R_inWall h z.1 z.2) ⟨fun q2 => (R_try h).imp (fun _ s6 h6 => ?_), fun q2 => ⟨?_, Fp.rf⟩⟩
    · have hB := hE.ok0 hT hW
      have h3 : B 3 c ≠ -1 := by rw [e3]; exact fun y => q2 (hp.mpr y)
      obtain ⟨⟨p0, p1⟩, hl⟩ := built_lie hB z.1 (show c < 8 by omega) h3
      rw [if_pos ⟨z, h3⟩]
      refine (R_takesDown (h6.1.wee hW hE) hB z.1 z.2 h3).imp (fun r7 s8 h8 => ?_)
      have d1 := (dropX_spec (X := (B, 0, 0)) hB p0 p1 hl).1
      refine (R_falls h8.2.1 d1).imp (fun r9 s10 h10 => ⟨?_, Fp.of ((h6.2.tr h8.2.2).tr h10.2.2)⟩)
      have db := (dropX_bit (A := B) hB p0 p1 hl).1
      have fw := (fallX_w (T := T) 8 (dropX (B, 0, 0) (B 3 c)) ⟨by omega, by omega⟩).2
      rw [h8.1, h10.1]
      unfold dwnX
      rw [fw]
    · rw [if_neg]
      rintro ⟨_, y⟩
      rw [e3] at y
      exact y (hp.mp q2)
end RLATER
