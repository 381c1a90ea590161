/-! on: the class -/
section CON2
variable {g : GT} {e : Nat} {s : Sg} {T : Tn} {tw n : Int} {B : Int → Int}
theorem CZ.up02 {V : Wd} {x : Int} (h : CZ s 58 tw T (V, 0, 0) 0) (h0 : 0 ≤ x) (h1 : x < 1024) : CZ (ups s 58 2 x) 58 tw T (ups V 0 2 x, 0, 0) 0 := by
  obtain ⟨q1, q2, q3, q4⟩ := h
  refine ⟨q1.up0 (by decide) ?_, by rw [ups_k _ (by decide)]; exact q2, by rw [ups_k _ (by decide)]; exact q3, by rw [ups_k _ (by decide)]; exact q4⟩
  obtain ⟨w1, w2, w3, w4, w5⟩ := q1.n
  have e1 : ups V 0 2 x 1 = V 1 := ups_at _ (by decide)
  have e2 : ups V 0 2 x 2 = V 2 := ups_at _ (by decide)
  unfold WN
  rw [ups_k _ (by decide), ups_eq, ups_k _ (by decide), e1, e2]
  exact ⟨w1, ⟨h0, h1⟩, w3, w4, w5⟩
/-- all that counts but the ended feuds -/
def OnV (T : Tn) (B : Int → Int) (W : Wd) : Prop := W 0 1 = yrO B ∧ W 0 9 = 0 ∧ (∀ k, 0 ≤ k → k < T 1 1 → W 1 k = hmO B k ∧ W 2 k = stO B k ∧ W 3 k = plO B k) ∧ (∀ k, T 1 1 ≤ k → k < 8 → W 3 k = -1) ∧ WI0 W ∧ HC W
theorem OnV.up {W : Wd} {x : Int} (h : OnV T B W) : OnV T B (ups W 0 2 x) := by
  have ea : ∀ a, a ≠ 0 → ups W 0 2 x a = W a := fun a ha => ups_at _ ha
  obtain ⟨h1, h2, h3, h4, h5, h6⟩ := h
  refine ⟨by rw [ups_k _ (by decide)]; exact h1, by rw [ups_k _ (by decide)]; exact h2, ?_, ?_, ?_, ?_⟩
  · rw [ea 1 (by decide), ea 2 (by decide), ea 3 (by decide)]; exact h3
  · rw [ea 3 (by decide)]; exact h4
  · unfold WI0; rw [ea 3 (by decide), ea 4 (by decide)]; exact h5
  · unfold HC; rw [ea 4 (by decide), ea 5 (by decide)]; exact h6
theorem lie_pl {W : Wd} (hT : TOK T) (h : OnV T B W) {p : Int} (p0 : 0 ≤ p) (p1 : p < 64) : W 4 p ≠ -1 ↔ ∃ k, 0 ≤ k ∧ k < T 1 1 ∧ plO B k = p := by
  have t8 := hT.2.1
  obtain ⟨h1, h2, h3, h4, h5, h6⟩ := h
  constructor
  · intro z
    obtain ⟨y1, y2, y3⟩ := (h5.2 p p0 p1).resolve_left z
    have lt : W 4 p < T 1 1 := Classical.byContradiction (fun x => by have := h4 (W 4 p) (by omega) y2; omega)
    exact ⟨W 4 p, y1, lt, by rw [← (h3 _ y1 lt).2.2]; exact y3⟩
  · rintro ⟨k, k0, k1, k2⟩ z
    have e := (h3 k k0 k1).2.2
    rcases h5.1 k k0 (by omega) with y | ⟨y1, y2, y3⟩
    · omega
    · rw [e, k2, z] at y3; omega
theorem rd_rest {W : Wd} (hT : TOK T) (hx : CZ s 58 tw T (W, 0, 0) 0) (h : OnV T B W) (hB : ∀ k, 0 ≤ k → k < n → 0 ≤ B k ∧ B k ≤ 255) (hn : feO T ≤ n) (hk : ∀ c, 0 ≤ c → c < T 1 1 → ckO T B c) :
    ∀ (j : Nat) (c : Int), 0 ≤ c → c + j = T 1 1 → (∀ k, 0 ≤ k → k < c → rsO T B k) → P_X3_allRest_2 g (e + 1) (fun r s' => ((∀ k, 0 ≤ k → k < T 1 1 → rsO T B k) → r = 1) ∧ (¬ (∀ k, 0 ≤ k → k < T 1 1 → rsO T B k) → r = 0) ∧ s' = s) s 58 c := by
  have t8 := hT.2.1
  intro j
  induction j with
  | zero =>
    intro c c0 hc hr
    refine S_X3_allRest_2 ?_
    rw [hx.1.tp]
    refine Mw.ex (C_childCount hx.1) ⟨fun _ => ⟨fun _ => rfl, fun z => absurd (fun k k0 k1 => hr k k0 (by omega)) z, rfl⟩, fun q => absurd (by omega) q⟩
  | succ j ih =>
    intro c c0 hc hr
    have ec := (h.2.2.1 c c0 (by omega)).2.2
    have nx : rsO T B c → P_X3_allRest_2 g (e + 1) (fun r s' => ((∀ k, 0 ≤ k → k < T 1 1 → rsO T B k) → r = 1) ∧ (¬ (∀ k, 0 ≤ k → k < T 1 1 → rsO T B k) → r = 0) ∧ s' = s) s 58 (w32 (c + 1)) := fun z => by
      rw [w32_of (by omega) (by omega)]
      exact ih (c + 1) (by omega) (by omega) (fun k k0 k1 => by
        by_cases y : k = c
        · rw [y]; exact z
        · exact hr k k0 (by omega))
    refine S_X3_allRest_2 ?_
    rw [hx.1.tp]
    refine Mw.ex (C_childCount hx.1) ⟨fun q => absurd q (by omega), fun _ => ⟨⟨c0, by omega⟩, ?_⟩⟩
    have w3 : s (58 + 3) = W 3 := hx.1.w3
    have w4 : s (58 + 4) = W 4 := hx.1.w4
    rw [w3, w4, ec]
    refine ⟨fun z => nx (fun y => absurd z y), fun z => ?_⟩
    obtain ⟨a1, a2, a3, a4, a5⟩ := (ok_wl hT c0 (by omega) hB hn (hk c c0 (by omega))).resolve_left z
    have m4 : plO B c % 4 = cuO B c := by omega
    rw [tm_of (by omega), m4, w32_of (show _ ≤ plO B c - 1 by omega) (by omega)]
    refine ⟨fun y => nx (fun _ x => absurd x (by omega)), fun y => ⟨⟨by omega, by omega⟩, fun x => nx (fun _ _ => (lie_pl hT h (by omega) (by omega)).mp x), fun x => ⟨fun u => ?_, fun _ => rfl, rfl⟩⟩⟩
    exfalso
    exact (lie_pl hT h (by omega) (by omega)).mpr (u c c0 (by omega) z (by omega)) x
theorem on_ok {W : Wd} (hT : TOK T) (hx : WN T W) (h : OnV T B W) (hB : ∀ k, 0 ≤ k → k < n → 0 ≤ B k ∧ B k ≤ 255) (hn : feO T ≤ n) (hk : ∀ c, 0 ≤ c → c < T 1 1 → ckO T B c) (hr : ∀ k, 0 ≤ k → k < T 1 1 → rsO T B k) : WOK T W := by
  have t8 := hT.2.1
  refine ⟨hx, h.2.2.2.2.1, fun q q0 q1 => ?_, fun c c0 c8 hc => ?_⟩
  · have hh := h.2.2.2.2.2 q q0 q1
    have below : ∀ j, 1 ≤ j → j < 4 → W 4 (4 * q + j) ≠ -1 → W 4 (4 * q + j - 1) ≠ -1 := fun j j0 j1 z => by
      obtain ⟨k, k0, k1, k2⟩ := (lie_pl hT h (by omega) (by omega)).mp z
      have a := (ok_wl hT k0 k1 hB hn (hk k k0 k1)).resolve_left (by omega)
      obtain ⟨m, m0, m1, m2⟩ := hr k k0 k1 (by omega) (by omega)
      exact (lie_pl hT h (by omega) (by omega)).mpr ⟨m, m0, m1, by omega⟩
    have b1 := below 1 (by decide) (by decide)
    have b2 := below 2 (by decide) (by decide)
    have b3 := below 3 (by decide) (by decide)
    rw [show 4 * q + 1 - 1 = 4 * q by omega] at b1
    rw [show 4 * q + 2 - 1 = 4 * q + 1 by omega] at b2
    rw [show 4 * q + 3 - 1 = 4 * q + 2 by omega] at b3
    refine ⟨(h.2.2.2.2.2.b q0 q1).1, (h.2.2.2.2.2.b q0 q1).2, fun j j0 j1 => ?_⟩
    by_cases z0 : W 4 (4 * q) = -1
    · have z1 : W 4 (4 * q + 1) = -1 := Classical.byContradiction (fun z => b1 z z0)
      have z2 : W 4 (4 * q + 2) = -1 := Classical.byContradiction (fun z => b2 z z1)
      have z3 : W 4 (4 * q + 3) = -1 := Classical.byContradiction (fun z => b3 z z2)
      rw [if_pos z0, if_pos z1, if_pos z2, if_pos z3] at hh
      rcases (show j = 0 ∨ j = 1 ∨ j = 2 ∨ j = 3 by omega) with y | y | y | y <;> subst y
      · rw [Int.add_zero]; exact ⟨fun _ => by omega, fun _ => z0⟩
      · exact ⟨fun _ => by omega, fun _ => z1⟩
      · exact ⟨fun _ => by omega, fun _ => z2⟩
      · exact ⟨fun _ => by omega, fun _ => z3⟩
    · rw [if_neg z0] at hh
      by_cases z1 : W 4 (4 * q + 1) = -1
      · have z2 : W 4 (4 * q + 2) = -1 := Classical.byContradiction (fun z => b2 z z1)
        have z3 : W 4 (4 * q + 3) = -1 := Classical.byContradiction (fun z => b3 z z2)
        rw [if_pos z1, if_pos z2, if_pos z3] at hh
        rcases (show j = 0 ∨ j = 1 ∨ j = 2 ∨ j = 3 by omega) with y | y | y | y <;> subst y
        · rw [Int.add_zero]; exact ⟨fun z => absurd z z0, fun z => by omega⟩
        · exact ⟨fun _ => by omega, fun _ => z1⟩
        · exact ⟨fun _ => by omega, fun _ => z2⟩
        · exact ⟨fun _ => by omega, fun _ => z3⟩
      · rw [if_neg z1] at hh
        by_cases z2 : W 4 (4 * q + 2) = -1
        · have z3 : W 4 (4 * q + 3) = -1 := Classical.byContradiction (fun z => b3 z z2)
          rw [if_pos z2, if_pos z3] at hh
          rcases (show j = 0 ∨ j = 1 ∨ j = 2 ∨ j = 3 by omega) with y | y | y | y <;> subst y
          · rw [Int.add_zero]; exact ⟨fun z => absurd z z0, fun z => by omega⟩
          · exact ⟨fun z => absurd z z1, fun z => by omega⟩
          · exact ⟨fun _ => by omega, fun _ => z2⟩
          · exact ⟨fun _ => by omega, fun _ => z3⟩
        · rw [if_neg z2] at hh
          by_cases z3 : W 4 (4 * q + 3) = -1
          · rw [if_pos z3] at hh
            rcases (show j = 0 ∨ j = 1 ∨ j = 2 ∨ j = 3 by omega) with y | y | y | y <;> subst y
            · rw [Int.add_zero]; exact ⟨fun z => absurd z z0, fun z => by omega⟩
            · exact ⟨fun z => absurd z z1, fun z => by omega⟩
            · exact ⟨fun z => absurd z z2, fun z => by omega⟩
            · exact ⟨fun _ => by omega, fun _ => z3⟩
          · rw [if_neg z3] at hh
            rcases (show j = 0 ∨ j = 1 ∨ j = 2 ∨ j = 3 by omega) with y | y | y | y <;> subst y
            · rw [Int.add_zero]; exact ⟨fun z => absurd z z0, fun z => by omega⟩
            · exact ⟨fun z => absurd z z1, fun z => by omega⟩
            · exact ⟨fun z => absurd z z2, fun z => by omega⟩
            · exact ⟨fun z => absurd z z3, fun z => by omega⟩
  · have lt : c < T 1 1 := Classical.byContradiction (fun x => hc (h.2.2.2.1 c (by omega) c8))
    have ec := (h.2.2.1 c c0 lt).2.2
    rw [ec] at hc ⊢
    obtain ⟨a1, a2, a3, a4, a5⟩ := (ok_wl hT c0 lt hB hn (hk c c0 lt)).resolve_left hc
    have ck := (hk c c0 lt).2.2.2 a5
    have d16 : plO B c / 16 = wlO B c := by omega
    refine ⟨lt, by omega, ?_, ?_, ?_⟩
    · rw [d16]; omega
    · rw [d16]; omega
    · unfold ageS; rw [h.1]; exact ck.2.1
abbrev PO (s : Sg) (tw n : Int) (T : Tn) (B : Int → Int) : Int → Sg → Prop := fun r s' => (okO T n B → r = 1 ∧ ∃ W, CZ s' 58 tw T (W, 0, 0) 0 ∧ WOK T W ∧ OnW T B W) ∧ (¬ okO T n B → r = 0) ∧ Fr J58 s s'
theorem rd_100 (hw : isT tw) (hT : TOK T) (hn : n = feO T + T 0 13 + 1) (hs : suI B (n - 1).toNat 0 167 = B (n - 1)) (hy : yrO B ≤ 999) (hk : ∀ c, 0 ≤ c → c < T 1 1 → ckO T B c ∧ dsO B c) : ∀ (j f : Nat) (s0 : Sg) (W : Wd), (f : Int) + j = T 0 13 → CZ s0 58 tw T (W, 0, 0) 0 → CTp s0 n B → OnV T B W → W 0 2 = enO B (feO T) f → (∀ x : Nat, x < f → B (feO T + x) ≤ 1) → Fr J58 s s0 →
    P_X3_read_100 g (e + 2) (PO s tw n T B) s0 tw 58 (feO T) 1 f := by
  have t8 := hT.2.1
  have t13 := hT.2.2.2.1
  have nf : feO T = 2 + 6 * T 1 1 := rfl
  intro j
  induction j with
  | zero =>
    intro f s0 W hf hx ht hV he hb hfr
    have bB : ∀ k, 0 ≤ k → k < n → 0 ≤ B k ∧ B k ≤ 255 := fun k k0 k1 => (ht.2.2 k k0 k1).2
    refine S_X3_read_100 ?_
    have t0 : s0 tw = T 0 := hx.1.t0
    rw [t0]
    refine ⟨fun _ => ⟨fun z => absurd z (by decide), fun _ => ?_⟩, fun q => absurd (by omega) q⟩
    refine (S_X3_allRest (fun _ => rd_rest hT hx hV bB (by omega) (fun c c0 c1 => (hk c c0 c1).1) (T 1 1).toNat 0 (by decide) (by omega) (fun k k0 k1 => by omega))).imp (fun r s2 h2 => ?_)
    obtain ⟨r1, r2, r3⟩ := h2
    subst r3
    have iff : okO T n B ↔ ∀ k, 0 ≤ k → k < T 1 1 → rsO T B k := ⟨fun z => z.2.2.2.2.2, fun z => ⟨hn, hs, hy, hk, fun x x0 x1 => by have := hb x.toNat (by omega); rw [show ((x.toNat : Nat) : Int) = x by omega] at this; exact this, z⟩⟩
    refine ⟨fun z => ⟨fun y => ?_, fun _ => rfl, hfr⟩, fun z => ⟨fun y => ⟨rfl, W, hx, on_ok hT hx.1.n hV bB (by omega) (fun c c0 c1 => (hk c c0 c1).1) (iff.mp y), hV.1, ?_, hV.2.1, hV.2.2.1⟩, fun y => ?_, hfr⟩⟩
    · have := r1 (iff.mp y); omega
    · rw [he, show (T 0 13).toNat = f by omega]
    · exfalso; exact z (r2 (fun x => y (iff.mpr x)))
  | succ j ih =>
    intro f s0 W hf hx ht hV he hb hfr
    have b := (ht.2.2 (feO T + f) (by omega) (by omega)).2
    refine S_X3_read_100 ?_
    have t0 : s0 tw = T 0 := hx.1.t0
    rw [t0, w32_of (show _ ≤ feO T + (f : Int) by omega) (by omega)]
    refine ⟨fun q => absurd q (by omega), fun _ => Mw.ex (C_byteAt ht (by omega) (by omega)) ⟨fun q => ?_, fun q => ?_⟩⟩
    · have fail : ∀ s1, Fr J58 s0 s1 → P_X3_read_100 g (e + 2) (PO s tw n T B) s1 tw 58 (feO T) (bAnd 1 0) (w32 ((f : Int) + 1)) := fun s1 f1 => by
        rw [show bAnd 1 0 = 0 by decide +kernel, w32_of (by omega) (by omega)]
        refine rd_no (e := e + 1) (s := s) hw hT hn (fun s' f' => ⟨fun z => ?_, fun _ => rfl, f'⟩) j (f + 1) s1 (by omega) (hx.1.2.2.2.1.j58 hw f1) (ht.j58 f1) (hfr.tr f1)
        have := z.2.2.2.2.1 f (by omega) (by omega)
        omega
      have u : ∀ (k v : Int), Fr J58 s0 (ups s0 58 k v) := fun k v => Fr.up (J58_i (by decide) (by decide))
      exact S_X3_read_132 ⟨fun _ s1 e1 => fail s1 (by rw [e1]; exact u _ _), fun _ s1 e1 => fail s1 (by rw [e1]; exact u _ _)⟩
    · have e2 : s0 58 2 = W 0 2 := hx.1.en
      have hb' : ∀ x : Nat, x < f + 1 → B (feO T + x) ≤ 1 := fun x hx2 => by
        by_cases y : x = f
        · rw [y]; omega
        · exact hb x (by omega)
      have h01 : ∀ x : Nat, x < f + 1 → B (feO T + x) = 0 ∨ B (feO T + x) = 1 := fun x hx2 => by
        have := hb' x hx2
        have := (ht.2.2 (feO T + x) (by omega) (by omega)).2
        omega
      have eb := enO_bd (B := B) (fe := feO T) (f + 1) (by omega) h01
      have go : ∀ s1, s1 = ups s0 58 2 (enO B (feO T) (f + 1)) → P_X3_read_100 g (e + 2) (PO s tw n T B) s1 tw 58 (feO T) (bAnd 1 1) (w32 ((f : Int) + 1)) := fun s1 e1 => by
        have f1 : Fr J58 s0 s1 := by rw [e1]; exact Fr.up (J58_i (by decide) (by decide))
        rw [show bAnd 1 1 = 1 by decide +kernel, w32_of (by omega) (by omega)]
        refine ih (f + 1) s1 (ups W 0 2 (enO B (feO T) (f + 1))) (by omega) (by rw [e1]; exact hx.up02 eb.1 eb.2) (ht.j58 f1) hV.up (ups_eq _ _ _ _) hb' (hfr.tr f1)
      refine S_X3_read_132 ⟨fun z s1 e1 => go s1 ?_, fun z s1 e1 => go s1 ?_⟩
      · rw [e1, e2, he]
        have : B (feO T + f) = 0 := by omega
        show ups s0 58 2 (bOr (enO B (feO T) f) 0) = ups s0 58 2 (bOr (enO B (feO T) f) (bShl (B (feO T + f)) f))
        rw [this, bShl_01 f (by omega)]
      · rw [e1, e2, he]
        show ups s0 58 2 (bOr (enO B (feO T) f) (bShl 1 f)) = ups s0 58 2 (bOr (enO B (feO T) f) (bShl (B (feO T + f)) f))
        rw [z]
theorem rd_68 (hw : isT tw) (hT : TOK T) (hn : n = feO T + T 0 13 + 1) (hs : suI B (n - 1).toNat 0 167 = B (n - 1)) (hy0 : 0 ≤ yrO B) (hy : yrO B ≤ 999) : ∀ (j : Nat) (c : Int) (s0 : Sg) (W : Wd), 0 ≤ c → c + j = T 1 1 → CZ s0 58 tw T (W, 0, 0) 0 → CTp s0 n B → OnP T B W c → (∀ k, 0 ≤ k → k < c → ckO T B k ∧ dsO B k) → Fr J58 s s0 →
    P_X3_read_68 g (e + 3) (PO s tw n T B) s0 tw 58 (feO T) 1 c := by
  have t8 := hT.2.1
  have t13 := hT.2.2.2.1
  have nf : feO T = 2 + 6 * T 1 1 := rfl
  intro j
  induction j with
  | zero =>
    intro c s0 W c0 hc hx ht hP hk hfr
    refine S_X3_read_68 (Mw.ex (C_childCount hx.1) ⟨fun _ => ?_, fun q => absurd (by omega) q⟩)
    refine rd_100 (e := e + 1) hw hT hn hs hy (fun k k0 k1 => hk k k0 (by omega)) (T 0 13).toNat 0 s0 W (by omega) hx ht ⟨hP.1, hP.2.2.1, fun k k0 k1 => hP.2.2.2.1 k k0 (by omega), fun k k0 k1 => (hP.2.2.2.2.1 k (by omega) k1).2.2, hP.2.2.2.2.2.1, hP.2.2.2.2.2.2⟩ hP.2.1 (fun x hx2 => by omega) hfr
  | succ j ih =>
    intro c s0 W c0 hc hx ht hP hk hfr
    refine S_X3_read_68 (Mw.ex (C_childCount hx.1) ⟨fun q => absurd q (by omega), fun _ => ⟨fun q => absurd q (by decide), fun _ => ?_⟩⟩)
    refine (rd_stone hT hx ht hn ⟨hy0, hy⟩ c0 (by omega) hP (fun k k0 k1 => (hk k k0 k1).1)).imp (fun r s4 h4 => ?_)
    obtain ⟨h1, h2, f4⟩ := h4
    rw [w32_of (by omega) (by omega)]
    by_cases z : ckO T B c ∧ dsO B c
    · obtain ⟨r1, V, x4, p4⟩ := h1 z
      rw [r1]
      refine ih (c + 1) s4 V (by omega) (by omega) x4 (ht.j58 f4) p4 (fun k k0 k1 => ?_) (hfr.tr f4)
      by_cases y : k = c
      · rw [y]; exact z
      · exact hk k k0 (by omega)
    · rw [h2 z]
      have ct := hx.1.2.2.2.1.j58 hw f4
      have no : P_X3_read_100 g (e + 3) (PO s tw n T B) s4 tw 58 (feO T) 0 ((0 : Nat) : Int) := rd_no (e := e + 2) (s := s) hw hT hn (fun s' f' => ⟨fun y => absurd (y.2.2.2.1 c c0 (by omega)) z, fun _ => rfl, f'⟩) (T 0 13).toNat 0 s4 (by omega) ct (ht.j58 f4) (hfr.tr f4)
      have cc : Mw g (e + 3) M_X9_childCount [(18, tw)] s4 (Ex (T 1 1) s4) := S_X9_childCount (fun _ => ⟨by rw [ct.2 1 (by decide) (by decide) (by decide)], rfl⟩)
      exact S_X3_read_68 (Mw.ex cc ⟨fun _ => no, fun _ => ⟨fun _ => no, fun q => absurd rfl q⟩⟩)
theorem C_read (hw : isT tw) (hT : TOK T) (hx : CT s tw T) (ht : CTp s n B) : Mw g (e + 4) M_X3_read [(17, 2), (18, tw), (19, 58)] s (PO s tw n T B) := by
  have t8 := hT.2.1
  have t13 := hT.2.2.2.1
  have nf : feO T = 2 + 6 * T 1 1 := rfl
  have cc : Mw g (e + 3) M_X9_childCount [(18, tw)] s (Ex (T 1 1) s) := S_X9_childCount (fun _ => ⟨by rw [hx.2 1 (by decide) (by decide) (by decide)], rfl⟩)
  refine S_X3_read (fun _ _ => Mw.ex cc ?_)
  rw [ht.1, hx.1, w32_of (show _ ≤ 6 * T 1 1 by omega) (by omega), w32_of (show _ ≤ 2 + 6 * T 1 1 by omega) (by omega), ← nf, w32_of (show _ ≤ feO T + T 0 13 by omega) (by omega), w32_of (show _ ≤ feO T + T 0 13 + 1 by omega) (by omega)]
  refine ⟨fun q => ⟨fun z => absurd z.1 q, fun _ => rfl, Fr.rf⟩, fun hn => ?_⟩
  have sf := sum_fit (g := g) (e := e + 1) ht (by omega) (by omega) (n - 1).toNat 0 167 (by omega) (by decide) (by decide)
  refine Mw.ex (S_X3_sumFits sf) ⟨fun q => ?_, fun q => ⟨fun z => ?_, fun _ => rfl, Fr.rf⟩⟩
  · have hs : suI B (n - 1).toNat 0 167 = B (n - 1) := Classical.byContradiction (fun z => q (if_neg z))
    refine (C_begin hT hx (Or.inr rfl) hw).imp (fun _ s6 h6 => ?_)
    obtain ⟨W, x6, hG, f6⟩ := h6
    have f6' : Fr J58 s s6 := f6.wk (fun o z => J58_i z.1 (by omega))
    have t6 := ht.j58 f6'
    have y0 := (ht.2.2 0 (by decide) (by omega)).2
    have y1 := (ht.2.2 1 (by decide) (by omega)).2
    refine Mw.ex (C_pairAt t6 (by decide) (by omega)) (fun s9 e9 => ?_)
    have ey : B 0 * 256 + B (0 + 1) = yrO B := rfl
    rw [ey] at e9
    have f9 : Fr J58 s6 s9 := by rw [e9]; exact Fr.up (J58_i (by decide) (by decide))
    have e91 : s9 58 1 = yrO B := by rw [e9, ups_eq]
    have hy0 : 0 ≤ yrO B := by unfold yrO; omega
    rw [e91]
    refine ⟨fun z => ?_, fun z => ?_⟩
    · have ct := hx.j58 hw (f6'.tr f9)
      have no : P_X3_read_100 g (e + 3) (PO s tw n T B) s9 tw 58 (feO T) 0 ((0 : Nat) : Int) := rd_no (e := e + 2) (s := s) hw hT hn (fun s' f' => ⟨fun y => absurd y.2.2.1 (by omega), fun _ => rfl, f'⟩) (T 0 13).toNat 0 s9 (by omega) ct (t6.j58 f9) (f6'.tr f9)
      have cc : Mw g (e + 3) M_X9_childCount [(18, tw)] s9 (Ex (T 1 1) s9) := S_X9_childCount (fun _ => ⟨by rw [ct.2 1 (by decide) (by decide) (by decide)], rfl⟩)
      exact S_X3_read_68 (Mw.ex cc ⟨fun _ => no, fun _ => ⟨fun _ => no, fun q => absurd rfl q⟩⟩)
    · have w9 : WN T (ups W 0 1 (yrO B)) := by
        obtain ⟨w1, w2, w3, w4, w5⟩ := x6.1.n
        have e1 : ups W 0 1 (yrO B) 1 = W 1 := ups_at _ (by decide)
        have e2 : ups W 0 1 (yrO B) 2 = W 2 := ups_at _ (by decide)
        unfold WN
        rw [ups_eq, ups_k _ (by decide), ups_k _ (by decide), e1, e2]
        exact ⟨by omega, w2, w3, w4, w5⟩
      have x9 := x6.yea (v := yrO B) w9
      rw [← e9] at x9
      refine rd_68 hw hT hn hs hy0 (by omega) (T 1 1).toNat 0 s9 _ (by decide) (by omega) x9 (t6.j58 f9) ?_ (fun k k0 k1 => by omega) (f6'.tr f9)
      obtain ⟨g1, g2, g3, g4, g5, g6⟩ := hG
      have ea : ∀ a, a ≠ 0 → ups W 0 1 (yrO B) a = W a := fun a ha => ups_at _ ha
      refine ⟨ups_eq _ _ _ _, by rw [ups_k _ (by decide)]; exact g2, by rw [ups_k _ (by decide)]; exact g3, fun k k0 k1 => by omega, ?_, ⟨fun k k0 k1 => ?_, fun p p0 p1 => ?_⟩, fun q q0 q1 => ?_⟩
      · rw [ea 1 (by decide), ea 2 (by decide), ea 3 (by decide)]; exact g4
      · left; rw [ea 3 (by decide)]; exact (g4 k k0 k1).2.2
      · left; rw [ea 4 (by decide)]; exact g5 p p0 p1
      · rw [ea 4 (by decide), ea 5 (by decide), g6 q q0 q1, g5 _ (by omega) (by omega), g5 _ (by omega) (by omega), g5 _ (by omega) (by omega), g5 _ (by omega) (by omega)]
        rfl
  · rw [if_pos z.2.1] at q; omega
def Jon (o : Int) : Prop := Jw 48 o ∨ Jw 58 o ∨ o = 65 ∨ o = 2
theorem C_on {A : Wd} {u : Int} {U : Int → Wd} (hs : CS s tw T A u U) (ht : CTp s n B) : Mw g (e + 5) M_X12_on [(20, 1)] s (fun r s' => (okO T n B → r = 1 ∧ ∃ W, CS s' tw T W 0 U ∧ OnW T B W ∧ s' 2 1 = 0 ∧ Fr Jon s s') ∧ (¬ okO T n B → r = 0 ∧ ∃ s1, CS s1 tw T A u U ∧ s1 2 1 = 0 ∧ Fr Jon s s1 ∧ s1 91 = s 91 ∧ s' = ups s1 91 5 (w32 (s1 91 5 + 1)))) := by
  obtain ⟨h8, hx, hW, hF, hy, hU, hO⟩ := hs
  have hw := hx.2.1
  refine S_X12_on ?_
  rw [h8]
  refine (C_read hw hx.ok hx.2.2.2.1 ht).imp (fun r s2 h2 s3 e3 => ?_)
  obtain ⟨r1, r2, f2⟩ := h2
  have f3 : Fr (fun o => J58 o ∨ o = 2) s s3 := (f2.wk (fun o z => Or.inl z)).tr (by rw [e3]; exact Fr.up (Or.inr rfl))
  have nj : ∀ o, 48 ≤ o → o ≤ 54 → ¬ (J58 o ∨ o = 2) := fun o o1 o2 z => by unfold J58 Jw Jk at z; omega
  have e21 : s3 2 1 = 0 := by rw [e3, ups_eq]
  have x48 : CX s3 48 tw T A := hx.fr f3 nj (fun o o1 o2 z => by unfold J58 Jw at z; unfold Jk at z ⊢; omega)
  have uc : UC s3 u U := hU.fr f3 (fun o o1 o2 z => by unfold J58 Jw Jk at z; omega)
  have e18 : s3 1 8 = tw := by rw [f3 1 (fun z => by unfold J58 Jw Jk at z; omega)]; exact h8
  have fJ : Fr Jon s s3 := f3.wk (fun o z => by rcases z with z | z; exact Or.inr (Or.inl z); exact Or.inr (Or.inr (Or.inr z)))
  refine ⟨fun q => ?_, fun q => ?_⟩
  · have ok : okO T n B := Classical.byContradiction (fun z => q (r2 z))
    obtain ⟨_, W, x2, wW, oW⟩ := r1 ok
    have x3 : CX s3 58 tw T W := by
      have f : Fr (fun o => o = 2) s2 s3 := by rw [e3]; exact Fr.up rfl
      obtain ⟨q1, q2, q3, q4, q5, q6, q7⟩ := x2.1
      refine ⟨q1, q2, by rw [f 58 (by omega)]; exact q3, q4.fr f (fun o o1 o2 o3 => by unfold isT at q2; omega), q5.fr f (fun o o1 o2 => by omega), q6, q7⟩
    refine (C_copy x3 (Or.inl rfl) (by decide)).imp (fun _ s5 h5 => S_X1_forget (fun s7 e7 => ⟨fun _ => ⟨rfl, ?_⟩, fun z => absurd ok z⟩))
    obtain ⟨V, x5, hE, h9, f5⟩ := h5
    have f7 : Fr (fun o => o = 65) s5 s7 := by rw [e7]; exact Fr.up rfl
    have vW : WOK T V := wW.weq hE (by omega) hx.ok.2.1.2
    have x7 : CX s7 48 tw T V := x5.1.fr f7 (fun o o1 o2 => by omega) (fun o o1 o2 z => by omega)
    have e65 : s5 65 2 = s3 65 2 := by rw [f5 65 (by omega)]
    refine ⟨V, ⟨?_, x7, vW, hF, ?_, ⟨by rw [e7, ups_eq], by decide, ?_, fun i i0 i1 => by omega⟩, fun i i0 i1 => by omega⟩, ?_, ?_, ?_⟩
    · rw [f7 1 (by omega), f5 1 (by omega)]; exact e18
    · rw [hE.1, oW.1]; exact ok.2.2.1
    · rw [e7, ups_k _ (by decide), e65]; exact uc.2.2.1
    · obtain ⟨o1, o2, o3, o4⟩ := oW
      refine ⟨by rw [hE.1]; exact o1, by rw [hE.2.1]; exact o2, h9, fun c c0 c1 => ?_⟩
      have t8 := hx.ok.2.1
      rw [hE.h1 c0 (by omega), hE.h2 c0 (by omega), hE.h3 c0 (by omega)]
      exact o4 c c0 c1
    · rw [f7 2 (by omega), f5 2 (by omega)]; exact e21
    · refine (fJ.tr (f5.wk (fun o z => Or.inl (Or.inl ⟨z.1, by omega⟩)))).tr (f7.wk (fun o z => Or.inr (Or.inr (Or.inl z))))
  · have nok : ¬ okO T n B := fun z => by have := (r1 z).1; omega
    refine Mw.ex (C_refuse (by decide) (by decide)) ⟨fun z => absurd z nok, fun _ => ⟨rfl, s3, ⟨e18, x48, hW, hF, hy, uc, hO⟩, e21, fJ, f3 91 (fun z => by unfold J58 Jw Jk at z; omega), rfl⟩⟩
end CON2
