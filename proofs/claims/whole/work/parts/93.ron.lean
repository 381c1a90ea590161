/-! on: the reference -/
section RON
variable {g : GT} {e : Nat} {s : Sg} {T : Tn} {A : Wd} {b n : Int} {B : Int → Int}
/-- the tape's bytes -/
def RBy (s : Sg) (n : Int) (B : Int → Int) : Prop := n ≤ 1600 ∧ ∀ k, 0 ≤ k → k < n → s 93 k = B k ∧ 0 ≤ B k ∧ B k ≤ 255
theorem RBy.fm {s2 : Sg} {v : Int} (h : RBy s n B) (hf : Fm v s s2) : RBy s2 n B := ⟨h.1, by rw [hf.1 93 (by omega) (by omega)]; exact h.2⟩
theorem R_done2 {c y : Int} (h : RX s 0 b T A) (h2 : s 122 2 = y) (y0 : 0 ≤ y) (y1 : y ≤ 999) (c0 : 0 ≤ c) (c1 : c < T 1 1) : Mw g (e + 3) M_X13_isDone [(21, 92), (0, 2), (0, c)] s (Ex (if T 0 15 ≤ y - T 9 c then 1 else 0) s) := by
  have b8 := h.ok.2.1
  have ht := (h.ok.2.2.2.2.2.1 c c0 (by omega)).2.1
  have age : Mw g (e + 2) M_X13_age [(21, 92), (0, 2), (0, c)] s (Ex (y - T 9 c) s) := by
    refine S_X13_age (fun _ _ => ⟨⟨by decide, by decide⟩, Mw.ex (R_born h c0 c1) ⟨?_, rfl⟩⟩)
    rw [h2, w32_of (by omega) (by omega)]
  refine S_X13_isDone (fun _ _ => Mw.ex age (Mw.ex (R_toldOf h.1 (by decide) (by decide)) ⟨fun q => ⟨?_, rfl⟩, fun q => ⟨?_, rfl⟩⟩))
  · rw [if_neg]; rw [show (14 : Int) + 1 = 15 from rfl] at q; omega
  · rw [if_pos]; rw [show (14 : Int) + 1 = 15 from rfl] at q; omega
/-- child c of world 2 is as told -/
def ChO (s : Sg) (B : Int → Int) (c : Int) : Prop := s 124 (16 + c) = hmO B c ∧ s 125 (16 + c) = stO B c ∧ s 126 (16 + c) = wlO B c ∧ s 127 (16 + c) = clO B c ∧ s 128 (16 + c) = cuO B c
theorem R_childOn {c : Int} (h : RX s 0 b T A) (hB : RBy s n B) (hn : feO T ≤ n) (h2 : s 122 2 = yrO B) (y0 : 0 ≤ yrO B) (y1 : yrO B ≤ 999) (c0 : 0 ≤ c) (c1 : c < T 1 1) :
    Mw g (e + 4) M_X13_childOn [(21, 92), (0, c), (0, 2 + 6 * c)] s (fun r s' => (ckO T B c → r = 1) ∧ (¬ ckO T B c → r = 0) ∧ ChO s' B c ∧ Fm 2 s s' ∧ (∀ o i, i ≠ 16 + c → s' o i = s o i) ∧ ∀ o, (o < 124 ∨ 128 < o) → s' o = s o) := by
  have t8 := h.ok.2.1
  have b2 := h.b2
  have nf : feO T = 2 + 6 * T 1 1 := rfl
  have b0 := hB.2 (2 + 6 * c) (by omega) (by omega)
  have q1 := hB.2 (2 + 6 * c + 1) (by omega) (by omega)
  have q2 := hB.2 (2 + 6 * c + 2) (by omega) (by omega)
  have q3 := hB.2 (2 + 6 * c + 3) (by omega) (by omega)
  have q4 := hB.2 (2 + 6 * c + 4) (by omega) (by omega)
  have q5 := hB.2 (2 + 6 * c + 5) (by omega) (by omega)
  have n16 := hB.1
  refine S_X13_childOn (fun _ _ => ?_)
  rw [w32_of (show _ ≤ 2 + 6 * c + 3 by omega) (by omega), w32_of (show _ ≤ 16 + c by omega) (by omega), w32_of (show _ ≤ 2 + 6 * c + 1 by omega) (by omega), w32_of (show _ ≤ 2 + 6 * c + 4 by omega) (by omega), w32_of (show _ ≤ 2 + 6 * c + 5 by omega) (by omega), q3.1, b0.1]
  have ew : w32 (B (2 + 6 * c + 3) - 1) = wlO B c := w32_of (by omega) (by omega)
  rw [ew]
  refine ⟨⟨by omega, by omega⟩, ⟨by omega, by omega⟩, ⟨by omega, by omega⟩, fun s1 e1 => ?_⟩
  have z1 : ∀ x : Sg, x 93 = s 93 → Mw g (e + 3) M_X13_twoBytes [(21, 92), (0, 2 + 6 * c + 1)] x (Ex (stO B c) x) := fun x hx => by
    have := R_twoB (g := g) (e := e + 2) (s := x) (B := B) (k := 2 + 6 * c + 1) (by rw [hx]; exact q1) (by rw [hx, show 2 + 6 * c + 1 + 1 = 2 + 6 * c + 2 by omega]; exact q2) (by omega) (by omega)
    rw [show 2 + 6 * c + 1 + 1 = 2 + 6 * c + 2 by omega] at this
    exact this
  have e931 : s1 93 = s 93 := by rw [e1, ups_at _ (by decide)]
  refine Mw.ex (z1 s1 e931) ⟨⟨by omega, by omega⟩, fun s4 e4 => ⟨⟨by omega, by omega⟩, fun s5 e5 => ⟨⟨by omega, by omega⟩, ⟨by omega, by omega⟩, fun s6 e6 => ⟨⟨by omega, by omega⟩, ⟨by omega, by omega⟩, fun s7 e7 => ⟨⟨by omega, by omega⟩, ?_⟩⟩⟩⟩⟩
  have e935 : s5 93 = s 93 := by rw [e5, ups_at _ (by decide), e4, ups_at _ (by decide)]; exact e931
  have e936 : s6 93 = s 93 := by rw [e6, ups_at _ (by decide)]; exact e935
  have e937 : s7 93 = s 93 := by rw [e7, ups_at _ (by decide)]; exact e936
  rw [e935, q4.1] at e6
  rw [e936, q5.1] at e7
  have ch : ChO s7 B c := by
    refine ⟨?_, ?_, ?_, ?_, ?_⟩
    · rw [e7, ups_at _ (by decide), e6, ups_at _ (by decide), e5, ups_at _ (by decide), e4, ups_at _ (by decide), e1, ups_eq]; rfl
    · rw [e7, ups_at _ (by decide), e6, ups_at _ (by decide), e5, ups_at _ (by decide), e4, ups_eq]
    · rw [e7, ups_at _ (by decide), e6, ups_at _ (by decide), e5, ups_eq]
    · rw [e7, ups_at _ (by decide), e6, ups_eq]; rfl
    · rw [e7, ups_eq]; rfl
  have U : ∀ (x : Sg) (o v : Int), 124 ≤ o → o ≤ 128 → Fm 2 x (ups x o (16 + c) v) := fun x o v o1 o2 => Fm.up (Or.inr (Or.inr (Or.inl ⟨o1, o2, by omega, by omega⟩)))
  have fm : Fm 2 s s7 := by
    rw [e7, e6, e5, e4, e1]
    exact ((((U _ _ _ (by decide) (by decide)).tr (U _ _ _ (by decide) (by decide))).tr (U _ _ _ (by decide) (by decide))).tr (U _ _ _ (by decide) (by decide))).tr (U _ _ _ (by decide) (by decide))
  have oi : ∀ o i, i ≠ 16 + c → s7 o i = s o i := fun o i hi => by rw [e7, ups_k _ hi, e6, ups_k _ hi, e5, ups_k _ hi, e4, ups_k _ hi, e1, ups_k _ hi]
  have oo : ∀ o, (o < 124 ∨ 128 < o) → s7 o = s o := fun o ho => by rw [e7, ups_at _ (by omega), e6, ups_at _ (by omega), e5, ups_at _ (by omega), e4, ups_at _ (by omega), e1, ups_at _ (by omega)]
  have x7 : RX s7 0 b T A := h.fo fm (by decide) (by decide)
  have no : ¬ ckO T B c → ((ckO T B c → (0 : Int) = 1) ∧ (¬ ckO T B c → (0 : Int) = 0) ∧ ChO s7 B c ∧ Fm 2 s s7 ∧ (∀ o i, i ≠ 16 + c → s7 o i = s o i) ∧ ∀ o, (o < 124 ∨ 128 < o) → s7 o = s o) := fun z => ⟨fun y => absurd y z, fun _ => rfl, ch, fm, oi, oo⟩
  have yes : ckO T B c → ((ckO T B c → (1 : Int) = 1) ∧ (¬ ckO T B c → (1 : Int) = 0) ∧ ChO s7 B c ∧ Fm 2 s s7 ∧ (∀ o i, i ≠ 16 + c → s7 o i = s o i) ∧ ∀ o, (o < 124 ∨ 128 < o) → s7 o = s o) := fun z => ⟨fun _ => rfl, fun y => absurd z y, ch, fm, oi, oo⟩
  rw [e937, b0.1]
  refine Mw.ex (R_isHome x7.1) ⟨fun p => no (fun z => by rw [if_pos ⟨b0.2.1, z.1⟩] at p; omega), fun p => ?_⟩
  have hm : hmO B c < T 1 0 := by
    have : 0 ≤ B (2 + 6 * c) ∧ B (2 + 6 * c) < T 1 0 := Classical.byContradiction (fun z => p (if_neg z))
    exact this.2
  refine Mw.ex (z1 s7 e937) ⟨fun p2 => ⟨fun p3 => ?_, fun p3 => ?_⟩, fun p2 => no (fun z => p2 z.2.1)⟩
  · have w0 : 0 ≤ wlO B c := by unfold wlO at p3 ⊢; omega
    refine Mw.ex (R_isWall x7.1) ⟨fun p4 => no (fun z => by rw [if_pos ⟨w0, (z.2.2.2 p3).1⟩] at p4; omega), fun p4 => ?_⟩
    have wl : 0 ≤ wlO B c ∧ wlO B c < T 1 2 := Classical.byContradiction (fun z => p4 (if_neg z))
    have t2 := h.ok.2.2.1
    have rw' := x7.rt.2.2.2.1 (wlO B c) wl.1 wl.2
    refine Mw.ex (R_done2 (e := e) x7 (by rw [oo 122 (by decide)]; exact h2) y0 y1 c0 c1) ⟨fun p5 => ?_, fun p5 => no (fun z => by rw [if_pos (z.2.2.2 p3).2.1] at p5; omega)⟩
    have hd : T 0 15 ≤ yrO B - T 9 c := Classical.byContradiction (fun z => p5 (if_neg z))
    rw [x7.bk, w32_of (show _ ≤ 4 * b by omega) (by omega), w32_of (show _ ≤ 4 * b + wlO B c by omega) (by omega), rw'.1, rw'.2, e937, q4.1, q5.1]
    refine ⟨⟨by omega, by omega⟩, ⟨by omega, by omega⟩, fun p6 => no (fun z => by have := (z.2.2.2 p3).2.2.1; unfold clO at this; omega), fun p6 => ⟨⟨by omega, by omega⟩, ⟨by omega, by omega⟩, fun p7 => no (fun z => by have := (z.2.2.2 p3).2.2.2; unfold cuO at this; omega), fun p7 => yes ⟨hm, p2, fun z => absurd z p3, fun _ => ⟨wl.2, hd, by unfold clO; omega, by unfold cuO; omega⟩⟩⟩⟩
  · rw [e937, q4.1, q5.1]
    refine ⟨⟨by omega, by omega⟩, fun p6 => no (fun z => p6 (z.2.2.1 p3).1), fun p6 => ⟨⟨by omega, by omega⟩, fun p7 => no (fun z => p7 (z.2.2.1 p3).2), fun p7 => yes ⟨hm, p2, fun _ => ⟨p6, p7⟩, fun z => absurd p3 z⟩⟩⟩
/-- a world that has the told places -/
def psW (B : Int → Int) (y en : Int) : Wd := fun a k => if a = 0 then (if k = 1 then y else if k = 2 then en else 0) else if a = 1 then hmO B k else if a = 2 then stO B k else if a = 3 then plO B k else 0
theorem pl_wa (hT : TOK T) {c : Int} (c0 : 0 ≤ c) (c1 : c < T 1 1) (hB : ∀ k, 0 ≤ k → k < n → 0 ≤ B k ∧ B k ≤ 255) (hn : feO T ≤ n) (h : ckO T B c) : waP (plO B c) = wlO B c ∧ coP (plO B c) = clO B c ∧ cuP (plO B c) = cuO B c := by
  unfold waP coP cuP
  rcases ok_wl hT c0 c1 hB hn h with z | ⟨a1, a2, a3, a4, a5⟩
  · rw [if_pos z, if_pos z, if_pos z]
    have w : wlO B c = -1 := by
      apply Classical.byContradiction
      intro y
      unfold plO at z
      rw [if_neg y] at z
      unfold feO at hn
      have b3 := hB (2 + 6 * c + 3) (by omega) (by omega)
      have b4 := hB (2 + 6 * c + 4) (by omega) (by omega)
      have b5 := hB (2 + 6 * c + 5) (by omega) (by omega)
      unfold wlO at y z
      unfold clO cuO at z
      omega
    have := h.2.2.1 w
    omega
  · rw [if_neg (by omega), if_neg (by omega), if_neg (by omega)]
    omega
theorem ra_2 (h : RX s 2 b T A) (hA : ∀ c, 0 ≤ c → c < T 1 1 → A 3 c = plO B c) (hB : ∀ k, 0 ≤ k → k < n → 0 ≤ B k ∧ B k ≤ 255) (hn : feO T ≤ n) (hk : ∀ c, 0 ≤ c → c < T 1 1 → ckO T B c) :
    ∀ (j : Nat) (c : Int), 0 ≤ c → c + j = T 1 1 → (∀ k, 0 ≤ k → k < c → dsO B k ∧ rsO T B k) → P_X13_areLaid_2 g (e + 2) (fun r s' => ((∀ k, 0 ≤ k → k < T 1 1 → dsO B k ∧ rsO T B k) → r = 1) ∧ (¬ (∀ k, 0 ≤ k → k < T 1 1 → dsO B k ∧ rsO T B k) → r = 0) ∧ s' = s) s c := by
  have hT := h.ok
  have t8 := hT.2.1
  have b2 := h.b2
  have key : ∀ k x, 0 ≤ k → k < T 1 1 → 0 ≤ x → x < 64 → ((waP (A 3 k) == x / 16 && (coP (A 3 k) == x / 4 % 4 && cuP (A 3 k) == x % 4)) = true ↔ plO B k = x) := fun k x k0 k1 x0 x1 => by
    rw [hA k k0 k1]
    simp only [Bool.and_eq_true, beq_iff_eq]
    have pb := ok_wl hT k0 k1 hB hn (hk k k0 k1)
    unfold waP coP cuP
    rcases pb with z | z
    · rw [z, if_pos rfl, if_pos rfl, if_pos rfl]; omega
    · rw [if_neg (by omega), if_neg (by omega), if_neg (by omega)]; omega
  intro j
  induction j with
  | zero =>
    intro c c0 hc hr
    refine S_X13_areLaid_2 ?_
    rw [h.bk, h.nc]
    exact ⟨⟨by omega, by omega⟩, fun _ => ⟨fun _ => rfl, fun z => absurd (fun k k0 k1 => hr k k0 (by omega)) z, rfl⟩, fun q => absurd (by omega) q⟩
  | succ j ih =>
    intro c c0 hc hr
    have pw := pl_wa hT c0 (by omega) hB hn (hk c c0 (by omega))
    have nx : dsO B c ∧ rsO T B c → P_X13_areLaid_2 g (e + 2) (fun r s' => ((∀ k, 0 ≤ k → k < T 1 1 → dsO B k ∧ rsO T B k) → r = 1) ∧ (¬ (∀ k, 0 ≤ k → k < T 1 1 → dsO B k ∧ rsO T B k) → r = 0) ∧ s' = s) s (w32 (c + 1)) := fun z => by
      rw [w32_of (by omega) (by omega)]
      exact ih (c + 1) (by omega) (by omega) (fun k k0 k1 => by
        by_cases y : k = c
        · rw [y]; exact z
        · exact hr k k0 (by omega))
    have no : ¬ (dsO B c ∧ rsO T B c) → ((∀ k, 0 ≤ k → k < T 1 1 → dsO B k ∧ rsO T B k) → (0 : Int) = 1) ∧ (¬ (∀ k, 0 ≤ k → k < T 1 1 → dsO B k ∧ rsO T B k) → (0 : Int) = 0) ∧ s = s := fun z => ⟨fun y => absurd (y c c0 (by omega)) z, fun _ => rfl, rfl⟩
    refine S_X13_areLaid_2 ?_
    rw [h.bk, h.nc]
    have ea := hA c c0 (by omega)
    refine ⟨⟨by omega, by omega⟩, fun q => by omega, fun _ => Mw.ex (R_inWall h c0 (by omega)) ⟨fun q => ?_, fun q => nx ?_⟩⟩
    · have hp : plO B c ≠ -1 := fun z => q (by rw [ea, z]; rfl)
      obtain ⟨a1, a2, a3, a4, a5⟩ := (ok_wl hT c0 (by omega) hB hn (hk c c0 (by omega))).resolve_left hp
      have d16 : plO B c / 16 = wlO B c := by omega
      have d4 : plO B c / 4 % 4 = clO B c := by omega
      have m4 : plO B c % 4 = cuO B c := by omega
      refine Mw.ex (R_column h c0 (by omega)) (Mw.ex (R_course h c0 (by omega)) ?_)
      rw [ea, pw.1, pw.2.1, pw.2.2]
      refine S_X13_lies (fun _ _ _ _ => lies_loop h (T 1 1).toNat 0 (by decide) (by omega) ?_)
      have sc : scanF (T 1 1).toNat 0 (fun c' => waP (A 3 c') == wlO B c && (coP (A 3 c') == clO B c && cuP (A 3 c') == cuO B c)) = c ↔ dsO B c := by
        rw [← d16, ← d4, ← m4]
        constructor
        · intro z _ k k0 k1 y
          have hk2 := (key k (plO B c) k0 (by omega) (by omega) (by omega)).mpr y
          rcases scanF_le (T 1 1).toNat 0 (fun c' => waP (A 3 c') == plO B c / 16 && (coP (A 3 c') == plO B c / 4 % 4 && cuP (A 3 c') == plO B c % 4)) with u | ⟨u1, u2, u3, u4⟩
          · omega
          · have := u4 k k0 (by omega)
            rw [this] at hk2
            cases hk2
        · intro z
          refine scanF_first (by decide) c0 (by omega) ((key c (plO B c) c0 (by omega) (by omega) (by omega)).mpr rfl) (fun k k0 k1 => ?_)
          apply Bool.eq_false_iff.mpr
          intro y
          exact z hp k k0 k1 ((key k (plO B c) k0 (by omega) (by omega) (by omega)).mp y)
      refine ⟨fun z => ?_, fun z => no (fun y => z (sc.mpr y.1))⟩
      refine Mw.ex (R_course h c0 (by omega)) ?_
      rw [ea, pw.2.2]
      refine ⟨fun y => nx ⟨sc.mp z, fun _ x => by omega⟩, fun y => Mw.ex (R_column h c0 (by omega)) (Mw.ex (R_course h c0 (by omega)) ?_)⟩
      rw [ea, pw.2.1, pw.2.2, w32_of (show _ ≤ cuO B c - 1 by omega) (by omega)]
      refine S_X13_lies (fun _ _ _ _ => lies_loop h (T 1 1).toNat 0 (by decide) (by omega) ?_)
      have sc2 : scanF (T 1 1).toNat 0 (fun c' => waP (A 3 c') == wlO B c && (coP (A 3 c') == clO B c && cuP (A 3 c') == cuO B c - 1)) = -1 ↔ ¬ rsO T B c := by
        have f16 : (plO B c - 1) / 16 = wlO B c := by omega
        have f4 : (plO B c - 1) / 4 % 4 = clO B c := by omega
        have g4 : (plO B c - 1) % 4 = cuO B c - 1 := by omega
        rw [← f16, ← f4, ← g4, scanF_none _ (by decide)]
        constructor
        · intro u v
          obtain ⟨k, k0, k1, k2⟩ := v hp (by omega)
          have := (key k (plO B c - 1) k0 k1 (by omega) (by omega)).mpr k2
          rw [u k k0 (by omega)] at this
          cases this
        · intro u k k0 k1
          apply Bool.eq_false_iff.mpr
          intro v
          exact u (fun _ _ => ⟨k, k0, by omega, (key k (plO B c - 1) k0 (by omega) (by omega) (by omega)).mp v⟩)
      exact ⟨fun x => nx ⟨sc.mp z, Classical.byContradiction (fun u => x (sc2.mpr u))⟩, fun x => no (fun u => sc2.mp x u.2)⟩
    · have hp : plO B c = -1 := by
        apply Classical.byContradiction
        intro z
        obtain ⟨a1, a2, a3, a4, a5⟩ := (ok_wl hT c0 (by omega) hB hn (hk c c0 (by omega))).resolve_left z
        rw [ea, pw.1] at q
        omega
      exact ⟨fun z => absurd hp z, fun z => absurd hp z⟩
abbrev PR (s : Sg) (b n : Int) (T : Tn) (B : Int → Int) : Int → Sg → Prop := fun r s' => (okO T n B → r = 1 ∧ ∀ W, OnW T B W → RZ True s' 2 b T W) ∧ (¬ okO T n B → r = 0) ∧ Fm 2 s s'
theorem rc_171 (hn : n = feO T + T 0 13 + 1) (hs : suI B (n - 1).toNat 0 167 = B (n - 1)) (hy : yrO B ≤ 999) (hk : ∀ c, 0 ≤ c → c < T 1 1 → ckO T B c) : ∀ (j f : Nat) (s0 : Sg), (f : Int) + j = T 0 13 → RX s0 0 b T A → RBy s0 n B → (∀ c, 0 ≤ c → c < T 1 1 → ChO s0 B c) → s0 122 2 = yrO B → s0 123 2 = enO B (feO T) f → s0 129 2 = 0 → (∀ x : Nat, x < f → B (feO T + x) ≤ 1) → Fm 2 s s0 →
    P_X13_comesOn_171 g (e + 3) (PR s b n T B) s0 (feO T) f := by
  have nf : feO T = 2 + 6 * T 1 1 := rfl
  intro j
  induction j with
  | zero =>
    intro f s0 hf hx hB hc h122 h123 h129 hb hfr
    have b2 := hx.b2
    have t8 := hx.ok.2.1
    have t13 := hx.ok.2.2.2.1
    have bB : ∀ k, 0 ≤ k → k < n → 0 ≤ B k ∧ B k ≤ 255 := fun k k0 k1 => (hB.2 k k0 k1).2
    have mkX : ∀ W : Wd, OnW T B W → RX s0 2 b T W := fun W hW => by
      refine ⟨hx.1, ⟨by decide, by decide⟩, by rw [h122, hW.1], by rw [h123, hW.2.1, show (T 0 13).toNat = f by omega], by omega, fun c c0 c1 => ?_⟩
      obtain ⟨g1, g2, g3, g4, g5⟩ := hc c c0 c1
      obtain ⟨w1, w2, w3⟩ := hW.2.2.2 c c0 c1
      have pw := pl_wa hx.ok c0 c1 bB (by omega) (hk c c0 c1)
      rw [show 8 * (2 : Int) + c = 16 + c by omega, w1, w2, w3, pw.1, pw.2.1, pw.2.2]
      exact ⟨g1, g2, g3, g4, g5⟩
    have hps : OnW T B (psW B (yrO B) (enO B (feO T) (T 0 13).toNat)) := ⟨rfl, rfl, rfl, fun c _ _ => ⟨rfl, rfl, rfl⟩⟩
    refine S_X13_comesOn_171 ?_
    rw [hx.bk, hx.rt.1.2.2.2]
    refine ⟨⟨by omega, by omega⟩, fun _ => ?_, fun q => absurd (by omega) q⟩
    refine (S_X13_areLaid (ra_2 (mkX _ hps) (fun c _ _ => rfl) bB (by omega) hk (T 1 1).toNat 0 (by decide) (by omega) (fun k k0 k1 => by omega))).imp (fun r s2 h2 => ?_)
    obtain ⟨r1, r2, r3⟩ := h2
    subst r3
    have iff : okO T n B ↔ ∀ k, 0 ≤ k → k < T 1 1 → dsO B k ∧ rsO T B k := ⟨fun z k k0 k1 => ⟨(z.2.2.2.1 k k0 k1).2, z.2.2.2.2.2 k k0 k1⟩, fun z => ⟨hn, hs, hy, fun c c0 c1 => ⟨hk c c0 c1, (z c c0 c1).1⟩, fun x x0 x1 => by have := hb x.toNat (by omega); rw [show ((x.toNat : Nat) : Int) = x by omega] at this; exact this, fun k k0 k1 => (z k k0 k1).2⟩⟩
    refine ⟨?_, fun z => ⟨r1 (iff.mp z), fun W hW => ⟨mkX W hW, fun _ => ⟨by rw [h129, hW.2.2.1], fun k k0 k1 => by rw [hW.2.2.1] at k1; omega⟩⟩⟩, fun z => r2 (fun y => z (iff.mpr y)), hfr⟩
    by_cases z : ∀ k, 0 ≤ k → k < T 1 1 → dsO B k ∧ rsO T B k
    · right; exact r1 z
    · left; exact r2 z
  | succ j ih =>
    intro f s0 hf hx hB hc h122 h123 h129 hb hfr
    have b2 := hx.b2
    have t8 := hx.ok.2.1
    have t13 := hx.ok.2.2.2.1
    have n16 := hB.1
    have bf := hB.2 (feO T + f) (by omega) (by omega)
    refine S_X13_comesOn_171 ?_
    rw [hx.bk, hx.rt.1.2.2.2, w32_of (show _ ≤ feO T + (f : Int) by omega) (by omega), bf.1, h123, w32_of (show _ ≤ (f : Int) + 1 by omega) (by omega)]
    refine ⟨⟨by omega, by omega⟩, fun q => absurd q (by omega), fun _ => ⟨⟨by omega, by omega⟩, fun q => ⟨⟨by omega, by omega⟩, fun s3 e3 => ?_⟩, fun q => ⟨fun z => absurd (z.2.2.2.2.1 f (by omega) (by omega)) q, fun _ => rfl, hfr⟩⟩⟩
    have f3 : Fm 2 s0 s3 := by rw [e3]; exact Fm.up (Or.inr (Or.inl ⟨Or.inr (Or.inl rfl), rfl⟩))
    have eo : ∀ o, o ≠ 123 → s3 o = s0 o := fun o ho => by rw [e3, ups_at _ ho]
    refine ih (f + 1) s3 (by omega) (hx.fo f3 (by decide) (by decide)) (hB.fm f3) (fun c c0 c1 => ?_) ?_ ?_ ?_ (fun x hx2 => ?_) (hfr.tr f3)
    · unfold ChO; rw [eo 124 (by decide), eo 125 (by decide), eo 126 (by decide), eo 127 (by decide), eo 128 (by decide)]; exact hc c c0 c1
    · rw [eo 122 (by decide)]; exact h122
    · rw [e3, ups_eq]; rfl
    · rw [eo 129 (by decide)]; exact h129
    · by_cases y : x = f
      · rw [y]; exact q
      · exact hb x (by omega)
theorem rc_130 (hn : n = feO T + T 0 13 + 1) (hs : suI B (n - 1).toNat 0 167 = B (n - 1)) (hy0 : 0 ≤ yrO B) (hy : yrO B ≤ 999) : ∀ (j : Nat) (c : Int) (s0 : Sg), 0 ≤ c → c + j = T 1 1 → RX s0 0 b T A → RBy s0 n B → (∀ k, 0 ≤ k → k < c → ChO s0 B k ∧ ckO T B k) → s0 122 2 = yrO B → s0 123 2 = 0 → s0 129 2 = 0 → Fm 2 s s0 →
    P_X13_comesOn_130 g (e + 4) (PR s b n T B) s0 (feO T) c := by
  have nf : feO T = 2 + 6 * T 1 1 := rfl
  intro j
  induction j with
  | zero =>
    intro c s0 c0 hc hx hB hk h122 h123 h129 hfr
    have b2 := hx.b2
    have t13 := hx.ok.2.2.2.1
    refine S_X13_comesOn_130 ?_
    rw [hx.bk, hx.nc]
    exact ⟨⟨by omega, by omega⟩, fun _ => rc_171 (e := e + 1) hn hs hy (fun k k0 k1 => (hk k k0 (by omega)).2) (T 0 13).toNat 0 s0 (by omega) hx hB (fun k k0 k1 => (hk k k0 (by omega)).1) h122 h123 h129 (fun x hx2 => by omega) hfr, fun q => absurd (by omega) q⟩
  | succ j ih =>
    intro c s0 c0 hc hx hB hk h122 h123 h129 hfr
    have b2 := hx.b2
    have t8 := hx.ok.2.1
    have t13 := hx.ok.2.2.2.1
    refine S_X13_comesOn_130 ?_
    rw [hx.bk, hx.nc, w32_of (show _ ≤ 6 * c by omega) (by omega), w32_of (show _ ≤ 2 + 6 * c by omega) (by omega), w32_of (show _ ≤ c + 1 by omega) (by omega)]
    refine ⟨⟨by omega, by omega⟩, fun q => absurd q (by omega), fun _ => (R_childOn hx hB (by omega) h122 hy0 hy c0 (by omega)).imp (fun r s2 h2 => ?_)⟩
    obtain ⟨r1, r2, ch, f2, oi, oo⟩ := h2
    refine ⟨fun q => ?_, fun q => ⟨fun z => ?_, fun _ => rfl, hfr.tr f2⟩⟩
    · have ck : ckO T B c := Classical.byContradiction (fun z => q (r2 z))
      refine ih (c + 1) s2 (by omega) (by omega) (hx.fo f2 (by decide) (by decide)) (hB.fm f2) (fun k k0 k1 => ?_) (by rw [oo 122 (by decide)]; exact h122) (by rw [oo 123 (by decide)]; exact h123) (by rw [oo 129 (by decide)]; exact h129) (hfr.tr f2)
      by_cases y : k = c
      · rw [y]; exact ⟨ch, ck⟩
      · have := hk k k0 (by omega)
        refine ⟨?_, this.2⟩
        unfold ChO
        rw [oi 124 _ (by omega), oi 125 _ (by omega), oi 126 _ (by omega), oi 127 _ (by omega), oi 128 _ (by omega)]
        exact this.1
    · have := r1 (z.2.2.2.1 c c0 (by omega)).1
      omega
theorem rc_52 (hT : TOK T) (hn : n = feO T + T 0 13 + 1) (hy0 : 0 ≤ yrO B) (hy : yrO B ≤ 999) (hx : RX s 0 b T A) (hB : RBy s n B) : ∀ (j k : Nat) (v : Int), (k : Int) + j = n - 1 → 0 ≤ v → v ≤ 250 → suI B (n - 1).toNat 0 167 = suI B j k v → P_X13_comesOn_52 g (e + 4) (PR s b n T B) s n (feO T) v k := by
  have nf : feO T = 2 + 6 * T 1 1 := rfl
  have t8 := hT.2.1
  have t13 := hT.2.2.2.1
  have n16 := hB.1
  intro j
  induction j with
  | zero =>
    intro k v hk v0 v9 hs
    have bl := hB.2 (n - 1) (by omega) (by omega)
    have hs : suI B (n - 1).toNat 0 167 = v := hs
    refine S_X13_comesOn_52 ?_
    rw [w32_of (show _ ≤ n - 1 by omega) (by omega), bl.1]
    refine ⟨fun _ => ⟨⟨by omega, by omega⟩, fun z => ?_, fun z => ⟨fun y => absurd (y.2.1.symm.trans hs) z, fun _ => rfl, Fm.rf⟩⟩, fun q => absurd (by omega) q⟩
    have hz : RZ False s 0 b T A := ⟨hx, fun y => absurd y id⟩
    refine (R_copies hz (by decide) (by decide) (by decide) (fun y => absurd y id)).imp (fun _ s2 h2 => ?_)
    have B2 := hB.fm h2.2
    have t2 := R_twoB (g := g) (e := e + 3) (s := s2) (B := B) (k := 0) (B2.2 0 (by decide) (by omega)) (B2.2 (0 + 1) (by decide) (by omega)) (by decide) (by decide)
    refine Mw.ex t2 (fun s5 e5 s6 e6 s7 e7 => ?_)
    have f7 : Fm 2 s2 s7 := by
      rw [e7, e6, e5]
      exact ((Fm.up (Or.inr (Or.inl ⟨Or.inl rfl, rfl⟩))).tr (Fm.up (Or.inr (Or.inl ⟨Or.inr (Or.inl rfl), rfl⟩)))).tr (Fm.up (Or.inr (Or.inl ⟨Or.inr (Or.inr rfl), rfl⟩)))
    refine rc_130 hn (hs.trans z.symm) hy0 hy (T 1 1).toNat 0 s7 (by decide) (by omega) ((hx.fo h2.2 (by decide) (by decide)).fo f7 (by decide) (by decide)) (B2.fm f7) (fun k k0 k1 => by omega) ?_ ?_ ?_ (h2.2.tr f7)
    · rw [e7, ups_at _ (by decide), e6, ups_at _ (by decide), e5, ups_eq]; rfl
    · rw [e7, ups_at _ (by decide), e6, ups_eq]
    · rw [e7, ups_eq]
  | succ j ih =>
    intro k v hk v0 v9 hs
    have bk := hB.2 k (by omega) (by omega)
    refine S_X13_comesOn_52 ?_
    rw [w32_of (show _ ≤ n - 1 by omega) (by omega), bk.1, w32_of (show _ ≤ 5 * v by omega) (by omega), w32_of (show _ ≤ 5 * v + B k by omega) (by omega), tm_of (by omega), w32_of (show _ ≤ (k : Int) + 1 by omega) (by omega)]
    exact ⟨fun q => absurd q (by omega), fun _ => ⟨⟨by omega, by omega⟩, ih (k + 1) _ (by omega) (by omega) (by omega) hs⟩⟩
theorem R_comesOn (hx : RX s 0 b T A) (hB : RBy s n B) (n0 : 0 ≤ n) : Mw g (e + 5) M_X13_comesOn [(21, 92), (0, n)] s (PR s b n T B) := by
  have hT := hx.ok
  have t8 := hT.2.1
  have t13 := hT.2.2.2.1
  have b2 := hx.b2
  have nf : feO T = 2 + 6 * T 1 1 := rfl
  refine S_X13_comesOn (fun _ => ?_)
  rw [hx.bk, hx.nc, hx.rt.1.2.2.2, w32_of (show _ ≤ 6 * T 1 1 by omega) (by omega), w32_of (show _ ≤ 2 + 6 * T 1 1 by omega) (by omega), ← nf, w32_of (show _ ≤ feO T + T 0 13 by omega) (by omega), w32_of (show _ ≤ feO T + T 0 13 + 1 by omega) (by omega)]
  refine ⟨⟨by omega, by omega⟩, ⟨by omega, by omega⟩, fun q => ⟨fun z => absurd z.1 q, fun _ => rfl, Fm.rf⟩, fun hn => ?_⟩
  have y0 := (hB.2 0 (by decide) (by omega)).2
  have y1 := (hB.2 1 (by decide) (by omega)).2
  have hy0 : 0 ≤ yrO B := by unfold yrO; omega
  have t2 := R_twoB (g := g) (e := e + 3) (s := s) (B := B) (k := 0) (hB.2 0 (by decide) (by omega)) (hB.2 (0 + 1) (by decide) (by omega)) (by decide) (by decide)
  refine Mw.ex t2 ⟨fun q => ?_, fun q => ⟨fun z => absurd z.2.2.1 q, fun _ => rfl, Fm.rf⟩⟩
  exact rc_52 hT hn hy0 q hx hB (n - 1).toNat 0 167 (by omega) (by decide) (by decide) rfl
def Jp (k : Int) : Prop := k = 1 ∨ k = 59
theorem R_on {u : Int} {U : Int → Wd} (hs : RS s b T A u U) (ht : RTp s n B) : Mw g (e + 6) M_X13_on [(21, 92)] s (fun r s' => (okO T n B → r = 1 ∧ (∀ W, OnW T B W → WOK T W → RS s' b T W 0 U) ∧ s' 92 1 = 0 ∧ Fg Jp s s') ∧ (¬ okO T n B → r = 0 ∧ ∃ s1, RS s1 b T A u U ∧ s1 92 1 = 0 ∧ Fg Jp s s1 ∧ s' = ups s1 121 5 (w32 (s1 121 5 + 1)))) := by
  obtain ⟨hz, hW, hy, hU, hO⟩ := hs
  refine S_X13_on (fun s1 e1 => ?_)
  rw [ht.1]
  have z1 : RZ True s1 0 b T A := by rw [e1]; exact hz.fld (by decide)
  have u1 : UR s1 b T u U := by rw [e1]; exact hU.fld (by decide) (by decide) (by decide)
  have g1 : Fg Jp s s1 := by rw [e1]; exact Fg.up (Or.inl rfl)
  have B1 : RBy s1 n B := ⟨ht.2.1.2, by rw [e1, ups_at _ (by decide)]; exact ht.2.2⟩
  have e11 : s1 92 1 = 0 := by rw [e1, ups_eq]
  refine (R_comesOn z1.1 B1 ht.2.1.1).imp (fun r s3 h3 => ?_)
  obtain ⟨r1, r2, f3⟩ := h3
  have e31 : s3 92 1 = 0 := by rw [f3.2.1]; exact e11
  have z3 : RZ True s3 0 b T A := z1.fp (Fp.of f3) (by decide) (fun _ => hW.1.2.2.1.2)
  have u3 : UR s3 b T u U := u1.fp hO (Fp.of f3) (by decide) (by decide)
  refine ⟨fun q => ?_, fun q => ?_⟩
  · have ok : okO T n B := Classical.byContradiction (fun z => q (r2 z))
    have hps : OnW T B (psW B (yrO B) (enO B (feO T) (T 0 13).toNat)) := ⟨rfl, rfl, rfl, fun c _ _ => ⟨rfl, rfl, rfl⟩⟩
    have zz := (r1 ok).2 _ hps
    refine (R_copies zz (by decide) (by decide) (by decide) (fun _ => by show (0 : Int) ≤ 60; decide)).imp (fun _ s5 h5 s6 e6 => ⟨fun _ => ⟨rfl, fun W hW' wW => ?_, ?_, ?_⟩, fun z => absurd ok z⟩)
    · have z6 : RZ True s6 0 b T (psW B (yrO B) (enO B (feO T) (T 0 13).toNat)) := by rw [e6]; exact h5.1.fld (by decide)
      refine ⟨⟨⟨z6.1.1, z6.1.2.1, z6.1.2.2.eq (hW'.1.trans hps.1.symm) (hW'.2.1.trans hps.2.1.symm) (fun c c0 c1 => ?_)⟩, fun _ => ?_⟩, wW, by rw [hW'.1]; exact ok.2.2.1, ⟨by rw [e6, ups_eq], by decide, ?_, fun i i0 i1 => by omega⟩, fun i i0 i1 => by omega⟩
      · obtain ⟨a1, a2, a3⟩ := hW'.2.2.2 c c0 c1
        exact ⟨a1, a2, a3⟩
      · have k6 := z6.2 trivial
        refine ⟨k6.1.trans hW'.2.2.1.symm, fun k k0 k1 => by rw [hW'.2.2.1] at k1; omega⟩
      · rw [e6, ups_k _ (by decide), h5.2.2.1]; exact u3.2.2.1
    · rw [e6, ups_k _ (by decide), h5.2.2.1]; exact e31
    · refine ((g1.tr (Fg.fm f3)).tr (Fg.fm h5.2)).tr ?_
      rw [e6]; exact Fg.up (Or.inr rfl)
  · have nok : ¬ okO T n B := fun z => by have := (r1 z).1; omega
    refine Mw.ex (R_refuses (by decide) (by decide)) ⟨fun _ => ⟨fun z => absurd z nok, fun _ => ⟨rfl, s3, ⟨z3, hW, hy, u3, hO⟩, e31, g1.tr (Fg.fm f3), rfl⟩⟩, fun z => absurd (by decide) z⟩
end RON
