/-! the class: dropFrom, fall -/
section WFALL
variable {g : GT} {e : Nat} {s : Sg} {th tw : Int} {T : Tn} {A : Wd}
theorem WI0.eq {B : Wd} (h : WI0 A) (h3 : B 3 = A 3) (h4 : B 4 = A 4) : WI0 B := by unfold WI0; rw [h3, h4]; exact h
theorem keepA_I {c w b : Int} (h : WI0 A) : WI0 (keepA A c w b) := h.eq (keepA_at A c w b (by decide) (by decide)) (keepA_at A c w b (by decide) (by decide))
theorem CZ.cnt {X : WX} {b x : Int} (h : CZ s th tw T X b) : CZ (ups s th 10 x) th tw T (X.1, x, X.2.2) b := by
  obtain ⟨q1, q2, q3, q4⟩ := h
  exact ⟨q1.skip (by decide) (by decide) (by decide) (by decide), by rw [ups_eq], by rw [ups_k s (by decide)]; exact q3, by rw [ups_k s (by decide)]; exact q4⟩
theorem CZ.cnf {X : WX} {b x : Int} (h : CZ s th tw T X b) : CZ (ups s th 11 x) th tw T (X.1, X.2.1, x) b := by
  obtain ⟨q1, q2, q3, q4⟩ := h
  exact ⟨q1.skip (by decide) (by decide) (by decide) (by decide), by rw [ups_k s (by decide)]; exact q2, by rw [ups_eq], by rw [ups_k s (by decide)]; exact q4⟩
theorem CZ.cnb {X : WX} {b x : Int} (h : CZ s th tw T X b) : CZ (ups s th 12 x) th tw T X x := by
  obtain ⟨q1, q2, q3, q4⟩ := h
  exact ⟨q1.skip (by decide) (by decide) (by decide) (by decide), by rw [ups_k s (by decide)]; exact q2, by rw [ups_k s (by decide)]; exact q3, by rw [ups_eq]⟩
theorem drop_loop {b q : Int} (hq : 0 ≤ q) (hq2 : q < 16) : ∀ (n : Nat) (k : Int) (s0 : Sg) (X : WX), 4 * q ≤ k → k + n ≤ 4 * q + 4 → CZ s0 th tw T X b → WI0 X.1 → (n : Int) ≤ X.1 5 q → X.1 5 q ≤ 4 → Fr (Jw th) s s0 →
    P_X11_dropFrom_17 g (e + 1) (PZ s th tw T (dropL n X k) b) s0 th (k + n) k := by
  intro n
  induction n with
  | zero =>
    intro k s0 X k1 k2 hx hI hn h4 hf
    refine S_X11_dropFrom_17 ⟨fun _ => ⟨hx, hf⟩, fun h => absurd ?_ h⟩
    omega
  | succ n ih =>
    intro k s0 X k1 k2 hx hI hn h4 hf
    refine S_X11_dropFrom_17 ⟨fun h => absurd h (by omega), fun _ => ⟨⟨by omega, by omega⟩, ?_⟩⟩
    rw [hx.1.w4, w32_of (show -2147483648 ≤ k + 1 by omega) (by omega), show k + ((n + 1 : Nat) : Int) = (k + 1) + (n : Int) by omega]
    unfold dropL drop1
    refine ⟨fun h => ?_, fun h => ?_⟩
    · rw [if_pos h]
      exact ih (k + 1) s0 X (by omega) (by omega) hx hI (by omega) h4 hf
    · rw [if_neg h]
      obtain ⟨c0, c8, cp⟩ := (hI.2 k (by omega) (by omega)).resolve_left h
      generalize hc : X.1 4 k = c at *
      have e4 : k / 4 = q := by omega
      refine (C_lift hx hI c0 c8 (fun _ => by rw [cp, e4]; omega)).imp (fun _ s2 h2 s3 e3 s4 e4' => ?_)
      have c3 := h2.1.cnt (x := bOr (s2 th 10) (bShl 1 c))
      rw [← e3] at c3
      have c4 := c3.cnf (x := w32 (s3 th 11 + 1))
      rw [← e4'] at c4
      rw [show s2 th 10 = X.2.1 from h2.1.2.1, show s3 th 11 = X.2.2 from c3.2.2.1] at c4
      refine Mw.ex (C_wallAt (by omega)) ((C_keep c4 ⟨c0, c8⟩ ⟨by omega, by omega⟩ ⟨by decide, by decide⟩).imp (fun _ s8 h8 => ?_))
      refine ih (k + 1) s8 _ (by omega) (by omega) h8.1 (keepA_I (liftA_I hI c0 c8)) ?_ ?_ ?_
      · show _ ≤ keepA (liftA X.1 c) c (k / 16) 0 5 q
        rw [keepA_at _ _ _ _ (by decide) (by decide), liftA_5, cp, if_pos ⟨by omega, by omega⟩]
        omega
      · show keepA (liftA X.1 c) c (k / 16) 0 5 q ≤ 4
        rw [keepA_at _ _ _ _ (by decide) (by decide), liftA_5, cp, if_pos ⟨by omega, by omega⟩]
        omega
      · refine (hf.tr h2.2).tr (Fr.tr ?_ h8.2)
        rw [e4', e3]
        exact (Fr.up Jw_0).tr (Fr.up Jw_0)
theorem C_dropFrom {X : WX} {b p : Int} (hx : CZ s th tw T X b) (hI : WI0 X.1) (p0 : 0 ≤ p) (p1 : p < 64) (h4 : X.1 5 (p / 4) ≤ 4) (hs : p % 4 ≤ X.1 5 (p / 4)) : Mw g (e + 2) M_X11_dropFrom [(19, th), (0, p)] s (PZ s th tw T (dropX X p) b) := by
  refine S_X11_dropFrom (fun _ _ => ?_)
  rw [td_of p0, w32_of (show -2147483648 ≤ p / 4 by omega) (by omega), hx.1.w5, w32_of (show -2147483648 ≤ p / 4 * 4 by omega) (by omega), w32_of (by omega) (by omega)]
  refine ⟨⟨by omega, by omega⟩, ?_⟩
  have := drop_loop (g := g) (e := e) (s := s) (q := p / 4) (by omega) (by omega) (X.1 5 (p / 4) - p % 4).toNat p s X (by omega) (by omega) hx hI (by omega) h4 Fr.rf
  rw [show p + (((X.1 5 (p / 4) - p % 4).toNat : Nat) : Int) = p / 4 * 4 + X.1 5 (p / 4) by omega] at this
  exact this
/-- what a drop leaves -/
theorem dropL_spec {q : Int} (hq : 0 ≤ q) (hq2 : q < 16) : ∀ (n : Nat) (k : Int) (X : WX), 4 * q ≤ k → k + n ≤ 4 * q + 4 → WI0 X.1 → (∀ j, k ≤ j → j < k + n → X.1 4 j ≠ -1) →
    WI0 (dropL n X k).1 ∧ (∀ c, 0 ≤ c → c < 8 → (dropL n X k).1 3 c = if k ≤ X.1 3 c ∧ X.1 3 c < k + n then -1 else X.1 3 c) ∧ (∀ p, (dropL n X k).1 4 p = if k ≤ p ∧ p < k + n then -1 else X.1 4 p) ∧
    (∀ j, (dropL n X k).1 5 j = if j = q then X.1 5 j - n else X.1 5 j) ∧ (dropL n X k).1 1 = X.1 1 ∧ (dropL n X k).1 2 = X.1 2 ∧ (∀ j, j ≠ 9 → (dropL n X k).1 0 j = X.1 0 j) ∧
    (0 ≤ X.1 0 9 ∧ X.1 0 9 ≤ 60 → 0 ≤ (dropL n X k).1 0 9 ∧ (dropL n X k).1 0 9 ≤ 60) := by
  intro n
  induction n with
  | zero =>
    intro k X k1 k2 hI hl
    refine ⟨hI, fun c c0 c8 => ?_, fun p => ?_, fun j => ?_, rfl, rfl, fun j _ => rfl, fun h => h⟩
    · rw [if_neg (by omega)]; rfl
    · rw [if_neg (by omega)]; rfl
    · split
      · show X.1 5 j = X.1 5 j - 0; omega
      · rfl
  | succ n ih =>
    intro k X k1 k2 hI hl
    have h := hl k (by omega) (by omega)
    obtain ⟨c0, c8, cp⟩ := (hI.2 k (by omega) (by omega)).resolve_left h
    unfold dropL drop1
    rw [if_neg h]
    generalize hc : X.1 4 k = c at *
    have e3 : ∀ j, keepA (liftA X.1 c) c (k / 16) 0 3 j = if j = c then -1 else X.1 3 j := fun j => by rw [keepA_at _ _ _ _ (by decide) (by decide), liftA_3]
    have e4 : ∀ j, keepA (liftA X.1 c) c (k / 16) 0 4 j = if j = k then -1 else X.1 4 j := fun j => by
      rw [keepA_at _ _ _ _ (by decide) (by decide), liftA_4, cp]
      by_cases hj : j = k
      · rw [if_pos ⟨by omega, hj⟩, if_pos hj]
      · rw [if_neg (fun z => hj z.2), if_neg hj]
    have e5 : ∀ j, keepA (liftA X.1 c) c (k / 16) 0 5 j = if j = q then X.1 5 j - 1 else X.1 5 j := fun j => by
      rw [keepA_at _ _ _ _ (by decide) (by decide), liftA_5, cp]
      by_cases hj : j = q
      · rw [if_pos ⟨by omega, by omega⟩, if_pos hj]
      · rw [if_neg (fun z => hj (by omega)), if_neg hj]
    have hi := ih (k + 1) (keepA (liftA X.1 c) c (k / 16) 0, bOr X.2.1 (bShl 1 c), w32 (X.2.2 + 1)) (by omega) (by omega) (keepA_I (liftA_I hI c0 c8)) (fun j j1 j2 => by
      show keepA (liftA X.1 c) c (k / 16) 0 4 j ≠ -1
      rw [e4, if_neg (by omega)]
      exact hl j (by omega) (by omega))
    obtain ⟨i1, i2, i3, i4, i5, i6, i7, i8⟩ := hi
    refine ⟨i1, fun d d0 d8 => ?_, fun p => ?_, fun j => ?_, ?_, ?_, fun j hj => ?_, fun h9 => ?_⟩
    · rw [i2 d d0 d8]
      show (if k + 1 ≤ keepA (liftA X.1 c) c (k / 16) 0 3 d ∧ keepA (liftA X.1 c) c (k / 16) 0 3 d < k + 1 + n then (-1 : Int) else keepA (liftA X.1 c) c (k / 16) 0 3 d) = _
      rw [e3]
      by_cases hd : d = c
      · rw [if_pos hd, hd, cp, if_pos (show k ≤ k ∧ k < k + ((n + 1 : Nat) : Int) by omega)]
        split <;> rfl
      · rw [if_neg hd]
        have : X.1 3 d ≠ k := by
          intro z
          rcases hI.1 d d0 d8 with y | ⟨_, _, y⟩
          · omega
          · rw [z, hc] at y; exact hd y.symm
        by_cases z : k ≤ X.1 3 d ∧ X.1 3 d < k + ((n + 1 : Nat) : Int)
        · rw [if_pos z, if_pos (by omega)]
        · rw [if_neg z, if_neg (by omega)]
    · rw [i3 p]
      show (if k + 1 ≤ p ∧ p < k + 1 + n then (-1 : Int) else keepA (liftA X.1 c) c (k / 16) 0 4 p) = _
      rw [e4]
      by_cases hp : p = k
      · rw [if_pos hp, if_neg (by omega), if_pos (by omega)]
      · rw [if_neg hp]
        by_cases z : k ≤ p ∧ p < k + ((n + 1 : Nat) : Int)
        · rw [if_pos z, if_pos (by omega)]
        · rw [if_neg z, if_neg (by omega)]
    · rw [i4 j]
      show (if j = q then keepA (liftA X.1 c) c (k / 16) 0 5 j - n else keepA (liftA X.1 c) c (k / 16) 0 5 j) = _
      rw [e5]
      split <;> omega
    · rw [i5]; show keepA (liftA X.1 c) c (k / 16) 0 1 = _; rw [keepA_at _ _ _ _ (by decide) (by decide), liftA_1]
    · rw [i6]; show keepA (liftA X.1 c) c (k / 16) 0 2 = _; rw [keepA_at _ _ _ _ (by decide) (by decide), liftA_2]
    · rw [i7 j hj]; show keepA (liftA X.1 c) c (k / 16) 0 0 j = _; rw [keepA_01 _ _ _ _ hj, liftA_0]
    · refine i8 ?_
      show 0 ≤ keepA (liftA X.1 c) c (k / 16) 0 0 9 ∧ keepA (liftA X.1 c) c (k / 16) 0 0 9 ≤ 60
      rw [keepA_9, liftA_0]
      split <;> omega
theorem dropX_spec {X : WX} {p : Int} (hW : WOK T X.1) (p0 : 0 ≤ p) (p1 : p < 64) (hl : X.1 4 p ≠ -1) :
    WOK T (dropX X p).1 ∧ (∀ c, 0 ≤ c → c < 8 → (dropX X p).1 3 c = if p ≤ X.1 3 c ∧ X.1 3 c / 4 = p / 4 then -1 else X.1 3 c) ∧ (dropX X p).1 1 = X.1 1 ∧ (dropX X p).1 2 = X.1 2 ∧ (∀ j, j ≠ 9 → (dropX X p).1 0 j = X.1 0 j) ∧
    (∀ j, 0 ≤ j → j < 64 → (dropX X p).1 4 j = if p ≤ j ∧ j / 4 = p / 4 then -1 else X.1 4 j) ∧ (∀ j, (dropX X p).1 5 j = if j = p / 4 then p % 4 else X.1 5 j) := by
  obtain ⟨hN, hI, hH⟩ := hW
  have hh := hH.1 (p / 4) (by omega) (by omega)
  have hlt : p % 4 < X.1 5 (p / 4) := by
    have := hh.2.2 (p % 4) (by omega) (by omega)
    rw [show 4 * (p / 4) + p % 4 = p by omega] at this
    have : ¬ X.1 5 (p / 4) ≤ p % 4 := fun z => hl (this.mpr z)
    omega
  unfold dropX
  have hn : ((X.1 5 (p / 4) - p % 4).toNat : Int) = X.1 5 (p / 4) - p % 4 := by omega
  generalize (X.1 5 (p / 4) - p % 4).toNat = n at *
  obtain ⟨i1, i2, i3, i4, i5, i6, i7, i8⟩ := dropL_spec (q := p / 4) (by omega) (by omega) n p X (by omega) (by omega) hI (fun j j1 j2 => by
    have := hh.2.2 (j - 4 * (p / 4)) (by omega) (by omega)
    rw [show 4 * (p / 4) + (j - 4 * (p / 4)) = j by omega] at this
    intro z
    have := this.mp z
    omega)
  -- who lies in the column lies below its top
  have top : ∀ j, 0 ≤ j → j < 64 → j / 4 = p / 4 → X.1 4 j ≠ -1 → j < p + n := by
    intro j j0 j1 j2 j3
    have := hh.2.2 (j % 4) (by omega) (by omega)
    rw [show 4 * (p / 4) + j % 4 = j by omega] at this
    have : ¬ X.1 5 (p / 4) ≤ j % 4 := fun z => j3 (this.mpr z)
    omega
  have f3 : ∀ c, 0 ≤ c → c < 8 → (dropL n X p).1 3 c = if p ≤ X.1 3 c ∧ X.1 3 c / 4 = p / 4 then -1 else X.1 3 c := by
    intro c c0 c8
    rw [i2 c c0 c8]
    rcases hI.1 c c0 c8 with z | ⟨z1, z2, z3⟩
    · rw [z]; split <;> split <;> rfl
    · by_cases y : p ≤ X.1 3 c ∧ X.1 3 c < p + n
      · rw [if_pos y, if_pos (by omega)]
      · rw [if_neg y, if_neg]
        rintro ⟨y1, y2⟩
        have := top _ z1 z2 y2 (by rw [z3]; omega)
        omega
  have f4 : ∀ j, 0 ≤ j → j < 64 → (dropL n X p).1 4 j = if p ≤ j ∧ j / 4 = p / 4 then -1 else X.1 4 j := by
    intro j j0 j1
    rw [i3 j]
    by_cases y : p ≤ j ∧ j < p + n
    · rw [if_pos y, if_pos (by omega)]
    · rw [if_neg y]
      by_cases z : p ≤ j ∧ j / 4 = p / 4
      · rw [if_pos z]
        apply Classical.byContradiction
        intro u
        have := top j j0 j1 z.2 u
        omega
      · rw [if_neg z]
  have f5 : ∀ j, (dropL n X p).1 5 j = if j = p / 4 then p % 4 else X.1 5 j := by
    intro j
    rw [i4 j]
    split
    · rename_i z; rw [z]; omega
    · rfl
  refine ⟨⟨?_, i1, ?_, ?_⟩, f3, i5, i6, i7, f4, f5⟩
  · obtain ⟨n1, n2, n3, n4, n5⟩ := hN
    unfold WN
    rw [i7 1 (by decide), i7 2 (by decide), i5, i6]
    exact ⟨n1, n2, i8 n3, n4, n5⟩
  · intro k k0 k1
    have hk := hH.1 k k0 k1
    rw [f5 k]
    by_cases z : k = p / 4
    · rw [if_pos z]
      refine ⟨by omega, by omega, fun j j0 j1 => ?_⟩
      rw [f4 _ (by omega) (by omega)]
      by_cases y : p % 4 ≤ j
      · rw [if_pos (by omega)]; exact ⟨fun _ => y, fun _ => rfl⟩
      · rw [if_neg (by omega)]
        have := hk.2.2 j j0 j1
        rw [this]
        rw [z]
        omega
    · rw [if_neg z]
      refine ⟨hk.1, hk.2.1, fun j j0 j1 => ?_⟩
      rw [f4 _ (by omega) (by omega), if_neg (by omega)]
      exact hk.2.2 j j0 j1
  · intro c c0 c8 h3
    rw [f3 c c0 c8] at h3 ⊢
    have hc := hH.2 c c0 c8
    unfold ageS at hc ⊢
    rw [i7 1 (by decide)]
    split at h3
    · exact absurd rfl h3
    · rename_i z
      rw [if_neg z]
      exact hc h3
-- how many stones
def stN (A : Wd) : Int := cntF 8 (fun c => A 3 c != -1)
theorem cntF_mono {n : Nat} {p q : Int → Bool} (h : ∀ k : Nat, k < n → p k = true → q k = true) : cntF n p ≤ cntF n q := by
  induction n with
  | zero => exact Int.le_refl _
  | succ n ih =>
    have i := ih (fun k hk => h k (by omega))
    have hn := h n (by omega)
    unfold cntF
    cases hp : p n
    · simp only [Bool.false_eq_true, if_false]
      split <;> omega
    · rw [hn hp]; simp; omega
theorem cntF_less {n : Nat} {p q : Int → Bool} {c : Nat} (hc : c < n) (h : ∀ k : Nat, k < n → p k = true → q k = true) (h1 : p c = false) (h2 : q c = true) : cntF n p < cntF n q := by
  induction n with
  | zero => omega
  | succ n ih =>
    unfold cntF
    by_cases e : c = n
    · subst e
      rw [h1, h2]
      have := cntF_mono (n := c) (p := p) (q := q) (fun k hk => h k (by omega))
      simp
      omega
    · have i := ih (by omega) (fun k hk => h k (by omega))
      have hn := h n (by omega)
      cases hp : p n
      · simp only [Bool.false_eq_true, if_false]
        split <;> omega
      · rw [hn hp]; simp; omega
theorem dropX_less {X : WX} {p : Int} (hW : WOK T X.1) (p0 : 0 ≤ p) (p1 : p < 64) (hl : X.1 4 p ≠ -1) : stN (dropX X p).1 < stN X.1 := by
  obtain ⟨_, f3, _⟩ := dropX_spec hW p0 p1 hl
  obtain ⟨c0, c8, cp⟩ := (hW.2.1.2 p p0 p1).resolve_left hl
  unfold stN
  refine cntF_less (c := (X.1 4 p).toNat) (by omega) (fun k hk h => ?_) ?_ ?_
  · simp only [bne_iff_ne, ne_eq] at h ⊢
    rw [f3 k (by omega) (by omega)] at h
    split at h
    · exact absurd rfl h
    · exact h
  · rw [show (((X.1 4 p).toNat : Nat) : Int) = X.1 4 p by omega, f3 _ c0 c8, cp, if_pos ⟨by omega, rfl⟩]
    rfl
  · rw [show (((X.1 4 p).toNat : Nat) : Int) = X.1 4 p by omega, cp]
    simp
    omega
theorem weaS_hit {w : Int} (h0 : 0 ≤ w) (h : weaS T A w ≠ -1) : 16 * w ≤ weaS T A w ∧ weaS T A w < 16 * w + 16 ∧ A 4 (weaS T A w) ≠ -1 := by
  rcases scanF_le 16 (16 * w) (weakP T A) with z | ⟨z1, z2, z3, _⟩
  · exact absurd z h
  · refine ⟨z1, z2, ?_⟩
    unfold weakP at z3
    simp only [Bool.and_eq_true, bne_iff_ne, ne_eq] at z3
    exact z3.1
theorem looF_hit : ∀ (n : Nat) (w : Int) {j : Int}, w ≤ j → j < w + n → (∀ i, w ≤ i → i < j → weaS T A i = -1) → weaS T A j ≠ -1 → looF T A n w = weaS T A j := by
  intro n
  induction n with
  | zero => intro w j h1 h2; omega
  | succ n ih =>
    intro w j h1 h2 h3 h4
    unfold looF
    by_cases e : w = j
    · subst e; rw [if_neg h4]
    · rw [if_pos (h3 w (by omega) (by omega))]
      exact ih (w + 1) (by omega) (by omega) (fun i i1 i2 => h3 i (by omega) i2) h4
theorem looF_none : ∀ (n : Nat) (w : Int), (∀ i, w ≤ i → i < w + n → weaS T A i = -1) → looF T A n w = -1 := by
  intro n
  induction n with
  | zero => intro w h; rfl
  | succ n ih =>
    intro w h
    unfold looF
    rw [if_pos (h w (by omega) (by omega))]
    exact ih (w + 1) (fun i i1 i2 => h i (by omega) (by omega))
theorem looF_le : ∀ (n : Nat) (w : Int), 0 ≤ w → looF T A n w = -1 ∨ (0 ≤ looF T A n w ∧ looF T A n w < 16 * (w + n) ∧ A 4 (looF T A n w) ≠ -1) := by
  intro n
  induction n with
  | zero => intro w h; left; rfl
  | succ n ih =>
    intro w h
    unfold looF
    split
    · rcases ih (w + 1) (by omega) with z | ⟨z1, z2, z3⟩
      · left; exact z
      · right; exact ⟨z1, by omega, z3⟩
    · rename_i hn
      right
      obtain ⟨z1, z2, z3⟩ := weaS_hit h hn
      exact ⟨by omega, by omega, z3⟩
theorem fall_in (X0 : WX) (m : Nat) (hm : ∀ (s0 : Sg) (X : WX) (n b : Int), CZ s0 th tw T X b → WOK T X.1 → stN X.1 ≤ m - 1 → 0 ≤ n → n + 4 * (m - 1 : Int) + T 1 2 ≤ 36 → 1 ≤ m → Fr (Jw th) s s0 → P_X11_fall_4 g (e + 3) (PZ s th tw T (fallX T (m - 1) X) b) s0 th 0 n) :
    ∀ (u : Nat) (s0 : Sg) (n v b : Int), v + u = T 1 2 → 0 ≤ v → CZ s0 th tw T X0 b → WOK T X0.1 → stN X0.1 ≤ m → 0 ≤ n → n + 4 * m + u ≤ 36 → (∀ j, 0 ≤ j → j < v → weaS T X0.1 j = -1) → Fr (Jw th) s s0 →
      P_X11_fall_4 g (e + 3) (PZ s th tw T (fallX T m X0) b) s0 th v n := by
  intro u
  induction u with
  | zero =>
    intro s0 n v b hv v0 hx hW hs n0 hn hb hf
    have hl : looS T X0.1 = -1 := looF_none _ _ (fun i i1 i2 => hb i i1 (by omega))
    have hr : fallX T m X0 = X0 := by
      cases m with
      | zero => rfl
      | succ m => unfold fallX; rw [if_pos hl]
    rw [hr]
    refine S_X11_fall_4 ⟨fun _ => ⟨hx, hf⟩, fun _ => ?_⟩
    rw [hx.1.tp]
    exact Mw.ex (C_wallCount hx.1) ⟨fun _ => ⟨hx, hf⟩, fun h => absurd (by omega) h⟩
  | succ u ih =>
    intro s0 n v b hv v0 hx hW hs n0 hn hb hf
    have t4 := hx.1.ok.2.2.1
    refine S_X11_fall_4 ⟨fun h => by omega, fun _ => ?_⟩
    rw [hx.1.tp]
    refine Mw.ex (C_wallCount hx.1) ⟨fun h => by omega, fun _ => Mw.ex (C_weakSpot hx.1 hW.2.1 hW.2.2 v0 (by omega)) ⟨fun h => ?_, fun h => ?_⟩⟩
    · obtain ⟨z1, z2, z3⟩ := weaS_hit v0 h
      have hl : looS T X0.1 = weaS T X0.1 v := looF_hit _ _ v0 (by omega) (fun i i1 i2 => hb i i1 i2) h
      have hh := hW.2.2.1 (weaS T X0.1 v / 4) (by omega) (by omega)
      have hlt : weaS T X0.1 v % 4 < X0.1 5 (weaS T X0.1 v / 4) := by
        have := hh.2.2 (weaS T X0.1 v % 4) (by omega) (by omega)
        rw [show 4 * (weaS T X0.1 v / 4) + weaS T X0.1 v % 4 = weaS T X0.1 v by omega] at this
        have : ¬ X0.1 5 (weaS T X0.1 v / 4) ≤ weaS T X0.1 v % 4 := fun z => z3 (this.mpr z)
        omega
      refine (C_dropFrom hx hW.2.1 (by omega) (by omega) hh.2.1 (by omega)).imp (fun _ s6 h6 => ?_)
      have hls := dropX_less hW (by omega) (by omega) z3
      have hpos : 0 ≤ stN (dropX X0 (weaS T X0.1 v)).1 := (cntF_le 8 _).1
      have hr : fallX T m X0 = fallX T (m - 1) (dropX X0 (weaS T X0.1 v)) := by
        cases m with
        | zero => exfalso; simp at hs; omega
        | succ m =>
          show fallX T (m + 1) X0 = fallX T m _
          unfold fallX
          rw [hl, if_neg h]
          cases m <;> rfl
      rw [hr, w32_of (by omega) (by omega)]
      exact hm s6 _ (n + 1) b h6.1 (dropX_spec hW (by omega) (by omega) z3).1 (by omega) (by omega) (by omega) (by omega) (hf.tr h6.2)
    · rw [w32_of (by omega) (by omega), w32_of (by omega) (by omega)]
      refine ih s0 (n + 1) (v + 1) b (by omega) (by omega) hx hW hs (by omega) (by omega) (fun j j0 j1 => ?_) hf
      by_cases z : j = v
      · rw [z]; exact h
      · exact hb j j0 (by omega)
theorem fall_all : ∀ (m : Nat) (s0 : Sg) (X : WX) (n b : Int), CZ s0 th tw T X b → WOK T X.1 → stN X.1 ≤ m → 0 ≤ n → n + 4 * m + T 1 2 ≤ 36 → Fr (Jw th) s s0 → P_X11_fall_4 g (e + 3) (PZ s th tw T (fallX T m X) b) s0 th 0 n := by
  intro m
  induction m with
  | zero =>
    intro s0 X n b hx hW hs n0 hn hf
    have t4 := hx.1.ok.2.2.1
    exact fall_in X 0 (fun _ _ _ _ _ _ _ _ _ h1 => absurd h1 (by decide)) (T 1 2).toNat s0 n 0 b (by omega) (by omega) hx hW hs n0 (by omega) (fun j j0 j1 => by omega) hf
  | succ m ih =>
    intro s0 X n b hx hW hs n0 hn hf
    have t4 := hx.1.ok.2.2.1
    refine fall_in X (m + 1) (fun s1 X1 n1 b1 h1 h2 h3 h4 h5 _ h6 => ?_) (T 1 2).toNat s0 n 0 b (by omega) (by omega) hx hW hs n0 (by omega) (fun j j0 j1 => by omega) hf
    exact ih s1 X1 n1 b1 h1 h2 (by omega) h4 (by omega) h6
theorem C_fall {X : WX} {b : Int} (hx : CZ s th tw T X b) (hW : WOK T X.1) : Mw g (e + 4) M_X11_fall [(19, th)] s (PZ s th tw T (fallX T 8 X) b) := by
  refine S_X11_fall (fun _ => ?_)
  have t4 := hx.1.ok.2.2.1
  have h8 : stN X.1 ≤ 8 := (cntF_le 8 _).2
  exact fall_all 8 s X 0 b hx hW h8 (by decide) (by omega) Fr.rf
theorem fallX_ok : ∀ (m : Nat) (X : WX), TOK T → WOK T X.1 → WOK T (fallX T m X).1 := by
  intro m
  induction m with
  | zero => intro X _ h; exact h
  | succ m ih =>
    intro X hT h
    unfold fallX
    split
    · exact h
    · rename_i hn
      have t4 := hT.2.2.1
      rcases looF_le (T := T) (A := X.1) (T 1 2).toNat 0 (by omega) with z | ⟨z1, z2, z3⟩
      · exact absurd z hn
      · exact ih _ hT (dropX_spec h z1 (by unfold looS at *; omega) z3).1
end WFALL
