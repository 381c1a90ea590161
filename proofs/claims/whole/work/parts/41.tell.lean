/-! the class: what a world tells; clear, copy, begin -/
theorem setF_or {c : Nat} (hc : c < 31) (p : Int → Bool) : bOr (setF c p) (bShl 1 c) = setF c p + 2 ^ c := by
  have h := setF_lt c p
  have e := bShl1 (k := (c : Int)) (by omega) (by omega)
  have h2 : 2 ^ c ≤ 2 ^ 30 := Nat.pow_le_pow_right (by omega) (by omega)
  rw [Int.toNat_natCast] at e
  have e2 : ((2 ^ c : Nat) : Int) = 1 * 2 ^ c := by simp
  rw [bOr_cm, e, e2, bOr_add (a := 1) (n := c) (by decide) h.1 h.2 (by rw [← e2]; omega) hc]
  omega
theorem setF_R {c : Nat} (hc : c ≤ 31) (p : Int → Bool) : inR (setF c p) := by
  have h := setF_lt c p
  have h2 : 2 ^ c ≤ 2 ^ 31 := Nat.pow_le_pow_right (by omega) hc
  have e2 := pow2 c
  unfold inR
  omega
theorem setF_s {c : Nat} {p : Int → Bool} (h : p c = true) : setF (c + 1) p = setF c p + 2 ^ c := by show setF c p + (if p c = true then 2 ^ c else 0) = _; rw [if_pos h]
theorem setF_n {c : Nat} {p : Int → Bool} (h : p c = false) : setF (c + 1) p = setF c p := by show setF c p + (if p c = true then 2 ^ c else 0) = _; rw [if_neg (by rw [h]; decide)]; omega
theorem cntF_s {c : Nat} {p : Int → Bool} (h : p c = true) : cntF (c + 1) p = cntF c p + 1 := by show cntF c p + (if p c = true then 1 else 0) = _; rw [if_pos h]
theorem cntF_n {c : Nat} {p : Int → Bool} (h : p c = false) : cntF (c + 1) p = cntF c p := by show cntF c p + (if p c = true then 1 else 0) = _; rw [if_neg (by rw [h]; decide)]; omega
def bitsS (T : Tn) (A : Wd) (w : Int) : Int := setF (T 1 1).toNat (fun c => whS T A c == w)
def livS (T : Tn) (A : Wd) (h : Int) : Int := setF (T 1 1).toNat (fun c => A 1 c == h)
def togS (T : Tn) (A : Wd) : Int := sumF (T 1 1).toNat (A 2)
def stoS (T : Tn) (A : Wd) (w : Int) : Int := sumF (T 11 w).toNat (fun k => A 5 (4 * w + k))
def fulS (T : Tn) (A : Wd) : Int := cntF (T 1 2).toNat (fun w => stoS T A w == T 11 w * T 12 w)
def swF (T : Tn) (c h : Int) : Nat → Int → Int → Int
  | 0, v, _ => v
  | n + 1, v, a => swF T c h n (groS T h a v (T 9 c + a)) (a + 1)
def swS (T : Tn) (A : Wd) (c h : Int) : Int := swF T c h (T 0 15 - max (ageS T A c) (T 0 14)).toNat (A 2 c) (max (ageS T A c) (T 0 14))
def lyiS (T : Tn) (A : Wd) (c w : Int) : Int := if w = 2 then A 3 c / 16 else if w = 3 then A 3 c / 4 % 4 else if w = 4 then A 3 c % 4 else if w = 5 then loaS T A (A 3 c) else if w = 6 then beaS T A c 0 else -1
section TELL
variable {g : GT} {e : Nat} {s : Sg} {th tw : Int} {T : Tn} {A : Wd}
theorem bits_loop {w : Int} (hx : CX s th tw T A) : ∀ (m c : Nat), (c : Int) + m = T 1 1 → P_X11_bitsAt_4 g (e + 3) (Ex (bitsS T A w) s) s th w (setF c (fun c => whS T A c == w)) c := by
  intro m
  have b8 := hx.ok.2.1
  induction m with
  | zero =>
    intro c hc
    refine S_X11_bitsAt_4 ?_
    rw [hx.tp]
    refine Mw.ex (C_childCount hx) ⟨fun _ => ⟨?_, rfl⟩, fun q => absurd (by omega) q⟩
    unfold bitsS
    rw [show (T 1 1).toNat = c by omega]
  | succ m ih =>
    intro c hc
    have h := ih (c + 1) (by omega)
    rw [show (((c + 1 : Nat)) : Int) = (c : Int) + 1 by omega] at h
    refine S_X11_bitsAt_4 ?_
    rw [hx.tp, w32_of (by omega) (by omega), setF_or (by omega), bOr_0 (setF_R (by omega) _)]
    refine Mw.ex (C_childCount hx) ⟨fun q => by omega, fun _ => Mw.ex (C_where hx (by omega) (by omega)) ⟨fun q => ?_, fun q => ?_⟩⟩
    · rw [setF_n (by simp [q])] at h; exact h
    · rw [setF_s (by simp [q])] at h; exact h
theorem C_bitsAt {w : Int} (hx : CX s th tw T A) : Mw g (e + 4) M_X11_bitsAt [(19, th), (0, w)] s (Ex (bitsS T A w) s) := by
  have b8 := hx.ok.2.1
  exact S_X11_bitsAt (fun _ _ => bits_loop hx (T 1 1).toNat 0 (by omega))
theorem living_loop {w : Int} (hx : CX s th tw T A) : ∀ (m c : Nat), (c : Int) + m = T 1 1 → P_X11_livingAt_4 g (e + 1) (Ex (livS T A w) s) s th w (setF c (fun c => A 1 c == w)) c := by
  intro m
  have b8 := hx.ok.2.1
  induction m with
  | zero =>
    intro c hc
    refine S_X11_livingAt_4 ?_
    rw [hx.tp]
    refine Mw.ex (C_childCount hx) ⟨fun _ => ⟨?_, rfl⟩, fun q => absurd (by omega) q⟩
    unfold livS
    rw [show (T 1 1).toNat = c by omega]
  | succ m ih =>
    intro c hc
    have h := ih (c + 1) (by omega)
    rw [show (((c + 1 : Nat)) : Int) = (c : Int) + 1 by omega] at h
    refine S_X11_livingAt_4 ?_
    rw [hx.tp, w32_of (by omega) (by omega), setF_or (by omega), bOr_0 (setF_R (by omega) _)]
    refine Mw.ex (C_childCount hx) ⟨fun q => by omega, fun _ => ⟨⟨by omega, by omega⟩, ?_⟩⟩
    rw [hx.w1]
    refine ⟨fun q => ?_, fun q => ?_⟩
    · rw [setF_n (by simp [q])] at h; exact h
    · rw [setF_s (by simp [q])] at h; exact h
theorem C_livingAt {w : Int} (hx : CX s th tw T A) : Mw g (e + 2) M_X11_livingAt [(19, th), (0, w)] s (Ex (livS T A w) s) := by
  have b8 := hx.ok.2.1
  exact S_X11_livingAt (fun _ _ => living_loop hx (T 1 1).toNat 0 (by omega))
theorem sumF_bd {f : Int → Int} {m : Int} {n : Nat} (h : ∀ k : Nat, k < n → 0 ≤ f k ∧ f k ≤ m) (hm : 0 ≤ m) : 0 ≤ sumF n f ∧ sumF n f ≤ n * m := by
  induction n with
  | zero => simp [sumF]
  | succ n ih =>
    have := ih (fun k hk => h k (by omega))
    have := h n (by omega)
    unfold sumF
    have : ((n + 1 : Nat) : Int) * m = n * m + m := by rw [show ((n + 1 : Nat) : Int) = (n : Int) + 1 by omega, Int.add_mul, Int.one_mul]
    omega
theorem together_loop (hx : CX s th tw T A) : ∀ (m c : Nat), (c : Int) + m = T 1 1 → P_X11_strongTogether_4 g (e + 1) (Ex (togS T A) s) s th (sumF c (A 2)) c := by
  intro m
  have b8 := hx.ok.2.1
  induction m with
  | zero =>
    intro c hc
    refine S_X11_strongTogether_4 ?_
    rw [hx.tp]
    refine Mw.ex (C_childCount hx) ⟨fun _ => ⟨?_, rfl⟩, fun q => absurd (by omega) q⟩
    unfold togS
    rw [show (T 1 1).toNat = c by omega]
  | succ m ih =>
    intro c hc
    have h := ih (c + 1) (by omega)
    rw [show (((c + 1 : Nat)) : Int) = (c : Int) + 1 by omega] at h
    have hb := sumF_bd (f := A 2) (m := 999) (n := c) (fun k hk => (hx.n.2.2.2.1 k (by omega) (by omega)).2) (by decide)
    have hc2 := (hx.n.2.2.2.1 c (by omega) (by omega)).2
    refine S_X11_strongTogether_4 ?_
    rw [hx.tp, w32_of (show _ ≤ (c : Int) + 1 by omega) (by omega)]
    refine Mw.ex (C_childCount hx) ⟨fun q => by omega, fun _ => ⟨⟨by omega, by omega⟩, ?_⟩⟩
    rw [hx.w2, w32_of (by omega) (by omega)]
    exact h
theorem C_strongTogether (hx : CX s th tw T A) : Mw g (e + 2) M_X11_strongTogether [(19, th)] s (Ex (togS T A) s) := by
  have b8 := hx.ok.2.1
  exact S_X11_strongTogether (fun _ => together_loop hx (T 1 1).toNat 0 (by omega))
theorem stones_loop {w : Int} (hx : CX s th tw T A) (hH : WH T A) (w0 : 0 ≤ w) (w1 : w < T 1 2) : ∀ (m c : Nat), (c : Int) + m = T 11 w → P_X11_stonesIn_4 g e (Ex (stoS T A w) s) s th w (sumF c (fun k => A 5 (4 * w + k))) c := by
  intro m
  have b4 := hx.ok.2.2.1
  have bw := hx.ok.2.2.2.2.2.2.2.1 w w0 w1
  induction m with
  | zero =>
    intro c hc
    refine S_X11_stonesIn_4 ?_
    rw [hx.tp, hx.t11]
    refine ⟨⟨w0, by omega⟩, fun _ => ⟨?_, rfl⟩, fun q => absurd (by omega) q⟩
    unfold stoS
    rw [show (T 11 w).toNat = c by omega]
  | succ m ih =>
    intro c hc
    have h := ih (c + 1) (by omega)
    rw [show (((c + 1 : Nat)) : Int) = (c : Int) + 1 by omega] at h
    have hb := sumF_bd (f := fun k => A 5 (4 * w + k)) (m := 4) (n := c) (fun k hk => by have := hH.1 (4 * w + k) (by omega) (by omega); exact ⟨this.1, this.2.1⟩) (by decide)
    have hc2 := hH.1 (4 * w + c) (by omega) (by omega)
    refine S_X11_stonesIn_4 ?_
    rw [hx.tp, hx.t11, w32_of (show _ ≤ (c : Int) + 1 by omega) (by omega), hx.w5, w32_of (show _ ≤ w * 4 by omega) (by omega), w32_of (show _ ≤ w * 4 + (c : Int) by omega) (by omega), Int.mul_comm w 4, w32_of (by omega) (by omega)]
    exact ⟨⟨w0, by omega⟩, fun q => by omega, fun _ => ⟨⟨by omega, by omega⟩, h⟩⟩
theorem C_stonesIn {w : Int} (hx : CX s th tw T A) (hH : WH T A) (w0 : 0 ≤ w) (w1 : w < T 1 2) : Mw g (e + 1) M_X11_stonesIn [(19, th), (0, w)] s (Ex (stoS T A w) s) := by
  have bw := hx.ok.2.2.2.2.2.2.2.1 w w0 w1
  exact S_X11_stonesIn (fun _ _ => stones_loop hx hH w0 w1 (T 11 w).toNat 0 (by omega))
theorem full_loop (hx : CX s th tw T A) (hH : WH T A) : ∀ (m c : Nat), (c : Int) + m = T 1 2 → P_X11_fullWalls_4 g (e + 1) (Ex (fulS T A) s) s th (cntF c (fun w => stoS T A w == T 11 w * T 12 w)) c := by
  intro m
  have b4 := hx.ok.2.2.1
  induction m with
  | zero =>
    intro c hc
    refine S_X11_fullWalls_4 ?_
    rw [hx.tp]
    refine Mw.ex (C_wallCount hx) ⟨fun _ => ⟨?_, rfl⟩, fun q => absurd (by omega) q⟩
    unfold fulS
    rw [show (T 1 2).toNat = c by omega]
  | succ m ih =>
    intro c hc
    have h := ih (c + 1) (by omega)
    rw [show (((c + 1 : Nat)) : Int) = (c : Int) + 1 by omega] at h
    have hb := cntF_le c (fun w => stoS T A w == T 11 w * T 12 w)
    have bw := hx.ok.2.2.2.2.2.2.2.1 c (by omega) (by omega)
    have hm : 0 ≤ T 11 c * T 12 c ∧ T 11 c * T 12 c ≤ 16 := by
      rcases (show T 11 c = 1 ∨ T 11 c = 2 ∨ T 11 c = 3 ∨ T 11 c = 4 by omega) with q | q | q | q <;> rw [q] <;> omega
    refine S_X11_fullWalls_4 ?_
    rw [hx.tp, w32_of (show _ ≤ (c : Int) + 1 by omega) (by omega), w32_of (by omega) (by omega), w32_of (show _ ≤ cntF c _ + 1 by omega) (by omega), Int.add_zero]
    refine Mw.ex (C_wallCount hx) ⟨fun q => by omega, fun _ => Mw.ex (C_stonesIn hx hH (by omega) (by omega)) ⟨⟨by omega, by omega⟩, ⟨by omega, by omega⟩, ?_⟩⟩
    rw [hx.tp, hx.t11, hx.t12, w32_of (by omega) (by omega)]
    refine ⟨fun q => ?_, fun q => ?_⟩
    · rw [cntF_n (by simp [q])] at h; exact h
    · rw [cntF_s (by simp [q])] at h; exact h
theorem C_fullWalls (hx : CX s th tw T A) (hH : WH T A) : Mw g (e + 2) M_X11_fullWalls [(19, th)] s (Ex (fulS T A) s) := by
  have b4 := hx.ok.2.2.1
  exact S_X11_fullWalls (fun _ => full_loop hx hH (T 1 2).toNat 0 (by omega))
theorem C_lying {c w : Int} (hx : CX s th tw T A) (hI : WI0 A) (hH : WH T A) (c0 : 0 ≤ c) (c8 : c < 8) (h3 : A 3 c ≠ -1) : Mw g (e + 3) M_X11_lying [(19, th), (0, c), (0, w)] s (Ex (lyiS T A c w) s) := by
  obtain ⟨p0, p1, p2⟩ := (hI.1 c c0 c8).resolve_left h3
  refine S_X11_lying (fun _ _ _ => ⟨⟨c0, c8⟩, ?_⟩)
  rw [hx.w3, td_of p0, w32_of (by omega) (by omega), tm_of (by omega), tm_of p0]
  unfold lyiS
  refine ⟨fun h => ?_, fun h => ?_, fun h => ?_, fun h => ?_, fun h => ?_, fun h => ?_⟩
  · subst h; exact Mw.ex (C_wallAt p0) ⟨rfl, rfl⟩
  · subst h; exact ⟨rfl, rfl⟩
  · subst h; exact ⟨rfl, rfl⟩
  · subst h; exact Mw.ex (C_loadAt hx hH p0 p1) ⟨rfl, rfl⟩
  · subst h; exact Mw.ex (C_bears hx hI c0 c8 (by decide) (by decide) h3) ⟨rfl, rfl⟩
  · rw [if_neg (by omega), if_neg (by omega), if_neg (by omega), if_neg (by omega), if_neg (by omega)]
    exact ⟨rfl, rfl⟩
theorem sw_loop {c h : Int} (hF : TF T) (c0 : 0 ≤ c) (c8 : c < 8) (h0 : 0 ≤ h) (h6 : h < 6) : ∀ (n : Nat) (v a : Int) (s0 : Sg), CX s0 th tw T A → (0 < n → a + n = T 0 15) → T 0 15 ≤ a + n → 0 ≤ v → v ≤ 999 → T 0 14 ≤ a → a ≤ 1000 → Fr Jk s s0 → P_X11_strongWhenDone_24 g (e + 4) (fun r s' => r = swF T c h n v a ∧ Fr Jk s s') s0 th c h v a := by
  intro n
  induction n with
  | zero =>
    intro v a s0 hx ha ha2 v0 v9 a0 a9 hf
    refine S_X11_strongWhenDone_24 ?_
    rw [hx.tp, hx.t0]
    exact ⟨fun _ => ⟨rfl, hf⟩, fun q => absurd (by omega) q⟩
  | succ n ih =>
    intro v a s0 hx ha ha2 v0 v9 a0 a9 hf
    have ha' := ha (by omega)
    have t := hx.ok.2.2.2.2.2.2.2.2.2.1
    have tb := (hx.ok.2.2.2.2.2.1 c c0 c8).2.1
    refine S_X11_strongWhenDone_24 ?_
    rw [hx.tp, hx.t0, hx.t9, w32_of (show _ ≤ T 9 c + a by omega) (by omega), w32_of (show _ ≤ a + 1 by omega) (by omega)]
    refine ⟨fun q => by omega, fun _ => ⟨⟨c0, c8⟩, (C_grown hx.2.2.2.1 hx.ok hF hx.2.1 h0 h6 ⟨by omega, a9⟩ ⟨v0, v9⟩ ⟨by omega, by omega⟩).imp (fun r s2 h2 => ?_)⟩⟩
    have b := groS_bd (T := T) (h := h) (a := a) (y := T 9 c + a) ⟨v0, v9⟩
    rw [h2.1]
    exact ih _ _ s2 (hx.jk h2.2) (fun _ => by omega) (by omega) b.1 b.2 (by omega) (by omega) (hf.tr h2.2)
theorem C_strongWhenDone {c h : Int} (hx : CX s th tw T A) (hF : TF T) (c0 : 0 ≤ c) (c8 : c < 8) (h0 : 0 ≤ h) (h6 : h < 6) : Mw g (e + 5) M_X11_strongWhenDone [(19, th), (0, c), (0, h)] s (fun r s' => r = swS T A c h ∧ Fr Jk s s') := by
  refine S_X11_strongWhenDone (fun _ _ _ => ⟨⟨c0, c8⟩, Mw.ex (C_age hx c0 c8) ?_⟩)
  rw [hx.tp, hx.t0, hx.w2]
  have t := hx.ok.2.2.2.2.2.2.2.2.2.1
  have ha := age_le hx c0 c8
  have hs := (hx.n.2.2.2.1 c c0 c8).2
  exact sw_loop hF c0 c8 h0 h6 (T 0 15 - max (ageS T A c) (T 0 14)).toNat (A 2 c) (max (ageS T A c) (T 0 14)) s hx (fun q => by omega) (by omega) hs.1 hs.2 (by omega) (by omega) Fr.rf
end TELL
