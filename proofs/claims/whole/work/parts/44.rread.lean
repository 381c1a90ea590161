/-! the reference: what a world of it answers (reading alone) -/
def waP (p : Int) : Int := if p = -1 then -1 else p / 16
def coP (p : Int) : Int := if p = -1 then 0 else p / 4 % 4
def cuP (p : Int) : Int := if p = -1 then 0 else p % 4
/-- world v of the reference is A, but for what is kept -/
def RW (s : Sg) (v : Int) (T : Tn) (A : Wd) : Prop :=
  s 122 v = A 0 1 ∧ s 123 v = A 0 2 ∧ (0 ≤ s 129 v ∧ s 129 v ≤ 60) ∧ ∀ c, 0 ≤ c → c < T 1 1 → s 124 (8 * v + c) = A 1 c ∧ s 125 (8 * v + c) = A 2 c ∧ s 126 (8 * v + c) = waP (A 3 c) ∧ s 127 (8 * v + c) = coP (A 3 c) ∧ s 128 (8 * v + c) = cuP (A 3 c)
def RX (s : Sg) (v b : Int) (T : Tn) (A : Wd) : Prop := RB s b T ∧ (0 ≤ v ∧ v < 23) ∧ RW s v T A
/-- who lies in wall w, column k, course j -/
def liS (A : Wd) (w k j : Int) : Int := if (0 ≤ k ∧ k < 4) ∧ 0 ≤ j ∧ j < 4 then A 4 (16 * w + 4 * k + j) else -1
section RREAD
variable {g : GT} {e : Nat} {s : Sg} {v b : Int} {T : Tn} {A : Wd}
theorem RX.ok (h : RX s v b T A) : TOK T := h.1.2.2.2.1
theorem RX.tf (h : RX s v b T A) : TF T := h.1.2.2.2.2
theorem RX.rt (h : RX s v b T A) : RT s b T := h.1.2.2.1
theorem RX.bk (h : RX s v b T A) : s 92 13 = b := h.1.1
theorem RX.b2 (h : RX s v b T A) : b = 0 ∨ b = 1 := h.1.2.1
theorem RX.nc (h : RX s v b T A) : s 97 b = T 1 1 := h.rt.1.2.1
theorem RX.nw (h : RX s v b T A) : s 104 b = T 1 2 := h.rt.1.2.2.1
theorem RX.c (h : RX s v b T A) {c : Int} (c0 : 0 ≤ c) (c1 : c < T 1 1) : s 124 (8 * v + c) = A 1 c ∧ s 125 (8 * v + c) = A 2 c ∧ s 126 (8 * v + c) = waP (A 3 c) ∧ s 127 (8 * v + c) = coP (A 3 c) ∧ s 128 (8 * v + c) = cuP (A 3 c) := h.2.2.2.2.2 c c0 c1
theorem RX.jm {s2 : Sg} (h : RX s v b T A) (hf : Fr Jm s s2) : RX s2 v b T A := by
  obtain ⟨h1, h2, h3⟩ := h
  refine ⟨h1.jm hf, h2, ?_⟩
  have e : ∀ o, o ≠ 131 → o ≠ 132 → s2 o = s o := fun o o1 o2 => hf o (by unfold Jm; omega)
  unfold RW
  rw [e 122 (by decide) (by decide), e 123 (by decide) (by decide), e 124 (by decide) (by decide), e 125 (by decide) (by decide), e 126 (by decide) (by decide), e 127 (by decide) (by decide), e 128 (by decide) (by decide), e 129 (by decide) (by decide)]
  exact h3
theorem R_born {c : Int} (h : RX s v b T A) (c0 : 0 ≤ c) (c1 : c < T 1 1) : Mw g (e + 1) M_X13_born [(21, 92), (0, c)] s (Ex (T 9 c) s) := by
  have hb := h.b2
  have b8 := h.ok.2.1
  refine S_X13_born (fun _ => ?_)
  rw [h.bk, w32_of (show _ ≤ 8 * b by omega) (by omega), w32_of (by omega) (by omega), (h.rt.2.2.1 c c0 c1).2.1]
  exact ⟨⟨by omega, by omega⟩, rfl, rfl⟩
theorem R_twin {c : Int} (h : RX s v b T A) (c0 : 0 ≤ c) (c1 : c < T 1 1) : Mw g (e + 1) M_X13_twin [(21, 92), (0, c)] s (Ex (T 10 c) s) := by
  have hb := h.b2
  have b8 := h.ok.2.1
  refine S_X13_twin (fun _ => ?_)
  rw [h.bk, w32_of (show _ ≤ 8 * b by omega) (by omega), w32_of (by omega) (by omega), (h.rt.2.2.1 c c0 c1).2.2]
  exact ⟨⟨by omega, by omega⟩, rfl, rfl⟩
theorem R_age {c : Int} (h : RX s v b T A) (hW : WN T A) (c0 : 0 ≤ c) (c1 : c < T 1 1) : Mw g (e + 2) M_X13_age [(21, 92), (0, v), (0, c)] s (Ex (ageS T A c) s) := by
  have b8 := h.ok.2.1
  have hv := h.2.1
  have hy := hW.1
  have ht := (h.ok.2.2.2.2.2.1 c c0 (by omega)).2.1
  refine S_X13_age (fun _ _ => ⟨⟨by omega, by omega⟩, Mw.ex (R_born h c0 c1) ⟨?_, rfl⟩⟩)
  rw [h.2.2.1, w32_of (by omega) (by omega)]
  rfl
theorem R_isRaised {c : Int} (h : RX s v b T A) (hW : WN T A) (c0 : 0 ≤ c) (c1 : c < T 1 1) : Mw g (e + 3) M_X13_isRaised [(21, 92), (0, v), (0, c)] s (Ex (if T 0 14 ≤ ageS T A c ∧ ageS T A c < T 0 15 then 1 else 0) s) := by
  have t := h.ok.2.2.2.2.2.2.2.2.2.1
  refine S_X13_isRaised (fun _ _ => Mw.ex (R_age h hW c0 c1) (Mw.ex (R_toldOf h.1 (by decide) (by decide)) (Mw.ex (R_toldOf h.1 (by decide) (by decide)) (Mw.ex R_is ⟨?_, ?_, rfl⟩))))
  · split
    · right; rfl
    · left; rfl
  · rw [show (14 : Int) + 0 = 14 from rfl, show (14 : Int) + 1 = 15 from rfl, w32_of (by omega) (by omega)]
    by_cases q : T 0 14 ≤ ageS T A c ∧ ageS T A c < T 0 15
    · rw [if_pos q, if_pos (by omega)]
    · rw [if_neg q, if_neg (by omega)]
theorem R_isDone {c : Int} (h : RX s v b T A) (hW : WN T A) (c0 : 0 ≤ c) (c1 : c < T 1 1) : Mw g (e + 3) M_X13_isDone [(21, 92), (0, v), (0, c)] s (Ex (if T 0 15 ≤ ageS T A c then 1 else 0) s) := by
  refine S_X13_isDone (fun _ _ => Mw.ex (R_age h hW c0 c1) (Mw.ex (R_toldOf h.1 (by decide) (by decide)) ⟨fun q => ⟨?_, rfl⟩, fun q => ⟨?_, rfl⟩⟩))
  · rw [if_neg]; rw [show (14 : Int) + 1 = 15 from rfl] at q; omega
  · rw [if_pos]; rw [show (14 : Int) + 1 = 15 from rfl] at q; omega
theorem R_inWall {c : Int} (h : RX s v b T A) (c0 : 0 ≤ c) (c1 : c < T 1 1) : Mw g (e + 1) M_X13_inWall [(21, 92), (0, v), (0, c)] s (Ex (waP (A 3 c)) s) := by
  have b8 := h.ok.2.1
  have hv := h.2.1
  refine S_X13_inWall (fun _ _ => ?_)
  rw [w32_of (show _ ≤ 8 * v by omega) (by omega), w32_of (by omega) (by omega), (h.c c0 c1).2.2.1]
  exact ⟨⟨by omega, by omega⟩, rfl, rfl⟩
theorem R_column {c : Int} (h : RX s v b T A) (c0 : 0 ≤ c) (c1 : c < T 1 1) : Mw g (e + 1) M_X13_column [(21, 92), (0, v), (0, c)] s (Ex (coP (A 3 c)) s) := by
  have b8 := h.ok.2.1
  have hv := h.2.1
  refine S_X13_column (fun _ _ => ?_)
  rw [w32_of (show _ ≤ 8 * v by omega) (by omega), w32_of (by omega) (by omega), (h.c c0 c1).2.2.2.1]
  exact ⟨⟨by omega, by omega⟩, rfl, rfl⟩
theorem R_course {c : Int} (h : RX s v b T A) (c0 : 0 ≤ c) (c1 : c < T 1 1) : Mw g (e + 1) M_X13_course [(21, 92), (0, v), (0, c)] s (Ex (cuP (A 3 c)) s) := by
  have b8 := h.ok.2.1
  have hv := h.2.1
  refine S_X13_course (fun _ _ => ?_)
  rw [w32_of (show _ ≤ 8 * v by omega) (by omega), w32_of (by omega) (by omega), (h.c c0 c1).2.2.2.2]
  exact ⟨⟨by omega, by omega⟩, rfl, rfl⟩
theorem R_strong {c : Int} (h : RX s v b T A) (c0 : 0 ≤ c) (c1 : c < T 1 1) : Mw g (e + 1) M_X13_strong [(21, 92), (0, v), (0, c)] s (Ex (A 2 c) s) := by
  have b8 := h.ok.2.1
  have hv := h.2.1
  refine S_X13_strong (fun _ _ => ?_)
  rw [w32_of (show _ ≤ 8 * v by omega) (by omega), w32_of (by omega) (by omega), (h.c c0 c1).2.1]
  exact ⟨⟨by omega, by omega⟩, rfl, rfl⟩
theorem waP_n {p : Int} (h : p = -1 ∨ 0 ≤ p) : waP p = -1 ↔ p = -1 := by
  unfold waP
  split
  · rename_i z; exact ⟨fun _ => z, fun _ => rfl⟩
  · rename_i z; constructor <;> intro _ <;> omega
theorem pl_in (hI : WI0 A) {c : Int} (c0 : 0 ≤ c) (c8 : c < 8) : A 3 c = -1 ∨ 0 ≤ A 3 c := by
  rcases hI.1 c c0 c8 with z | ⟨z, _, _⟩
  · left; exact z
  · right; exact z
theorem R_isOnShelf {c : Int} (h : RX s v b T A) (hW : WOK T A) (c0 : 0 ≤ c) (c1 : c < T 1 1) : Mw g (e + 4) M_X13_isOnShelf [(21, 92), (0, v), (0, c)] s (Ex (if whS T A c = 2 then 1 else 0) s) := by
  have b8 := h.ok.2.1
  refine S_X13_isOnShelf (fun _ _ => Mw.ex (R_isDone h hW.1 c0 c1) ?_)
  have hp := waP_n (pl_in hW.2.1 c0 (by omega))
  unfold whS
  by_cases hd : T 0 15 ≤ ageS T A c
  · rw [if_pos hd]
    refine ⟨fun q => by omega, fun _ => Mw.ex (R_inWall h c0 c1) ⟨fun q => ⟨?_, rfl⟩, fun q => ⟨?_, rfl⟩⟩⟩
    · rw [if_neg (fun z => q (hp.mpr z))]; rfl
    · rw [if_pos (hp.mp q), if_pos hd, if_pos rfl]
  · rw [if_neg hd]
    refine ⟨fun _ => ⟨?_, rfl⟩, fun q => absurd rfl q⟩
    rw [if_neg]
    split
    · split <;> omega
    · omega
theorem lies_loop {w k j : Int} (h : RX s v b T A) {Q : Int → Sg → Prop} : ∀ (n : Nat) (c : Int), 0 ≤ c → c + n = T 1 1 → Q (scanF n c (fun c => waP (A 3 c) == w && (coP (A 3 c) == k && cuP (A 3 c) == j))) s → P_X13_lies_3 g (e + 1) Q s v w k j c := by
  intro n
  have b8 := h.ok.2.1
  have hb := h.b2
  induction n with
  | zero =>
    intro c c0 hc hQ
    refine S_X13_lies_3 ?_
    rw [h.bk, h.nc]
    exact ⟨⟨by omega, by omega⟩, fun _ => hQ, fun q => absurd (by omega) q⟩
  | succ n ih =>
    intro c c0 hc hQ
    refine S_X13_lies_3 ?_
    rw [h.bk, h.nc, w32_of (by omega) (by omega)]
    unfold scanF at hQ
    refine ⟨⟨by omega, by omega⟩, fun q => by omega, fun _ => Mw.ex (R_inWall h c0 (by omega)) ⟨fun q1 => ih (c + 1) (by omega) (by omega) ?_, fun q1 => Mw.ex (R_column h c0 (by omega)) ⟨fun q2 => ih (c + 1) (by omega) (by omega) ?_, fun q2 => Mw.ex (R_course h c0 (by omega)) ⟨fun q3 => ih (c + 1) (by omega) (by omega) ?_, fun q3 => ?_⟩⟩⟩⟩
    · rw [if_neg (by simp [q1])] at hQ; exact hQ
    · rw [if_neg (by simp [q2])] at hQ; exact hQ
    · rw [if_neg (by simp [q3])] at hQ; exact hQ
    · rw [if_pos (by simp [q1, q2, q3])] at hQ; exact hQ
theorem lies_eq {w k j : Int} (hT : TOK T) (hW : WOK T A) (w0 : 0 ≤ w) (w4 : w < 4) : scanF (T 1 1).toNat 0 (fun c => waP (A 3 c) == w && (coP (A 3 c) == k && cuP (A 3 c) == j)) = liS A w k j := by
  have b8 := hT.2.1
  obtain ⟨hN, hI, hH⟩ := hW
  have key : ∀ c, 0 ≤ c → c < 8 → ((waP (A 3 c) == w && (coP (A 3 c) == k && cuP (A 3 c) == j)) = true ↔ ((0 ≤ k ∧ k < 4) ∧ 0 ≤ j ∧ j < 4) ∧ A 3 c = 16 * w + 4 * k + j) := by
    intro c c0 c8
    simp only [Bool.and_eq_true, beq_iff_eq]
    unfold waP coP cuP
    rcases hI.1 c c0 c8 with z | ⟨z1, z2, z3⟩
    · rw [z]; simp only [if_true]; omega
    · rw [if_neg (by omega), if_neg (by omega), if_neg (by omega)]; omega
  unfold liS
  by_cases hr : (0 ≤ k ∧ k < 4) ∧ 0 ≤ j ∧ j < 4
  · rw [if_pos hr]
    rcases hI.2 (16 * w + 4 * k + j) (by omega) (by omega) with z | ⟨z1, z2, z3⟩
    · rw [z]
      refine (scanF_none _ (by decide)).mpr (fun c c0 c1 => ?_)
      apply Bool.eq_false_iff.mpr
      intro q
      have := ((key c c0 (by omega)).mp q).2
      rcases hI.1 c c0 (by omega) with y | ⟨_, _, y⟩
      · omega
      · rw [this, z] at y; omega
    · have hc := (hH.2 _ z1 z2 (by rw [z3]; omega)).1
      refine scanF_first (by decide) z1 (by omega) ((key _ z1 z2).mpr ⟨hr, z3⟩) (fun c c0 c1 => ?_)
      apply Bool.eq_false_iff.mpr
      intro q
      have := ((key c c0 (by omega)).mp q).2
      rcases hI.1 c c0 (by omega) with y | ⟨_, _, y⟩
      · omega
      · rw [this] at y; omega
  · rw [if_neg hr]
    refine (scanF_none _ (by decide)).mpr (fun c c0 c1 => ?_)
    apply Bool.eq_false_iff.mpr
    intro q
    exact hr ((key c c0 (by omega)).mp q).1
theorem R_lies {w k j : Int} (h : RX s v b T A) (hW : WOK T A) (w0 : 0 ≤ w) (w4 : w < 4) : Mw g (e + 2) M_X13_lies [(21, 92), (0, v), (0, w), (0, k), (0, j)] s (Ex (liS A w k j) s) := by
  have b8 := h.ok.2.1
  exact S_X13_lies (fun _ _ _ _ => lies_loop h (T 1 1).toNat 0 (by decide) (by omega) ⟨lies_eq h.ok hW w0 w4, rfl⟩)
theorem tall_loop {w k : Int} (h : RX s v b T A) {Q : Int → Sg → Prop} (hQ : Q (cntF (T 1 1).toNat (fun c => waP (A 3 c) == w && coP (A 3 c) == k)) s) : ∀ (n c : Nat), (c : Int) + n = T 1 1 → P_X13_tall_6 g (e + 1) Q s v w k (cntF c (fun c => waP (A 3 c) == w && coP (A 3 c) == k)) c := by
  intro n
  have b8 := h.ok.2.1
  have hb := h.b2
  induction n with
  | zero =>
    intro c hc
    refine S_X13_tall_6 ?_
    rw [h.bk, h.nc]
    rw [show (T 1 1).toNat = c by omega] at hQ
    exact ⟨⟨by omega, by omega⟩, fun _ => hQ, fun q => absurd (by omega) q⟩
  | succ n ih =>
    intro c hc
    have i := ih (c + 1) (by omega)
    have cb := cntF_le c (fun c => waP (A 3 c) == w && coP (A 3 c) == k)
    rw [show (((c + 1 : Nat)) : Int) = (c : Int) + 1 by omega] at i
    refine S_X13_tall_6 ?_
    rw [h.bk, h.nc, w32_of (show _ ≤ (c : Int) + 1 by omega) (by omega), Int.add_zero, w32_of (by omega) (by omega), w32_of (by omega) (by omega)]
    refine ⟨⟨by omega, by omega⟩, fun q => by omega, fun _ => Mw.ex (R_inWall h (by omega) (by omega)) ⟨fun q1 => ?_, fun q1 => Mw.ex (R_column h (by omega) (by omega)) ⟨fun q2 => ?_, fun q2 => ?_⟩⟩⟩
    · rw [cntF_n (by simp [q1])] at i; exact i
    · rw [cntF_n (by simp [q2])] at i; exact i
    · rw [cntF_s (by simp [q1, q2])] at i; exact i
theorem cntF_0 {n : Nat} {p : Int → Bool} (h : ∀ k : Nat, k < n → p k = false) : cntF n p = 0 := by
  induction n with
  | zero => rfl
  | succ n ih => rw [cntF_n (h n (by omega)), ih (fun k hk => h k (by omega))]
theorem cntF_1 {n c : Nat} {p : Int → Bool} (hc : c < n) (hp : p c = true) (h : ∀ k : Nat, k < n → k ≠ c → p k = false) : cntF n p = 1 := by
  induction n with
  | zero => omega
  | succ n ih =>
    by_cases z : c = n
    · subst z
      rw [cntF_s hp, cntF_0 (fun k hk => h k (by omega) (by omega))]
      rfl
    · rw [cntF_n (h n (by omega) (by omega)), ih (by omega) (fun k hk => h k (by omega))]
theorem cntF_4 {x : Int → Int} {q : Int} (n : Nat) : cntF n (fun c => x c == 4 * q || (x c == 4 * q + 1 || (x c == 4 * q + 2 || x c == 4 * q + 3))) = cntF n (fun c => x c == 4 * q) + cntF n (fun c => x c == 4 * q + 1) + cntF n (fun c => x c == 4 * q + 2) + cntF n (fun c => x c == 4 * q + 3) := by
  induction n with
  | zero => rfl
  | succ n ih =>
    unfold cntF
    rw [ih]
    simp only [Bool.or_eq_true, beq_iff_eq]
    by_cases h0 : x n = 4 * q
    · simp only [h0]; simp; omega
    · by_cases h1 : x n = 4 * q + 1
      · simp only [h1]; simp; omega
      · by_cases h2 : x n = 4 * q + 2
        · simp only [h2]; simp; omega
        · by_cases h3 : x n = 4 * q + 3
          · simp only [h3]; simp; omega
          · simp [h0, h1, h2, h3]
theorem cnt_at {p : Int} (hT : TOK T) (hW : WOK T A) (p0 : 0 ≤ p) (p1 : p < 64) : cntF (T 1 1).toNat (fun c => A 3 c == p) = if A 4 p = -1 then 0 else 1 := by
  have b8 := hT.2.1
  obtain ⟨hN, hI, hH⟩ := hW
  rcases hI.2 p p0 p1 with z | ⟨z1, z2, z3⟩
  · rw [if_pos z]
    refine cntF_0 (fun c hc => ?_)
    apply Bool.eq_false_iff.mpr
    intro q
    rw [beq_iff_eq] at q
    rcases hI.1 c (by omega) (by omega) with y | ⟨_, _, y⟩
    · omega
    · rw [q, z] at y; omega
  · rw [if_neg (by omega)]
    have hc := (hH.2 _ z1 z2 (by rw [z3]; omega)).1
    refine cntF_1 (c := (A 4 p).toNat) (by omega) (by rw [show (((A 4 p).toNat : Nat) : Int) = A 4 p by omega, z3]; simp) (fun c hc hne => ?_)
    apply Bool.eq_false_iff.mpr
    intro q
    rw [beq_iff_eq] at q
    rcases hI.1 c (by omega) (by omega) with y | ⟨_, _, y⟩
    · omega
    · rw [q] at y; omega
theorem tall_eq {w k : Int} (hT : TOK T) (hW : WOK T A) (w0 : 0 ≤ w) (w4 : w < 4) (k0 : 0 ≤ k) (k4 : k < 4) : cntF (T 1 1).toNat (fun c => waP (A 3 c) == w && coP (A 3 c) == k) = A 5 (4 * w + k) := by
  have b8 := hT.2.1
  have e : cntF (T 1 1).toNat (fun c => waP (A 3 c) == w && coP (A 3 c) == k) = cntF (T 1 1).toNat (fun c => A 3 c == 4 * (4 * w + k) || (A 3 c == 4 * (4 * w + k) + 1 || (A 3 c == 4 * (4 * w + k) + 2 || A 3 c == 4 * (4 * w + k) + 3))) := by
    refine cntF_congr (fun c hc => ?_)
    apply Bool.eq_iff_iff.mpr
    simp only [Bool.and_eq_true, Bool.or_eq_true, beq_iff_eq]
    unfold waP coP
    rcases hW.2.1.1 c (by omega) (by omega) with z | ⟨z1, z2, z3⟩
    · rw [z]; simp only [if_true]; omega
    · rw [if_neg (by omega), if_neg (by omega)]; omega
  have hh := hW.2.2.1 (4 * w + k) (by omega) (by omega)
  have h0 := hh.2.2 0 (by decide) (by decide)
  have h1 := hh.2.2 1 (by decide) (by decide)
  have h2 := hh.2.2 2 (by decide) (by decide)
  have h3 := hh.2.2 3 (by decide) (by decide)
  rw [e, cntF_4 (x := A 3), cnt_at hT hW (by omega) (by omega), cnt_at hT hW (by omega) (by omega), cnt_at hT hW (by omega) (by omega), cnt_at hT hW (by omega) (by omega)]
  rw [Int.add_zero] at h0
  by_cases q0 : A 5 (4 * w + k) ≤ 0
  · rw [if_pos (h0.mpr q0), if_pos (h1.mpr (by omega)), if_pos (h2.mpr (by omega)), if_pos (h3.mpr (by omega))]; omega
  · by_cases q1 : A 5 (4 * w + k) ≤ 1
    · rw [if_neg (fun z => q0 (h0.mp z)), if_pos (h1.mpr q1), if_pos (h2.mpr (by omega)), if_pos (h3.mpr (by omega))]; omega
    · by_cases q2 : A 5 (4 * w + k) ≤ 2
      · rw [if_neg (fun z => q0 (h0.mp z)), if_neg (fun z => q1 (h1.mp z)), if_pos (h2.mpr q2), if_pos (h3.mpr (by omega))]; omega
      · by_cases q3 : A 5 (4 * w + k) ≤ 3
        · rw [if_neg (fun z => q0 (h0.mp z)), if_neg (fun z => q1 (h1.mp z)), if_neg (fun z => q2 (h2.mp z)), if_pos (h3.mpr q3)]; omega
        · rw [if_neg (fun z => q0 (h0.mp z)), if_neg (fun z => q1 (h1.mp z)), if_neg (fun z => q2 (h2.mp z)), if_neg (fun z => q3 (h3.mp z))]; omega
theorem R_tall {w k : Int} (h : RX s v b T A) (hW : WOK T A) (w0 : 0 ≤ w) (w4 : w < 4) (k0 : 0 ≤ k) (k4 : k < 4) : Mw g (e + 2) M_X13_tall [(21, 92), (0, v), (0, w), (0, k)] s (Ex (A 5 (4 * w + k)) s) := by
  have b8 := h.ok.2.1
  exact S_X13_tall (fun _ _ _ => tall_loop h ⟨tall_eq h.ok hW w0 w4 k0 k4, rfl⟩ (T 1 1).toNat 0 (by omega))
end RREAD
