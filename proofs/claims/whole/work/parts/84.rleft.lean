/-! pulling: a world of the reference whose stones that are out keep their old columns -/
def RWy (s : Sg) (v : Int) (T : Tn) (A : Wd) : Prop :=
  ∀ c, 0 ≤ c → c < T 1 1 → s 125 (8 * v + c) = A 2 c ∧ s 126 (8 * v + c) = waP (A 3 c) ∧ (A 3 c ≠ -1 → s 127 (8 * v + c) = coP (A 3 c) ∧ s 128 (8 * v + c) = cuP (A 3 c))
def RY (s : Sg) (v b : Int) (T : Tn) (A : Wd) : Prop := RB s b T ∧ (0 ≤ v ∧ v < 23) ∧ RWy s v T A
section RLEFT
variable {g : GT} {e : Nat} {s : Sg} {v b : Int} {T : Tn} {A : Wd}
theorem RY.ok (h : RY s v b T A) : TOK T := h.1.2.2.2.1
theorem RY.bk (h : RY s v b T A) : s 92 13 = b := h.1.1
theorem RY.b2 (h : RY s v b T A) : b = 0 ∨ b = 1 := h.1.2.1
theorem RY.nc (h : RY s v b T A) : s 97 b = T 1 1 := h.1.2.2.1.1.2.1
theorem Y_inWall {c : Int} (h : RY s v b T A) (c0 : 0 ≤ c) (c1 : c < T 1 1) : Mw g (e + 1) M_X13_inWall [(21, 92), (0, v), (0, c)] s (Ex (waP (A 3 c)) s) := by
  have b8 := h.ok.2.1
  have hv := h.2.1
  refine S_X13_inWall (fun _ _ => ?_)
  rw [w32_of (show _ ≤ 8 * v by omega) (by omega), w32_of (by omega) (by omega), (h.2.2 c c0 c1).2.1]
  exact ⟨⟨by omega, by omega⟩, rfl, rfl⟩
theorem Y_column {c : Int} (h : RY s v b T A) (c0 : 0 ≤ c) (c1 : c < T 1 1) (h3 : A 3 c ≠ -1) : Mw g (e + 1) M_X13_column [(21, 92), (0, v), (0, c)] s (Ex (coP (A 3 c)) s) := by
  have b8 := h.ok.2.1
  have hv := h.2.1
  refine S_X13_column (fun _ _ => ?_)
  rw [w32_of (show _ ≤ 8 * v by omega) (by omega), w32_of (by omega) (by omega), ((h.2.2 c c0 c1).2.2 h3).1]
  exact ⟨⟨by omega, by omega⟩, rfl, rfl⟩
theorem Y_course {c : Int} (h : RY s v b T A) (c0 : 0 ≤ c) (c1 : c < T 1 1) (h3 : A 3 c ≠ -1) : Mw g (e + 1) M_X13_course [(21, 92), (0, v), (0, c)] s (Ex (cuP (A 3 c)) s) := by
  have b8 := h.ok.2.1
  have hv := h.2.1
  refine S_X13_course (fun _ _ => ?_)
  rw [w32_of (show _ ≤ 8 * v by omega) (by omega), w32_of (by omega) (by omega), ((h.2.2 c c0 c1).2.2 h3).2]
  exact ⟨⟨by omega, by omega⟩, rfl, rfl⟩
theorem Y_strong {c : Int} (h : RY s v b T A) (c0 : 0 ≤ c) (c1 : c < T 1 1) : Mw g (e + 1) M_X13_strong [(21, 92), (0, v), (0, c)] s (Ex (A 2 c) s) := by
  have b8 := h.ok.2.1
  have hv := h.2.1
  refine S_X13_strong (fun _ _ => ?_)
  rw [w32_of (show _ ≤ 8 * v by omega) (by omega), w32_of (by omega) (by omega), (h.2.2 c c0 c1).1]
  exact ⟨⟨by omega, by omega⟩, rfl, rfl⟩
theorem Y_twin {c : Int} (h : RY s v b T A) (c0 : 0 ≤ c) (c1 : c < T 1 1) : Mw g (e + 1) M_X13_twin [(21, 92), (0, c)] s (Ex (T 10 c) s) := by
  have hb := h.b2
  have b8 := h.ok.2.1
  refine S_X13_twin (fun _ => ?_)
  rw [h.bk, w32_of (show _ ≤ 8 * b by omega) (by omega), w32_of (by omega) (by omega), (h.1.2.2.1.2.2.1 c c0 c1).2.2]
  exact ⟨⟨by omega, by omega⟩, rfl, rfl⟩
theorem ytall_loop {w k : Int} (w0 : 0 ≤ w) (h : RY s v b T A) {Q : Int → Sg → Prop} (hQ : Q (cntF (T 1 1).toNat (fun c => waP (A 3 c) == w && coP (A 3 c) == k)) s) : ∀ (n c : Nat), (c : Int) + n = T 1 1 → P_X13_tall_6 g (e + 1) Q s v w k (cntF c (fun c => waP (A 3 c) == w && coP (A 3 c) == k)) c := by
  intro n
  have b8 := h.ok.2.1
  have hb := h.b2
  induction n with
  | zero =>
    intro c hc
    refine S_X13_tall_6 ?_
    rw [h.bk, h.nc]
    rw [show (T 1 1).toNat = c by omega] at hQ
    exact ⟨⟨by omega, by omega⟩, fun _ => hQ, fun q => absurd (by omega) q⟩
  | succ n ih =>
    intro c hc
    have i := ih (c + 1) (by omega)
    have cb := cntF_le c (fun c => waP (A 3 c) == w && coP (A 3 c) == k)
    rw [show (((c + 1 : Nat)) : Int) = (c : Int) + 1 by omega] at i
    refine S_X13_tall_6 ?_
    rw [h.bk, h.nc, w32_of (show _ ≤ (c : Int) + 1 by omega) (by omega), Int.add_zero, w32_of (by omega) (by omega), w32_of (by omega) (by omega)]
    refine ⟨⟨by omega, by omega⟩, fun q => by omega, fun _ => Mw.ex (Y_inWall h (by omega) (by omega)) ⟨fun q1 => ?_, fun q1 => Mw.ex (Y_column h (by omega) (by omega) (fun z => by unfold waP at q1; rw [if_pos z] at q1; omega)) ⟨fun q2 => ?_, fun q2 => ?_⟩⟩⟩
    · rw [cntF_n (by simp [q1])] at i; exact i
    · rw [cntF_n (by simp [q2])] at i; exact i
    · rw [cntF_s (by simp [q1, q2])] at i; exact i
theorem Y_tall {w k : Int} (h : RY s v b T A) (hW : WOK T A) (w0 : 0 ≤ w) (w4 : w < 4) (k0 : 0 ≤ k) (k4 : k < 4) : Mw g (e + 2) M_X13_tall [(21, 92), (0, v), (0, w), (0, k)] s (Ex (A 5 (4 * w + k)) s) := by
  have b8 := h.ok.2.1
  exact S_X13_tall (fun _ _ _ => ytall_loop w0 h ⟨tall_eq h.ok hW w0 w4 k0 k4, rfl⟩ (T 1 1).toNat 0 (by omega))
theorem Y_load {c : Int} (h : RY s v b T A) (hW : WOK T A) (c0 : 0 ≤ c) (c1 : c < T 1 1) (h3 : A 3 c ≠ -1) : Mw g (e + 3) M_X13_load [(21, 92), (0, v), (0, c)] s (Ex (loaS T A (A 3 c)) s) := by
  have b8 := h.ok.2.1
  obtain ⟨⟨p0, p1⟩, p2, p3, p4, p5⟩ := pl_ok hW c0 (by omega) h3
  have hh := hW.2.2.1 (A 3 c / 4) (by omega) (by omega)
  have bd := loa_bd h.ok hW p0 p1
  have bw := h.ok.2.2.2.2.2.2.2.2.2.2.1
  refine S_X13_load (fun _ _ => Mw.ex (Y_inWall h c0 c1) (Mw.ex (Y_column h c0 c1 h3) ?_))
  rw [p3, p4]
  refine Mw.ex (Y_tall h hW (by omega) (by omega) (by omega) (by omega)) (Mw.ex (Y_course h c0 c1 h3) (Mw.ex (R_toldOf h.1 (by decide) (by decide)) ⟨?_, rfl⟩))
  rw [p5, show 4 * (A 3 c / 16) + A 3 c / 4 % 4 = A 3 c / 4 by omega, show (14 : Int) + 2 = 16 from rfl, w32_of (show _ ≤ A 5 (A 3 c / 4) - 1 by omega) (by omega), w32_of (show _ ≤ A 5 (A 3 c / 4) - 1 - A 3 c % 4 by omega) (by omega)]
  unfold loaS at bd ⊢
  exact w32_of (by omega) (by omega)
theorem Y_bears {c : Int} (h : RY s v b T A) (hW : WOK T A) (c0 : 0 ≤ c) (c1 : c < T 1 1) (h3 : A 3 c ≠ -1) : Mw g (e + 2) M_X13_bears [(21, 92), (0, v), (0, c)] s (Ex (beaS T A c 0) s) := by
  have b8 := h.ok.2.1
  obtain ⟨⟨p0, p1⟩, p2, p3, p4, p5⟩ := pl_ok hW c0 (by omega) h3
  have bs := (hW.1.2.2.2.1 c c0 (by omega)).2
  have bt := (h.ok.2.2.2.2.2.1 c c0 (by omega)).2.2
  have em : max 0 (A 2 c - 0) = A 2 c := by omega
  refine S_X13_bears (fun _ _ => Mw.ex (Y_twin h c0 c1) ?_)
  unfold beaS nearS
  rw [em]
  refine ⟨fun q => S_X13_bears_28 (Mw.ex (Y_strong h c0 c1) ⟨?_, rfl⟩), fun q => Mw.ex (Y_twin h c0 c1) (Mw.ex (Y_inWall h (by omega) (by omega)) (Mw.ex (Y_inWall h c0 c1) ⟨fun q2 => Mw.ex (Y_strong h c0 c1) ⟨?_, rfl⟩, fun q2 => S_X13_bears_28 (Mw.ex (Y_strong h c0 c1) ⟨?_, rfl⟩)⟩))⟩
  · simp [q]
  · rw [td_of bs.1, w32_of (by omega) (by omega), if_neg]
    simp only [Bool.or_eq_true, Bool.and_eq_true, beq_iff_eq, bne_iff_ne, ne_eq]
    rintro (z | ⟨z1, z2⟩)
    · exact q z
    · apply q2
      rw [p3]
      unfold waP
      rw [if_neg z1]
      exact z2
  · rw [if_pos]
    simp only [Bool.or_eq_true, Bool.and_eq_true, beq_iff_eq, bne_iff_ne, ne_eq]
    right
    rw [p3] at q2
    unfold waP at q2
    split at q2
    · omega
    · rename_i z; exact ⟨z, q2⟩
theorem Y_holds {c : Int} (h : RY s v b T A) (hW : WOK T A) (c0 : 0 ≤ c) (c1 : c < T 1 1) (h3 : A 3 c ≠ -1) : Mw g (e + 4) M_X13_holds [(21, 92), (0, v), (0, c)] s (Ex (if beaS T A c 0 < loaS T A (A 3 c) then 0 else 1) s) := by
  refine S_X13_holds (fun _ _ => Mw.ex (Y_bears h hW c0 c1 h3) (Mw.ex (Y_load h hW c0 c1 h3) ⟨fun q => ⟨?_, rfl⟩, fun q => ⟨?_, rfl⟩⟩))
  · rw [if_pos q]
  · rw [if_neg q]
theorem yallHold_loop {w : Int} (h : RY s v b T A) (hW : WOK T A) (w0 : 0 ≤ w) (w4 : w < 4) : ∀ (n : Nat) (c : Int), 0 ≤ c → c + n = T 1 1 → (∀ k, 0 ≤ k → k < c → A 3 k ≠ -1 → A 3 k / 16 = w → ¬ beaS T A k 0 < loaS T A (A 3 k)) → P_X13_allHold_2 g (e + 4) (Ex (if weaS T A w = -1 then 1 else 0) s) s v w c := by
  intro n
  have b8 := h.ok.2.1
  have hb := h.b2
  induction n with
  | zero =>
    intro c c0 hc hk
    refine S_X13_allHold_2 ?_
    rw [h.bk, h.nc]
    refine ⟨⟨by omega, by omega⟩, fun _ => ⟨?_, rfl⟩, fun q => absurd (by omega) q⟩
    rw [if_pos ((wea_iff h.ok hW w0 w4).mpr (fun k k0 k1 => hk k k0 (by omega)))]
  | succ n ih =>
    intro c c0 hc hk
    refine S_X13_allHold_2 ?_
    rw [h.bk, h.nc, w32_of (by omega) (by omega)]
    have hp := pl_in hW.2.1 c0 (show c < 8 by omega)
    refine ⟨⟨by omega, by omega⟩, fun q => by omega, fun _ => Mw.ex (Y_inWall h c0 (by omega)) ⟨fun q1 => ih (c + 1) (by omega) (by omega) (fun k k0 k1 k3 kw => ?_), fun q1 => ?_⟩⟩
    · by_cases z : k = c
      · exfalso; apply q1; rw [← z]; unfold waP; rw [if_neg k3]; exact kw
      · exact hk k k0 (by omega) k3 kw
    · have h3 : A 3 c ≠ -1 := fun z => by unfold waP at q1; rw [if_pos z] at q1; omega
      have hw : A 3 c / 16 = w := by unfold waP at q1; rw [if_neg h3] at q1; exact q1
      refine Mw.ex (Y_holds h hW c0 (by omega) h3) ⟨fun q2 => ih (c + 1) (by omega) (by omega) (fun k k0 k1 k3 kw => ?_), fun q2 => ⟨?_, rfl⟩⟩
      · by_cases z : k = c
        · rw [z]; intro y; apply q2; rw [if_pos y]
        · exact hk k k0 (by omega) k3 kw
      · have y : beaS T A c 0 < loaS T A (A 3 c) := Classical.byContradiction (fun z => by rw [if_neg z] at q2; omega)
        rw [if_neg]
        intro z
        exact (wea_iff h.ok hW w0 w4).mp z c c0 (by omega) h3 hw y
theorem Y_allHold {w : Int} (h : RY s v b T A) (hW : WOK T A) (w0 : 0 ≤ w) (w4 : w < 4) : Mw g (e + 5) M_X13_allHold [(21, 92), (0, v), (0, w)] s (Ex (if weaS T A w = -1 then 1 else 0) s) := by
  have b8 := h.ok.2.1
  exact S_X13_allHold (fun _ _ => yallHold_loop h hW w0 w4 (T 1 1).toNat 0 (by decide) (by omega) (fun k k0 k1 => by omega))
end RLEFT
/-- the stones of wall w that lie at least d high in their columns are out -/
def outS (A : Wd) (w : Int) (d : Int → Int) (p : Int) : Bool := decide (p ≠ -1 ∧ p / 16 = w ∧ d (p / 4 % 4) ≤ p % 4)
def cutA (A : Wd) (w : Int) (d : Int → Int) : Wd := fun a k => if a = 3 then (if outS A w d (A 3 k) then -1 else A 3 k) else if a = 4 then (if outS A w d k then -1 else A 4 k) else if a = 5 then (if k / 4 = w then min (d (k % 4)) (A 5 k) else A 5 k) else A a k
section CUT
variable {T : Tn} {A : Wd} {w : Int} {d : Int → Int}
theorem cutA_o {a : Int} (h3 : a ≠ 3) (h4 : a ≠ 4) (h5 : a ≠ 5) : cutA A w d a = A a := by
  funext k
  unfold cutA
  rw [if_neg h3, if_neg h4, if_neg h5]
theorem cutA_3 (k : Int) : cutA A w d 3 k = if outS A w d (A 3 k) then -1 else A 3 k := by unfold cutA; rw [if_pos rfl]
theorem cutA_4 (k : Int) : cutA A w d 4 k = if outS A w d k then -1 else A 4 k := by unfold cutA; rw [if_neg (by decide), if_pos rfl]
theorem cutA_5 (k : Int) : cutA A w d 5 k = if k / 4 = w then min (d (k % 4)) (A 5 k) else A 5 k := by unfold cutA; rw [if_neg (by decide), if_neg (by decide), if_pos rfl]
theorem cut_ok (hW : WOK T A) (hd : ∀ k, 0 ≤ k → k < 4 → 0 ≤ d k) : WOK T (cutA A w d) := by
  obtain ⟨hN, hI, hH⟩ := hW
  have e0 : cutA A w d 0 = A 0 := cutA_o (by decide) (by decide) (by decide)
  have e1 : cutA A w d 1 = A 1 := cutA_o (by decide) (by decide) (by decide)
  have e2 : cutA A w d 2 = A 2 := cutA_o (by decide) (by decide) (by decide)
  refine ⟨?_, ⟨fun c c0 c8 => ?_, fun p p0 p1 => ?_⟩, ⟨fun k k0 k1 => ?_, fun c c0 c8 hn => ?_⟩⟩
  · unfold WN
    rw [e0, e1, e2]
    exact hN
  · rw [cutA_3]
    by_cases z : outS A w d (A 3 c) = true
    · rw [if_pos z]; left; rfl
    · rw [if_neg z]
      rcases hI.1 c c0 c8 with y | ⟨y1, y2, y3⟩
      · left; exact y
      · right
        exact ⟨y1, y2, by rw [cutA_4, if_neg z]; exact y3⟩
  · rw [cutA_4]
    by_cases z : outS A w d p = true
    · rw [if_pos z]; left; rfl
    · rw [if_neg z]
      rcases hI.2 p p0 p1 with y | ⟨y1, y2, y3⟩
      · left; exact y
      · right
        exact ⟨y1, y2, by rw [cutA_3, y3, if_neg z]⟩
  · obtain ⟨h1, h2, h3⟩ := hH.1 k k0 k1
    have hk := hd (k % 4) (by omega) (by omega)
    rw [cutA_5]
    refine ⟨by split <;> omega, by split <;> omega, fun j j0 j1 => ?_⟩
    have hj := h3 j j0 j1
    rw [cutA_4]
    unfold outS
    rw [show (4 * k + j) / 16 = k / 4 by omega, show (4 * k + j) / 4 % 4 = k % 4 by omega, show (4 * k + j) % 4 = j by omega]
    by_cases z : k / 4 = w
    · rw [if_pos z]
      by_cases y : d (k % 4) ≤ j
      · rw [if_pos (decide_eq_true ⟨by omega, z, y⟩)]
        constructor <;> intro _ <;> first | rfl | omega
      · rw [if_neg (by rw [decide_eq_true_eq]; exact fun x => y x.2.2), hj]
        omega
    · rw [if_neg z, if_neg (by rw [decide_eq_true_eq]; exact fun x => z x.2.1)]
      exact hj
  · rw [cutA_3] at hn ⊢
    by_cases z : outS A w d (A 3 c) = true
    · rw [if_pos z] at hn; exact absurd rfl hn
    · rw [if_neg z] at hn ⊢
      have := hH.2 c c0 c8 hn
      unfold ageS at this ⊢
      rw [e0]
      exact this
end CUT
section RLEFT2
variable {g : GT} {e : Nat} {s : Sg} {b : Int} {T : Tn} {A : Wd} {w : Int} {d : Int → Int}
/-- the frame of pulling -/
def Fl (s s2 : Sg) : Prop := (∀ o, (o < 122 ∨ 132 < o) → o ≠ 92 → o ≠ 139 → o ≠ 140 → s2 o = s o) ∧ s2 92 = s 92 ∧
  (∀ o i, (o = 122 ∨ o = 123 ∨ o = 129) → i ≠ 1 → s2 o i = s o i) ∧ (∀ o i, 124 ≤ o → o ≤ 128 → (i < 8 ∨ 16 ≤ i) → s2 o i = s o i) ∧ (∀ i, (i < 240 ∨ 480 ≤ i) → s2 130 i = s 130 i)
theorem Fl.rf : Fl s s := ⟨fun _ _ _ _ _ => rfl, rfl, fun _ _ _ _ => rfl, fun _ _ _ _ _ => rfl, fun _ _ => rfl⟩
theorem Fl.tr {s2 s3 : Sg} (h : Fl s s2) (h2 : Fl s2 s3) : Fl s s3 :=
  ⟨fun o o1 o2 o3 o4 => (h2.1 o o1 o2 o3 o4).trans (h.1 o o1 o2 o3 o4), h2.2.1.trans h.2.1, fun o i o1 i1 => (h2.2.2.1 o i o1 i1).trans (h.2.2.1 o i o1 i1), fun o i o1 o2 i1 => (h2.2.2.2.1 o i o1 o2 i1).trans (h.2.2.2.1 o i o1 o2 i1), fun i i1 => (h2.2.2.2.2 i i1).trans (h.2.2.2.2 i i1)⟩
theorem Fl.fm {s2 : Sg} (h : Fm 1 s s2) : Fl s s2 := ⟨fun o o1 o2 _ _ => h.1 o o1 o2, h.2.1, h.2.2.1, fun o i o1 o2 i1 => h.2.2.2.1 o i o1 o2 (by omega), fun i i1 => h.2.2.2.2 i (by omega)⟩
theorem Fl.up {o i x : Int} (h : o = 139 ∨ o = 140) : Fl s (ups s o i x) :=
  ⟨fun o2 o1 o3 o4 o5 => ups_at _ (by omega), ups_at _ (by omega), fun o2 i2 h1 h2 => ups_o _ (by omega), fun o2 i2 h1 h2 h3 => ups_o _ (by omega), fun i2 h1 => ups_o _ (by omega)⟩
theorem RX.fl0 {s2 : Sg} (h : RX s 0 b T A) (hf : Fl s s2) : RX s2 0 b T A := by
  obtain ⟨h1, h2, h3, h4, h5, h6⟩ := h
  refine ⟨⟨by rw [hf.2.1]; exact h1.1, h1.2.1, h1.2.2.1.fr (J := fun o => 112 ≤ o ∨ o ≤ 93) (fun o ho => hf.1 o (by omega) (by omega) (by omega) (by omega)) (fun o o1 o2 => by omega), h1.2.2.2⟩, h2, ?_, ?_, ?_, fun c c0 c1 => ?_⟩
  · rw [hf.2.2.1 122 0 (by omega) (by omega)]; exact h3
  · rw [hf.2.2.1 123 0 (by omega) (by omega)]; exact h4
  · rw [hf.2.2.1 129 0 (by omega) (by omega)]; exact h5
  · have t8 := h1.2.2.2.1.2.1
    rw [hf.2.2.2.1 124 _ (by omega) (by omega) (by omega), hf.2.2.2.1 125 _ (by omega) (by omega) (by omega), hf.2.2.2.1 126 _ (by omega) (by omega) (by omega), hf.2.2.2.1 127 _ (by omega) (by omega) (by omega), hf.2.2.2.1 128 _ (by omega) (by omega) (by omega)]
    exact h6 c c0 c1
theorem ry_8 (hW : WOK T A) (w0 : 0 ≤ w) (w4 : w < 4) (hd : ∀ k, 0 ≤ k → k < 4 → 0 ≤ d k) : ∀ (n : Nat) (c : Int) (s0 : Sg), 0 ≤ c → c + n = T 1 1 → RX s0 0 b T A → (∀ k, 0 ≤ k → k < 4 → s0 140 k = d k) →
    (∀ k, 0 ≤ k → k < T 1 1 → s0 125 (8 + k) = A 2 k ∧ s0 126 (8 + k) = (if k < c ∧ outS A w d (A 3 k) = true then -1 else waP (A 3 k)) ∧ s0 127 (8 + k) = coP (A 3 k) ∧ s0 128 (8 + k) = cuP (A 3 k)) → Fm 1 s s0 →
    P_X13_areLeftHolding_8 g (e + 5) (fun r s' => r = (if weaS T (cutA A w d) w = -1 then 1 else 0) ∧ Fm 1 s s') s0 w c := by
  intro n
  induction n with
  | zero =>
    intro c s0 c0 hc hx h4 hk hf
    have b2 := hx.b2
    have t8 := hx.ok.2.1
    refine S_X13_areLeftHolding_8 ?_
    rw [hx.bk, hx.nc]
    refine ⟨⟨by omega, by omega⟩, fun _ => ?_, fun q => absurd (by omega) q⟩
    have hy : RY s0 1 b T (cutA A w d) := by
      refine ⟨hx.1, ⟨by decide, by decide⟩, fun k k0 k1 => ?_⟩
      obtain ⟨q1, q2, q3, q4⟩ := hk k k0 k1
      rw [show 8 * (1 : Int) + k = 8 + k by omega, cutA_o (a := 2) (by decide) (by decide) (by decide), cutA_3]
      refine ⟨q1, ?_, fun z => ?_⟩
      · rw [q2]
        by_cases z : outS A w d (A 3 k) = true
        · rw [if_pos ⟨by omega, z⟩, if_pos z]; rfl
        · rw [if_neg (fun y => z y.2), if_neg z]
      · by_cases y : outS A w d (A 3 k) = true
        · rw [if_pos y] at z; exact absurd rfl z
        · rw [if_neg y]; exact ⟨q3, q4⟩
    refine Mw.ex (Y_allHold hy (cut_ok hW hd) w0 w4) ⟨?_, rfl, hf⟩
    split
    · right; rfl
    · left; rfl
  | succ n ih =>
    intro c s0 c0 hc hx h4 hk hf
    have b2 := hx.b2
    have t8 := hx.ok.2.1
    obtain ⟨k1, k2, k3, k4⟩ := hk c c0 (by omega)
    have pl := hW.2.1.1 c c0 (by omega)
    have stay : outS A w d (A 3 c) = false → P_X13_areLeftHolding_8 g (e + 5) (fun r s' => r = (if weaS T (cutA A w d) w = -1 then 1 else 0) ∧ Fm 1 s s') s0 w (w32 (c + 1)) := fun z => by
      rw [w32_of (by omega) (by omega)]
      refine ih (c + 1) s0 (by omega) (by omega) hx h4 (fun k k0 k1 => ?_) hf
      obtain ⟨q1, q2, q3, q4⟩ := hk k k0 k1
      refine ⟨q1, ?_, q3, q4⟩
      rw [q2]
      by_cases y : k = c
      · rw [y, z, if_neg (fun x => by cases x.2), if_neg (fun x => by cases x.2)]
      · by_cases x : k < c ∧ outS A w d (A 3 k) = true
        · rw [if_pos x, if_pos ⟨by omega, x.2⟩]
        · rw [if_neg x, if_neg (fun u => x ⟨by omega, u.2⟩)]
    refine S_X13_areLeftHolding_8 ?_
    rw [hx.bk, hx.nc]
    refine ⟨⟨by omega, by omega⟩, fun q => by omega, fun _ => Mw.ex (R_inWall hx c0 (by omega)) ⟨fun z => stay (decide_eq_false (fun y => z ?_)), fun z => Mw.ex (R_course hx c0 (by omega)) (Mw.ex (R_column hx c0 (by omega)) ?_)⟩⟩
    · unfold waP; rw [if_neg y.1]; exact y.2.1
    · have h3 : A 3 c ≠ -1 := fun y => by unfold waP at z; rw [if_pos y] at z; omega
      have hw : A 3 c / 16 = w := by unfold waP at z; rw [if_neg h3] at z; exact z
      have ec : coP (A 3 c) = A 3 c / 4 % 4 := by unfold coP; rw [if_neg h3]
      have er : cuP (A 3 c) = A 3 c % 4 := by unfold cuP; rw [if_neg h3]
      rw [ec, er, h4 _ (by omega) (by omega), w32_of (show _ ≤ 8 + c by omega) (by omega)]
      refine ⟨⟨by omega, by omega⟩, fun y => stay (decide_eq_false (fun x => by have := x.2.2; omega)), fun y => ⟨⟨by omega, by omega⟩, fun s9 e9 => ?_⟩⟩
      have ho : outS A w d (A 3 c) = true := decide_eq_true ⟨h3, hw, by omega⟩
      have f9 : Fm 1 s0 s9 := by rw [e9]; exact Fm.up (Or.inr (Or.inr (Or.inl ⟨by decide, by decide, by omega, by omega⟩)))
      rw [w32_of (by omega) (by omega)]
      refine ih (c + 1) s9 (by omega) (by omega) (hx.fo f9 (by decide) (by decide)) (fun k k0 k1 => by rw [e9, ups_at _ (by decide)]; exact h4 k k0 k1) (fun k k0 k1 => ?_) (hf.tr f9)
      obtain ⟨q1, q2, q3, q4⟩ := hk k k0 k1
      rw [e9, ups_at _ (show (125 : Int) ≠ 126 by decide), ups_at _ (show (127 : Int) ≠ 126 by decide), ups_at _ (show (128 : Int) ≠ 126 by decide)]
      refine ⟨q1, ?_, q3, q4⟩
      by_cases y2 : k = c
      · rw [y2, ups_eq, if_pos ⟨by omega, ho⟩]
      · rw [ups_k _ (by omega), q2]
        by_cases x : k < c ∧ outS A w d (A 3 k) = true
        · rw [if_pos x, if_pos ⟨by omega, x.2⟩]
        · rw [if_neg x, if_neg (fun u => x ⟨by omega, u.2⟩)]
theorem R_areLeft (hx : RX s 0 b T A) (hW : WOK T A) (w0 : 0 ≤ w) (w4 : w < 4) (hd : ∀ k, 0 ≤ k → k < 4 → 0 ≤ d k) (h4 : ∀ k, 0 ≤ k → k < 4 → s 140 k = d k) :
    Mw g (e + 6) M_X13_areLeftHolding [(21, 92), (0, w)] s (fun r s' => r = (if weaS T (cutA A w d) w = -1 then 1 else 0) ∧ Fm 1 s s') := by
  have t8 := hx.ok.2.1
  refine S_X13_areLeftHolding (fun _ => (R_try hx).imp (fun _ s2 h2 => ?_))
  refine ry_8 hW w0 w4 hd (T 1 1).toNat 0 s2 (by decide) (by omega) (hx.fo h2.2 (by decide) (by decide)) (fun k k0 k1 => by rw [h2.2.1 140 (by omega) (by omega)]; exact h4 k k0 k1) (fun k k0 k1 => ?_) h2.2
  obtain ⟨q1, q2, q3, q4, q5⟩ := h2.1.1.c k0 k1
  rw [show 8 * (1 : Int) + k = 8 + k by omega] at q2 q3 q4 q5
  exact ⟨q2, by rw [if_neg (fun y => by omega)]; exact q3, q4, q5⟩
end RLEFT2
