/-! the reference: load, bears, holds, allHold, loose -/
section RHOLD
variable {g : GT} {e : Nat} {s : Sg} {v b : Int} {T : Tn} {A : Wd}
theorem pl_ok (hW : WOK T A) {c : Int} (c0 : 0 ≤ c) (c8 : c < 8) (h3 : A 3 c ≠ -1) : (0 ≤ A 3 c ∧ A 3 c < 64) ∧ A 4 (A 3 c) = c ∧ waP (A 3 c) = A 3 c / 16 ∧ coP (A 3 c) = A 3 c / 4 % 4 ∧ cuP (A 3 c) = A 3 c % 4 := by
  obtain ⟨p0, p1, p2⟩ := (hW.2.1.1 c c0 c8).resolve_left h3
  refine ⟨⟨p0, p1⟩, p2, ?_, ?_, ?_⟩
  · unfold waP; rw [if_neg h3]
  · unfold coP; rw [if_neg h3]
  · unfold cuP; rw [if_neg h3]
theorem loa_bd (hT : TOK T) (hW : WOK T A) {p : Int} (p0 : 0 ≤ p) (p1 : p < 64) : -400 ≤ loaS T A p ∧ loaS T A p ≤ 400 := by
  have hh := hW.2.2.1 (p / 4) (by omega) (by omega)
  have bw := hT.2.2.2.2.2.2.2.2.2.2.1
  unfold loaS
  have h1 := Int.mul_le_mul_of_nonneg_right (show (-4 : Int) ≤ A 5 (p / 4) - 1 - p % 4 by omega) bw.1
  have h2 := Int.mul_le_mul_of_nonneg_right (show A 5 (p / 4) - 1 - p % 4 ≤ 4 by omega) bw.1
  omega
theorem R_load {c : Int} (h : RX s v b T A) (hW : WOK T A) (c0 : 0 ≤ c) (c1 : c < T 1 1) (h3 : A 3 c ≠ -1) : Mw g (e + 3) M_X13_load [(21, 92), (0, v), (0, c)] s (Ex (loaS T A (A 3 c)) s) := by
  have b8 := h.ok.2.1
  obtain ⟨⟨p0, p1⟩, p2, p3, p4, p5⟩ := pl_ok hW c0 (by omega) h3
  have hh := hW.2.2.1 (A 3 c / 4) (by omega) (by omega)
  have bd := loa_bd h.ok hW p0 p1
  have bw := h.ok.2.2.2.2.2.2.2.2.2.2.1
  refine S_X13_load (fun _ _ => Mw.ex (R_inWall h c0 c1) (Mw.ex (R_column h c0 c1) ?_))
  rw [p3, p4]
  refine Mw.ex (R_tall h hW (by omega) (by omega) (by omega) (by omega)) (Mw.ex (R_course h c0 c1) (Mw.ex (R_toldOf h.1 (by decide) (by decide)) ⟨?_, rfl⟩))
  rw [p5, show 4 * (A 3 c / 16) + A 3 c / 4 % 4 = A 3 c / 4 by omega, show (14 : Int) + 2 = 16 from rfl, w32_of (show _ ≤ A 5 (A 3 c / 4) - 1 by omega) (by omega), w32_of (show _ ≤ A 5 (A 3 c / 4) - 1 - A 3 c % 4 by omega) (by omega)]
  unfold loaS at bd ⊢
  exact w32_of (by omega) (by omega)
theorem R_bears {c : Int} (h : RX s v b T A) (hW : WOK T A) (c0 : 0 ≤ c) (c1 : c < T 1 1) (h3 : A 3 c ≠ -1) : Mw g (e + 2) M_X13_bears [(21, 92), (0, v), (0, c)] s (Ex (beaS T A c 0) s) := by
  have b8 := h.ok.2.1
  obtain ⟨⟨p0, p1⟩, p2, p3, p4, p5⟩ := pl_ok hW c0 (by omega) h3
  have bs := (hW.1.2.2.2.1 c c0 (by omega)).2
  have bt := (h.ok.2.2.2.2.2.1 c c0 (by omega)).2.2
  have em : max 0 (A 2 c - 0) = A 2 c := by omega
  refine S_X13_bears (fun _ _ => Mw.ex (R_twin h c0 c1) ?_)
  unfold beaS nearS
  rw [em]
  refine ⟨fun q => S_X13_bears_28 (Mw.ex (R_strong h c0 c1) ⟨?_, rfl⟩), fun q => Mw.ex (R_twin h c0 c1) (Mw.ex (R_inWall h (by omega) (by omega)) (Mw.ex (R_inWall h c0 c1) ⟨fun q2 => Mw.ex (R_strong h c0 c1) ⟨?_, rfl⟩, fun q2 => S_X13_bears_28 (Mw.ex (R_strong h c0 c1) ⟨?_, rfl⟩)⟩))⟩
  · simp [q]
  · rw [td_of bs.1, w32_of (by omega) (by omega), if_neg]
    simp only [Bool.or_eq_true, Bool.and_eq_true, beq_iff_eq, bne_iff_ne, ne_eq]
    rintro (z | ⟨z1, z2⟩)
    · exact q z
    · apply q2
      rw [p3]
      unfold waP
      rw [if_neg z1]
      exact z2
  · rw [if_pos]
    simp only [Bool.or_eq_true, Bool.and_eq_true, beq_iff_eq, bne_iff_ne, ne_eq]
    right
    rw [p3] at q2
    unfold waP at q2
    split at q2
    · omega
    · rename_i z; exact ⟨z, q2⟩
theorem R_holds {c : Int} (h : RX s v b T A) (hW : WOK T A) (c0 : 0 ≤ c) (c1 : c < T 1 1) (h3 : A 3 c ≠ -1) : Mw g (e + 4) M_X13_holds [(21, 92), (0, v), (0, c)] s (Ex (if beaS T A c 0 < loaS T A (A 3 c) then 0 else 1) s) := by
  refine S_X13_holds (fun _ _ => Mw.ex (R_bears h hW c0 c1 h3) (Mw.ex (R_load h hW c0 c1 h3) ⟨fun q => ⟨?_, rfl⟩, fun q => ⟨?_, rfl⟩⟩))
  · rw [if_pos q]
  · rw [if_neg q]
theorem wea_iff {w : Int} (hT : TOK T) (hW : WOK T A) (w0 : 0 ≤ w) (w4 : w < 4) : weaS T A w = -1 ↔ ∀ c, 0 ≤ c → c < T 1 1 → A 3 c ≠ -1 → A 3 c / 16 = w → ¬ beaS T A c 0 < loaS T A (A 3 c) := by
  have b8 := hT.2.1
  unfold weaS
  rw [scanF_none 16 (by omega)]
  constructor
  · intro h c c0 c1 h3 hw q
    obtain ⟨⟨p0, p1⟩, p2, _⟩ := pl_ok hW c0 (by omega) h3
    have := h (A 3 c) (by omega) (by omega)
    unfold weakP at this
    rw [p2] at this
    simp only [Bool.and_eq_false_iff, bne_eq_false_iff_eq, decide_eq_false_iff_not] at this
    rcases this with z | z
    · omega
    · exact z q
  · intro h p p0 p1
    unfold weakP
    rcases hW.2.1.2 p (by omega) (by omega) with z | ⟨z1, z2, z3⟩
    · simp [z]
    · have hc := (hW.2.2.2 _ z1 z2 (by rw [z3]; omega)).1
      have := h (A 4 p) z1 hc (by rw [z3]; omega) (by rw [z3]; omega)
      rw [z3] at this
      simp only [Bool.and_eq_false_iff, decide_eq_false_iff_not]
      right
      exact this
theorem allHold_loop {w : Int} (h : RX s v b T A) (hW : WOK T A) (w0 : 0 ≤ w) (w4 : w < 4) : ∀ (n : Nat) (c : Int), 0 ≤ c → c + n = T 1 1 → (∀ k, 0 ≤ k → k < c → A 3 k ≠ -1 → A 3 k / 16 = w → ¬ beaS T A k 0 < loaS T A (A 3 k)) → P_X13_allHold_2 g (e + 4) (Ex (if weaS T A w = -1 then 1 else 0) s) s v w c := by
  intro n
  have b8 := h.ok.2.1
  have hb := h.b2
  induction n with
  | zero =>
    intro c c0 hc hk
    refine S_X13_allHold_2 ?_
    rw [h.bk, h.nc]
    refine ⟨⟨by omega, by omega⟩, fun _ => ⟨?_, rfl⟩, fun q => absurd (by omega) q⟩
    rw [if_pos ((wea_iff h.ok hW w0 w4).mpr (fun k k0 k1 => hk k k0 (by omega)))]
  | succ n ih =>
    intro c c0 hc hk
    refine S_X13_allHold_2 ?_
    rw [h.bk, h.nc, w32_of (by omega) (by omega)]
    have hp := pl_in hW.2.1 c0 (show c < 8 by omega)
    refine ⟨⟨by omega, by omega⟩, fun q => by omega, fun _ => Mw.ex (R_inWall h c0 (by omega)) ⟨fun q1 => ih (c + 1) (by omega) (by omega) (fun k k0 k1 k3 kw => ?_), fun q1 => ?_⟩⟩
    · by_cases z : k = c
      · exfalso; apply q1; rw [← z]; unfold waP; rw [if_neg k3]; exact kw
      · exact hk k k0 (by omega) k3 kw
    · have h3 : A 3 c ≠ -1 := fun z => by unfold waP at q1; rw [if_pos z] at q1; omega
      have hw : A 3 c / 16 = w := by unfold waP at q1; rw [if_neg h3] at q1; exact q1
      refine Mw.ex (R_holds h hW c0 (by omega) h3) ⟨fun q2 => ih (c + 1) (by omega) (by omega) (fun k k0 k1 k3 kw => ?_), fun q2 => ⟨?_, rfl⟩⟩
      · by_cases z : k = c
        · rw [z]; intro y; apply q2; rw [if_pos y]
        · exact hk k k0 (by omega) k3 kw
      · have y : beaS T A c 0 < loaS T A (A 3 c) := Classical.byContradiction (fun z => by rw [if_neg z] at q2; omega)
        rw [if_neg]
        intro z
        exact (wea_iff h.ok hW w0 w4).mp z c c0 (by omega) h3 hw y
theorem R_allHold {w : Int} (h : RX s v b T A) (hW : WOK T A) (w0 : 0 ≤ w) (w4 : w < 4) : Mw g (e + 5) M_X13_allHold [(21, 92), (0, v), (0, w)] s (Ex (if weaS T A w = -1 then 1 else 0) s) := by
  have b8 := h.ok.2.1
  exact S_X13_allHold (fun _ _ => allHold_loop h hW w0 w4 (T 1 1).toNat 0 (by decide) (by omega) (fun k k0 k1 => by omega))
/-- the child whose stone is the first that does not hold -/
def looC (T : Tn) (A : Wd) : Int := if looS T A = -1 then -1 else A 4 (looS T A)
theorem loose_wall {Q : Int → Sg → Prop} {w : Int} (h : RX s v b T A) (hW : WOK T A) (w0 : 0 ≤ w) (w4 : w < 4) (hn : weaS T A w = -1 → P_X13_loose_2 g (e + 4) Q s v (w + 1)) (hq : weaS T A w ≠ -1 → Q (A 4 (weaS T A w)) s) :
    ∀ (n : Nat) (k j : Int), 0 ≤ k → k < 4 → 0 ≤ j → j ≤ 4 → 4 * k + j + n = 16 → weaS T A w = scanF n (16 * w + 4 * k + j) (weakP T A) → P_X13_loose_25 g (e + 4) Q s v w k j := by
  have b8 := h.ok.2.1
  intro n
  induction n with
  | zero =>
    intro k j k0 k4 j0 j4 hk hs
    have ek : k = 3 := by omega
    have ej : j = 4 := by omega
    subst ek ej
    refine S_X13_loose_25 ⟨fun _ => S_X13_loose_17 ⟨fun _ => ?_, fun q => absurd (by decide) q⟩, fun q => absurd (by decide) q⟩
    rw [w32_of (by omega) (by omega)]
    exact hn hs
  | succ n ih =>
    have step : ∀ (k j : Int), 0 ≤ k → k < 4 → 0 ≤ j → j < 4 → 4 * k + j + (n + 1 : Nat) = 16 → weaS T A w = scanF (n + 1) (16 * w + 4 * k + j) (weakP T A) → P_X13_loose_25 g (e + 4) Q s v w k j := by
      intro k j k0 k4 j0 j4 hk hs
      refine S_X13_loose_25 ⟨fun q => by omega, fun _ => Mw.ex (R_lies h hW w0 w4) ?_⟩
      rw [w32_of (by omega) (by omega)]
      have el : liS A w k j = A 4 (16 * w + 4 * k + j) := by unfold liS; rw [if_pos (by omega)]
      rw [el]
      unfold scanF at hs
      have nx : weakP T A (16 * w + 4 * k + j) = false → P_X13_loose_25 g (e + 4) Q s v w k (j + 1) := by
        intro z
        rw [z] at hs
        refine ih k (j + 1) k0 k4 (by omega) (by omega) (by omega) ?_
        rw [show 16 * w + 4 * k + (j + 1) = 16 * w + 4 * k + j + 1 by omega]
        exact hs
      refine ⟨fun q1 => nx ?_, fun q1 => ?_⟩
      · unfold weakP; simp [q1]
      · obtain ⟨z1, z2, z3⟩ := (hW.2.1.2 (16 * w + 4 * k + j) (by omega) (by omega)).resolve_left q1
        have hc := (hW.2.2.2 _ z1 z2 (by rw [z3]; omega)).1
        refine Mw.ex (R_holds h hW z1 hc (by rw [z3]; omega)) ?_
        rw [z3]
        refine ⟨fun q2 => nx ?_, fun q2 => ?_⟩
        · unfold weakP
          have : ¬ beaS T A (A 4 (16 * w + 4 * k + j)) 0 < loaS T A (16 * w + 4 * k + j) := fun y => by rw [if_pos y] at q2; omega
          simp [this]
        · have y : beaS T A (A 4 (16 * w + 4 * k + j)) 0 < loaS T A (16 * w + 4 * k + j) := Classical.byContradiction (fun y => by rw [if_neg y] at q2; omega)
          have hk : weakP T A (16 * w + 4 * k + j) = true := by unfold weakP; simp [y, q1]
          rw [hk, if_pos rfl] at hs
          have := hq (by omega)
          rw [hs] at this
          exact this
    intro k j k0 k4 j0 j4 hk hs
    by_cases z : j = 4
    · subst z
      refine S_X13_loose_25 ⟨fun _ => S_X13_loose_17 ⟨fun q => ?_, fun q => ?_⟩, fun q => absurd (by decide) q⟩
      · rw [w32_of (by omega) (by omega)] at q; omega
      · rw [w32_of (by omega) (by omega)] at q ⊢
        refine step (k + 1) 0 (by omega) (by omega) (by decide) (by decide) (by omega) ?_
        rw [show 16 * w + 4 * (k + 1) + 0 = 16 * w + 4 * k + 4 by omega]
        exact hs
    · exact step k j k0 k4 j0 (by omega) hk hs
theorem loose_loop {Q : Int → Sg → Prop} (h : RX s v b T A) (hW : WOK T A) : ∀ (n : Nat) (w : Int), 0 ≤ w → w + n = T 1 2 → Q (if looF T A n w = -1 then -1 else A 4 (looF T A n w)) s → P_X13_loose_2 g (e + 4) Q s v w := by
  intro n
  have b4 := h.ok.2.2.1
  have hb := h.b2
  induction n with
  | zero =>
    intro w w0 hw hQ
    refine S_X13_loose_2 ?_
    rw [h.bk, h.nw]
    exact ⟨⟨by omega, by omega⟩, fun _ => hQ, fun q => absurd (by omega) q⟩
  | succ n ih =>
    intro w w0 hw hQ
    refine S_X13_loose_2 ?_
    rw [h.bk, h.nw]
    refine ⟨⟨by omega, by omega⟩, fun q => by omega, fun _ => S_X13_loose_17 ⟨fun q => absurd q (by decide), fun _ => ?_⟩⟩
    unfold looF at hQ
    refine loose_wall h hW w0 (by omega) (fun z => ih (w + 1) (by omega) (by omega) ?_) (fun z => ?_) 16 0 0 (by decide) (by decide) (by decide) (by decide) (by decide) ?_
    · rw [if_pos z] at hQ; exact hQ
    · rw [if_neg z, if_neg z] at hQ; exact hQ
    · rw [show 16 * w + 4 * 0 + 0 = 16 * w by omega]; rfl
theorem R_loose (h : RX s v b T A) (hW : WOK T A) : Mw g (e + 5) M_X13_loose [(21, 92), (0, v)] s (Ex (looC T A) s) := by
  have b4 := h.ok.2.2.1
  exact S_X13_loose (fun _ => loose_loop h hW (T 1 2).toNat 0 (by decide) (by omega) ⟨rfl, rfl⟩)
end RHOLD
