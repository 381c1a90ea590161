/-! what there is: home, child, stone, wall, at, kept of both programs; the class's later, built, down, strongest -/
def hoS (T : Tn) (A : Wd) (h w : Int) : Int := if 0 ≤ h ∧ h < T 1 0 then (if w = 0 then T 6 h else if w = 1 then T 7 h else if w = 2 then livS T A h else -1) else -1
def chS (T : Tn) (A : Wd) (c w : Int) : Int := if 0 ≤ c ∧ c < T 1 1 then (if w = 0 then A 1 c else if w = 1 then T 9 c else if w = 2 then T 10 c else if w = 3 then foeS T c (A 0 2) else -1) else -1
def snS (T : Tn) (A : Wd) (c w : Int) : Int := if 0 ≤ c ∧ c < T 1 1 then (if w = 0 then A 2 c else if w = 1 then whS T A c else if A 3 c = -1 then -1 else lyiS T A c w) else -1
def waS (T : Tn) (A : Wd) (w k : Int) : Int := if 0 ≤ w ∧ w < T 1 2 then (if 10 ≤ k ∧ k < 10 + T 11 w then A 5 (4 * w + (k - 10)) else if k = 0 then T 11 w else if k = 1 then T 12 w else if k = 2 then stoS T A w else -1) else -1
def atS (T : Tn) (A : Wd) (w k j : Int) : Int := if (0 ≤ w ∧ w < T 1 2) ∧ (0 ≤ k ∧ k < T 11 w) ∧ 0 ≤ j ∧ j < T 12 w then A 4 (16 * w + 4 * k + j) else -1
def keS (A : Wd) (k w : Int) : Int := if (0 ≤ k ∧ k < A 0 9) ∧ 0 ≤ w ∧ w ≤ 3 then (if w = 0 then A 6 k / 64 else if w = 1 then A 6 k / 8 % 8 else if w = 2 then A 6 k / 2 % 4 else A 6 k % 2) else -1
theorem bAnd_mod {a : Int} {n : Nat} (h0 : 0 ≤ a) (h1 : a < 2147483648) (hn : n < 31) : bAnd a (((2 ^ n - 1 : Nat)) : Int) = a % 2 ^ n := by
  have h2 : 2 ^ n ≤ 2 ^ 30 := Nat.pow_le_pow_right (by omega) (by omega)
  have h3 : 1 ≤ 2 ^ n := Nat.one_le_two_pow
  rw [bAnd_n h0 h1 (Int.natCast_nonneg _) (by omega), Int.toNat_natCast, Nat.and_two_pow_sub_one_eq_mod]
  obtain ⟨x, rfl⟩ := Int.eq_ofNat_of_zero_le h0
  simp
section ASK2
variable {T : Tn} {A : Wd} {g : GT} {e : Nat} {s : Sg} {tw b : Int}
theorem C_isChild {c : Int} (h8 : s 1 8 = tw) (hx : CX s 48 tw T A) : Mw g (e + 2) M_X12_isChild [(20, 1), (0, c)] s (Ex (if 0 ≤ c ∧ c < T 1 1 then 1 else 0) s) := by
  refine S_X12_isChild (fun _ => ⟨fun q => ⟨?_, rfl⟩, fun q => ?_⟩)
  · rw [if_neg (by omega)]
  · rw [h8]
    refine Mw.ex (C_childCount hx) ⟨fun z => ⟨?_, rfl⟩, fun z => ⟨?_, rfl⟩⟩
    · rw [if_neg (by omega)]
    · rw [if_pos (by omega)]
theorem C_isWall {c : Int} (h8 : s 1 8 = tw) (hx : CX s 48 tw T A) : Mw g (e + 2) M_X12_isWall [(20, 1), (0, c)] s (Ex (if 0 ≤ c ∧ c < T 1 2 then 1 else 0) s) := by
  refine S_X12_isWall (fun _ => ⟨fun q => ⟨?_, rfl⟩, fun q => ?_⟩)
  · rw [if_neg (by omega)]
  · rw [h8]
    refine Mw.ex (C_wallCount hx) ⟨fun z => ⟨?_, rfl⟩, fun z => ⟨?_, rfl⟩⟩
    · rw [if_neg (by omega)]
    · rw [if_pos (by omega)]
theorem CX.o51 (hx : CX s 48 tw T A) : s 51 = A 3 := hx.w3
theorem CX.o49 (hx : CX s 48 tw T A) : s 49 = A 1 := hx.w1
theorem CX.o50 (hx : CX s 48 tw T A) : s 50 = A 2 := hx.w2
theorem CX.o52 (hx : CX s 48 tw T A) : s 52 = A 4 := hx.w4
theorem CX.o53 (hx : CX s 48 tw T A) : s 53 = A 5 := hx.w5
theorem CX.o54 (hx : CX s 48 tw T A) : s 54 = A 6 := hx.w6
theorem C_isBuilt {c : Int} (h8 : s 1 8 = tw) (hx : CX s 48 tw T A) : Mw g (e + 3) M_X12_isBuilt [(20, 1), (0, c)] s (Ex (if (0 ≤ c ∧ c < T 1 1) ∧ A 3 c ≠ -1 then 1 else 0) s) := by
  have b8 := hx.ok.2.1
  refine S_X12_isBuilt (fun _ => Mw.ex (C_isChild h8 hx) ⟨fun q => ⟨?_, rfl⟩, fun q => ?_⟩)
  · rw [if_neg]
    intro z
    rw [if_pos z.1] at q
    omega
  · have z : 0 ≤ c ∧ c < T 1 1 := Classical.byContradiction (fun z => by rw [if_neg z] at q; omega)
    rw [hx.o51]
    refine ⟨⟨z.1, by omega⟩, fun y => ⟨?_, rfl⟩, fun y => ⟨?_, rfl⟩⟩
    · rw [if_neg (fun u => u.2 y)]
    · rw [if_pos ⟨z, y⟩]
theorem C_home {h w : Int} (h8 : s 1 8 = tw) (hx : CX s 48 tw T A) : Mw g (e + 3) M_X12_home [(20, 1), (0, h), (0, w)] s (Ex (hoS T A h w) s) := by
  have b6 := hx.ok.1
  refine S_X12_home (fun _ _ => ⟨fun q => ⟨?_, rfl⟩, fun q => ?_⟩)
  · unfold hoS; rw [if_neg (by omega)]
  · rw [h8]
    refine Mw.ex (C_homeCount hx) ⟨fun z => ?_, fun z => ⟨?_, rfl⟩⟩
    · have hc : 0 ≤ h ∧ h < T 1 0 := ⟨by omega, z⟩
      rw [h8, hx.t6, hx.t7]
      unfold hoS
      rw [if_pos hc]
      refine ⟨?_, ?_, ?_, ?_⟩
      · intro y; subst y; exact ⟨⟨by omega, by omega⟩, rfl, rfl⟩
      · intro y; subst y; exact ⟨⟨by omega, by omega⟩, rfl, rfl⟩
      · intro y; subst y; exact Mw.ex (C_livingAt hx) ⟨rfl, rfl⟩
      · intro y; exact ⟨by rw [if_neg (by omega), if_neg (by omega), if_neg (by omega)], rfl⟩
    · unfold hoS; rw [if_neg (by omega)]
theorem homeR_loop {h : Int} {Q : Int → Sg → Prop} (hx : RX s 0 b T A) (hQ : Q (livS T A h) s) : ∀ (m c : Nat), (c : Int) + m = T 1 1 → P_X13_home_71 g e Q s h (setF c (fun c => A 1 c == h)) c := by
  intro m
  have b8 := hx.ok.2.1
  have hb := hx.b2
  induction m with
  | zero =>
    intro c hc
    refine S_X13_home_71 ?_
    rw [hx.bk, hx.nc]
    unfold livS at hQ
    rw [show (T 1 1).toNat = c by omega] at hQ
    exact ⟨⟨by omega, by omega⟩, fun _ => hQ, fun q => absurd (by omega) q⟩
  | succ m ih =>
    intro c hc
    have i := ih (c + 1) (by omega)
    rw [show (((c + 1 : Nat)) : Int) = (c : Int) + 1 by omega] at i
    have e1 := (hx.c (show (0 : Int) ≤ c by omega) (by omega)).1
    rw [show 8 * (0 : Int) + (c : Int) = c by omega] at e1
    refine S_X13_home_71 ?_
    rw [hx.bk, hx.nc, e1, w32_of (by omega) (by omega), setF_or (by omega), bOr_0 (setF_R (by omega) _)]
    refine ⟨⟨by omega, by omega⟩, fun q => by omega, fun _ => ⟨⟨by omega, by omega⟩, fun q => ?_, fun q => ?_⟩⟩
    · rw [setF_n (by simp [q])] at i; exact i
    · rw [setF_s (by simp [q])] at i; exact i
theorem R_home {h w : Int} (hx : RX s 0 b T A) : Mw g (e + 2) M_X13_home [(21, 92), (0, h), (0, w)] s (Ex (hoS T A h w) s) := by
  have b6 := hx.ok.1
  have b8 := hx.ok.2.1
  have hb := hx.b2
  refine S_X13_home (fun _ _ => Mw.ex (R_isHome hx.1) ⟨fun q => ?_, fun q => ⟨?_, rfl⟩⟩)
  · have hc : 0 ≤ h ∧ h < T 1 0 := Classical.byContradiction (fun z => by rw [if_neg z] at q; omega)
    have ht := hx.rt.2.1 h hc.1 hc.2
    rw [hx.bk, w32_of (show _ ≤ 6 * b by omega) (by omega), w32_of (show _ ≤ 6 * b + h by omega) (by omega), ht.1, ht.2]
    unfold hoS
    rw [if_pos hc]
    refine ⟨?_, ?_, ?_, ?_⟩
    · intro y; subst y; exact ⟨⟨by omega, by omega⟩, rfl, rfl⟩
    · intro y; subst y; exact ⟨⟨by omega, by omega⟩, rfl, rfl⟩
    · intro y; subst y; exact homeR_loop hx ⟨rfl, rfl⟩ (T 1 1).toNat 0 (by omega)
    · intro y; exact ⟨by rw [if_neg (by omega), if_neg (by omega), if_neg (by omega)], rfl⟩
  · unfold hoS
    rw [if_neg]
    intro z
    rw [if_pos z] at q
    omega
theorem C_child {c w : Int} (h8 : s 1 8 = tw) (hx : CX s 48 tw T A) : Mw g (e + 3) M_X12_child [(20, 1), (0, c), (0, w)] s (Ex (chS T A c w) s) := by
  have b8 := hx.ok.2.1
  refine S_X12_child (fun _ _ => Mw.ex (C_isChild h8 hx) ⟨fun q => ?_, fun q => ⟨?_, rfl⟩⟩)
  · have hc : 0 ≤ c ∧ c < T 1 1 := Classical.byContradiction (fun z => by rw [if_neg z] at q; omega)
    rw [h8, hx.o49, hx.t9, hx.t10, hx.en]
    unfold chS
    rw [if_pos hc]
    refine ⟨?_, ?_, ?_, ?_, ?_⟩
    · intro y; subst y; exact ⟨⟨by omega, by omega⟩, rfl, rfl⟩
    · intro y; subst y; exact ⟨⟨by omega, by omega⟩, rfl, rfl⟩
    · intro y; subst y; exact ⟨⟨by omega, by omega⟩, rfl, rfl⟩
    · intro y; subst y; exact Mw.ex (C_foes hx.2.2.2.1 hx.ok) ⟨rfl, rfl⟩
    · intro y; exact ⟨by rw [if_neg (by omega), if_neg (by omega), if_neg (by omega), if_neg (by omega)], rfl⟩
  · unfold chS
    rw [if_neg]
    intro z
    rw [if_pos z] at q
    omega
theorem R_child {c w : Int} (hx : RX s 0 b T A) (hW : WOK T A) : Mw g (e + 3) M_X13_child [(21, 92), (0, c), (0, w)] s (Ex (chS T A c w) s) := by
  have b8 := hx.ok.2.1
  have a02 := hW.1.2.1
  refine S_X13_child (fun _ _ => Mw.ex (R_isChild hx.1) ⟨fun q => ?_, fun q => ⟨?_, rfl⟩⟩)
  · have hc : 0 ≤ c ∧ c < T 1 1 := Classical.byContradiction (fun z => by rw [if_neg z] at q; omega)
    have e1 := (hx.c hc.1 hc.2).1
    rw [show 8 * (0 : Int) + c = c by omega] at e1
    rw [e1, hx.bk, hx.2.2.2.1]
    unfold chS
    rw [if_pos hc]
    refine ⟨fun y0 => ⟨fun y1 => ⟨fun y2 => ⟨fun y3 => ⟨?_, rfl⟩, fun y3 => Mw.ex (R_feuding hx.1 hc.1 (by omega) a02.1 a02.2) ⟨?_, rfl⟩⟩, fun y2 => Mw.ex (R_twin hx hc.1 hc.2) ⟨?_, rfl⟩⟩, fun y1 => Mw.ex (R_born hx hc.1 hc.2) ⟨?_, rfl⟩⟩, fun y0 => ⟨⟨by omega, by omega⟩, ?_, rfl⟩⟩
    · rw [if_neg y0, if_neg y1, if_neg y2, if_neg y3]
    · rw [if_neg y0, if_neg y1, if_neg y2, if_pos y3]
    · rw [if_neg y0, if_neg y1, if_pos y2]
    · rw [if_neg y0, if_pos y1]
    · rw [if_pos y0]
  · unfold chS
    rw [if_neg]
    intro z
    rw [if_pos z] at q
    omega
theorem C_stone {c w : Int} (h8 : s 1 8 = tw) (hx : CX s 48 tw T A) (hW : WOK T A) : Mw g (e + 4) M_X12_stone [(20, 1), (0, c), (0, w)] s (Ex (snS T A c w) s) := by
  have b8 := hx.ok.2.1
  refine S_X12_stone (fun _ _ => Mw.ex (C_isChild h8 hx) ⟨fun q => ?_, fun q => ⟨?_, rfl⟩⟩)
  · have hc : 0 ≤ c ∧ c < T 1 1 := Classical.byContradiction (fun z => by rw [if_neg z] at q; omega)
    rw [hx.o50]
    unfold snS
    rw [if_pos hc]
    refine ⟨fun y => ⟨⟨by omega, by omega⟩, ?_, rfl⟩, fun y => Mw.ex (C_where hx hc.1 (by omega)) ⟨?_, rfl⟩, fun y => Mw.ex (C_isBuilt h8 hx) ⟨fun z => ⟨?_, rfl⟩, fun z => ?_⟩⟩
    · rw [if_pos y]
    · rw [if_neg (by omega), if_pos y]
    · have h3 : A 3 c = -1 := Classical.byContradiction (fun u => by rw [if_pos ⟨hc, u⟩] at z; omega)
      rw [if_neg y.1, if_neg y.2, if_pos h3]
    · have h3 : A 3 c ≠ -1 := fun u => by rw [if_neg (fun v => v.2 u)] at z; omega
      refine Mw.ex (C_lying hx hW.2.1 hW.2.2 hc.1 (by omega) h3) ⟨?_, rfl⟩
      rw [if_neg y.1, if_neg y.2, if_neg h3]
  · unfold snS
    rw [if_neg]
    intro z
    rw [if_pos z] at q
    omega
theorem R_stone {c w : Int} (hx : RX s 0 b T A) (hW : WOK T A) : Mw g (e + 4) M_X13_stone [(21, 92), (0, c), (0, w)] s (Ex (snS T A c w) s) := by
  have hT := hx.ok
  have b8 := hT.2.1
  refine S_X13_stone (fun _ _ => Mw.ex (R_isChild hx.1) ⟨fun q => ?_, fun q => ⟨?_, rfl⟩⟩)
  · have hc : 0 ≤ c ∧ c < T 1 1 := Classical.byContradiction (fun z => by rw [if_neg z] at q; omega)
    have c8 : c < 8 := by omega
    have hp := waP_n (pl_in hW.2.1 hc.1 c8)
    have key : ∀ x0 : Int, (x0 = 0 ↔ A 3 c = -1) → P_X13_stone_25 g (e + 3) (Ex (snS T A c w) s) s c w x0 := by
      intro x0 h0
      refine S_X13_stone_25 ?_
      unfold snS
      rw [if_pos hc]
      refine ⟨?_, ?_, ?_, ?_, ?_, ?_, ?_, ?_⟩
      · intro y; subst y; exact Mw.ex (R_strong hx hc.1 hc.2) ⟨rfl, rfl⟩
      · intro y; subst y
        refine ⟨fun z => Mw.ex (R_isDone hx hW.1 hc.1 hc.2) ⟨fun u => Mw.ex (R_isRaised hx hW.1 hc.1 hc.2) ⟨fun t => ⟨?_, rfl⟩, fun t => ⟨?_, rfl⟩⟩, fun u => ⟨?_, rfl⟩⟩, fun z => ⟨?_, rfl⟩⟩
        · rw [if_neg (by decide), if_pos rfl]
          unfold whS
          have nd : ¬ T 0 15 ≤ ageS T A c := fun k => by rw [if_pos k] at u; omega
          have nr : ¬ (T 0 14 ≤ ageS T A c ∧ ageS T A c < T 0 15) := fun k => by rw [if_pos k] at t; omega
          rw [if_pos (h0.mp z), if_neg nd, if_neg (by omega)]
        · rw [if_neg (by decide), if_pos rfl]
          unfold whS
          have nd : ¬ T 0 15 ≤ ageS T A c := fun k => by rw [if_pos k] at u; omega
          have nr : (T 0 14 ≤ ageS T A c ∧ ageS T A c < T 0 15) := Classical.byContradiction (fun k => by rw [if_neg k] at t; omega)
          rw [if_pos (h0.mp z), if_neg nd, if_pos nr.1]
        · rw [if_neg (by decide), if_pos rfl]
          unfold whS
          have nd : T 0 15 ≤ ageS T A c := Classical.byContradiction (fun k => by rw [if_neg k] at u; omega)
          rw [if_pos (h0.mp z), if_pos nd]
        · rw [if_neg (by decide), if_pos rfl]
          unfold whS
          rw [if_neg (fun k => z (h0.mpr k))]
      · intro y; subst y
        refine Mw.ex (R_inWall hx hc.1 hc.2) ⟨?_, rfl⟩
        rw [if_neg (by decide), if_neg (by decide)]
        unfold waP lyiS
        by_cases k : A 3 c = -1
        · rw [if_pos k, if_pos k]
        · rw [if_neg k, if_neg k, if_pos rfl]
      · intro y; subst y
        refine ⟨fun z => ⟨?_, rfl⟩, fun z => Mw.ex (R_column hx hc.1 hc.2) ⟨?_, rfl⟩⟩
        · rw [if_neg (by decide), if_neg (by decide), if_pos (h0.mp z)]
        · have k : ¬ A 3 c = -1 := fun k => z (h0.mpr k)
          rw [if_neg (by decide), if_neg (by decide), if_neg k]
          unfold coP
          rw [if_neg k]
          rfl
      · intro y; subst y
        refine ⟨fun z => ⟨?_, rfl⟩, fun z => Mw.ex (R_course hx hc.1 hc.2) ⟨?_, rfl⟩⟩
        · rw [if_neg (by decide), if_neg (by decide), if_pos (h0.mp z)]
        · have k : ¬ A 3 c = -1 := fun k => z (h0.mpr k)
          rw [if_neg (by decide), if_neg (by decide), if_neg k]
          unfold cuP
          rw [if_neg k]
          rfl
      · intro y; subst y
        refine ⟨fun z => ⟨?_, rfl⟩, fun z => ?_⟩
        · rw [if_neg (by decide), if_neg (by decide), if_pos (h0.mp z)]
        · have k : ¬ A 3 c = -1 := fun k => z (h0.mpr k)
          refine Mw.ex (R_load hx hW hc.1 hc.2 k) ⟨?_, rfl⟩
          rw [if_neg (by decide), if_neg (by decide), if_neg k]
          rfl
      · intro y; subst y
        refine ⟨fun z => ⟨?_, rfl⟩, fun z => ?_⟩
        · rw [if_neg (by decide), if_neg (by decide), if_pos (h0.mp z)]
        · have k : ¬ A 3 c = -1 := fun k => z (h0.mpr k)
          refine Mw.ex (R_bears hx hW hc.1 hc.2 k) ⟨?_, rfl⟩
          rw [if_neg (by decide), if_neg (by decide), if_neg k]
          rfl
      · intro y
        refine ⟨?_, rfl⟩
        rw [if_neg (by omega), if_neg (by omega)]
        split
        · rfl
        · unfold lyiS
          rw [if_neg (by omega), if_neg (by omega), if_neg (by omega), if_neg (by omega), if_neg (by omega)]
    refine Mw.ex (R_inWall hx hc.1 hc.2) ⟨fun y => key 0 ⟨fun _ => hp.mp y, fun _ => rfl⟩, fun y => key 1 ⟨fun k => by omega, fun k => absurd (hp.mpr k) y⟩⟩
  · unfold snS
    rw [if_neg]
    intro z
    rw [if_pos z] at q
    omega
end ASK2
