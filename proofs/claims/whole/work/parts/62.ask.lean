/-! wall, at, kept, fault, status, octet of both programs; the class's later, built, down, strongest -/
section ASK3
variable {T : Tn} {A : Wd} {g : GT} {e : Nat} {s : Sg} {tw b : Int}
theorem C_wall {w k : Int} (h8 : s 1 8 = tw) (hx : CX s 48 tw T A) (hW : WOK T A) : Mw g (e + 3) M_X12_wall [(20, 1), (0, w), (0, k)] s (Ex (waS T A w k) s) := by
  have b4 := hx.ok.2.2.1
  refine S_X12_wall (fun _ hk => Mw.ex (C_isWall h8 hx) ⟨fun q => ?_, fun q => ⟨?_, rfl⟩⟩)
  · have hc : 0 ≤ w ∧ w < T 1 2 := Classical.byContradiction (fun z => by rw [if_neg z] at q; omega)
    have bw := hx.ok.2.2.2.2.2.2.2.1 w hc.1 hc.2
    unfold inR at hk
    have h46 : ¬ (10 ≤ k ∧ k < 10 + T 11 w) → P_X12_wall_46 g (e + 2) (Ex (waS T A w k) s) s w k := by
      intro hn
      refine S_X12_wall_46 ?_
      rw [h8, hx.t11, hx.t12]
      unfold waS
      rw [if_pos hc, if_neg hn]
      refine ⟨?_, ?_, ?_, ?_⟩
      · intro y; subst y; exact ⟨⟨by omega, by omega⟩, rfl, rfl⟩
      · intro y; subst y; exact ⟨⟨by omega, by omega⟩, rfl, rfl⟩
      · intro y; subst y; exact Mw.ex (C_stonesIn hx hW.2.2 hc.1 hc.2) ⟨rfl, rfl⟩
      · intro y; exact ⟨by rw [if_neg (by omega), if_neg (by omega), if_neg (by omega)], rfl⟩
    rw [h8, hx.t11, hx.o53]
    refine ⟨fun y => h46 ?_, fun y => ⟨⟨by omega, by omega⟩, fun z => h46 ?_, fun z => ?_⟩⟩
    · unfold w32 at y; omega
    · unfold w32 at z; omega
    · have ek : w32 (k - 10) = k - 10 := by unfold w32 at y z ⊢; omega
      rw [ek] at y z ⊢
      rw [w32_of (show _ ≤ w * 4 by omega) (by omega), w32_of (show _ ≤ w * 4 + (k - 10) by omega) (by omega), Int.mul_comm w 4]
      refine ⟨⟨by omega, by omega⟩, ?_, rfl⟩
      unfold waS
      rw [if_pos hc, if_pos (show 10 ≤ k ∧ k < 10 + T 11 w by omega)]
  · unfold waS
    rw [if_neg]
    intro z
    rw [if_pos z] at q
    omega
theorem R_wall {w k : Int} (hx : RX s 0 b T A) (hW : WOK T A) : Mw g (e + 3) M_X13_wall [(21, 92), (0, w), (0, k)] s (Ex (waS T A w k) s) := by
  have hT := hx.ok
  have b4 := hT.2.2.1
  have hb := hx.b2
  refine S_X13_wall (fun _ hk => Mw.ex (R_isWall hx.1) ⟨fun q => ?_, fun q => ⟨?_, rfl⟩⟩)
  · have hc : 0 ≤ w ∧ w < T 1 2 := Classical.byContradiction (fun z => by rw [if_neg z] at q; omega)
    have bw := hT.2.2.2.2.2.2.2.1 w hc.1 hc.2
    have rw' := hx.rt.2.2.2.1 w hc.1 hc.2
    have wb := ws_bd (A := A) hT w
    unfold inR at hk
    rw [hx.bk, w32_of (show _ ≤ 4 * b by omega) (by omega), w32_of (show _ ≤ 4 * b + w by omega) (by omega), rw'.1, rw'.2, w32_of (show _ ≤ 9 + T 11 w by omega) (by omega)]
    unfold waS
    rw [if_pos hc]
    refine ⟨fun y => ⟨⟨by omega, by omega⟩, Mw.ex R_is ⟨fun z => ⟨?_, rfl⟩, fun z => ?_⟩⟩, fun y => ⟨fun y0 => ⟨fun y1 => ⟨fun y2 => ⟨?_, rfl⟩, fun y2 => Mw.ex (R_stonesIn hx) (Mw.ex (R_bits wb.1 (by omega)) ⟨?_, rfl⟩)⟩, fun y1 => ⟨⟨by omega, by omega⟩, ?_, rfl⟩⟩, fun y0 => ⟨⟨by omega, by omega⟩, ?_, rfl⟩⟩⟩
    · have hn : ¬ (10 ≤ k ∧ k < 10 + T 11 w) := fun u => by rw [if_pos (by omega)] at z; omega
      rw [if_neg hn, if_neg (by omega), if_neg (by omega), if_neg (by omega)]
    · have hn : 10 ≤ k ∧ k < 10 + T 11 w := Classical.byContradiction (fun u => by rw [if_neg (by omega)] at z; omega)
      rw [if_pos hn, w32_of (by omega) (by omega)]
      exact Mw.ex (R_tall hx hW hc.1 (by omega) (by omega) (by omega)) ⟨rfl, rfl⟩
    · rw [if_neg (show ¬ (10 ≤ k ∧ k < 10 + T 11 w) by omega), if_neg y0, if_neg y1, if_neg y2]
    · rw [if_neg (show ¬ (10 ≤ k ∧ k < 10 + T 11 w) by omega), if_neg y0, if_neg y1, if_pos y2]
      exact sto_eq hT hW hc.1 hc.2
    · rw [if_neg (show ¬ (10 ≤ k ∧ k < 10 + T 11 w) by omega), if_neg y0, if_pos y1]
    · rw [if_neg (show ¬ (10 ≤ k ∧ k < 10 + T 11 w) by omega), if_pos y0]
  · unfold waS
    rw [if_neg]
    intro z
    rw [if_pos z] at q
    omega
theorem C_spot {w k j : Int} (w0 : 0 ≤ w) (w1 : w < 4) (k0 : 0 ≤ k) (k1 : k < 256) (j0 : 0 ≤ j) (j1 : j < 256) : Mw g (e + 1) M_X11_spot [(0, w), (0, k), (0, j)] s (Ex (16 * w + 4 * k + j) s) := by
  refine S_X11_spot (fun _ _ _ => ⟨?_, rfl⟩)
  rw [w32_of (show _ ≤ w * 4 by omega) (by omega), w32_of (show _ ≤ w * 4 + k by omega) (by omega), w32_of (show _ ≤ (w * 4 + k) * 4 by omega) (by omega), w32_of (by omega) (by omega)]
  omega
theorem C_at {w k j : Int} (h8 : s 1 8 = tw) (hx : CX s 48 tw T A) : Mw g (e + 3) M_X12_at [(20, 1), (0, w), (0, k), (0, j)] s (Ex (atS T A w k j) s) := by
  have b4 := hx.ok.2.2.1
  refine S_X12_at (fun _ _ _ => Mw.ex (C_isWall h8 hx) ⟨fun q => ⟨?_, rfl⟩, fun q => ?_⟩)
  · unfold atS
    rw [if_neg]
    intro z
    rw [if_pos z.1] at q
    omega
  · have hc : 0 ≤ w ∧ w < T 1 2 := Classical.byContradiction (fun z => by rw [if_neg z] at q; omega)
    have bw := hx.ok.2.2.2.2.2.2.2.1 w hc.1 hc.2
    rw [h8, hx.t11, hx.t12]
    unfold atS
    refine ⟨fun y => ⟨by rw [if_neg (fun z => by omega)], rfl⟩, fun y => ⟨⟨by omega, by omega⟩, fun z => ⟨fun u => ⟨by rw [if_neg (fun z => by omega)], rfl⟩, fun u => ⟨⟨by omega, by omega⟩, fun t => ?_, fun t => ⟨by rw [if_neg (fun z => by omega)], rfl⟩⟩⟩, fun z => ⟨by rw [if_neg (fun z => by omega)], rfl⟩⟩⟩
    refine Mw.ex (C_spot hc.1 (by omega) (by omega) (by omega) (by omega) (by omega)) ?_
    rw [hx.o52]
    refine ⟨⟨by omega, by omega⟩, ?_, rfl⟩
    have hcc : (0 ≤ w ∧ w < T 1 2) ∧ (0 ≤ k ∧ k < T 11 w) ∧ 0 ≤ j ∧ j < T 12 w := ⟨hc, ⟨by omega, z⟩, by omega, t⟩
    rw [if_pos hcc]
theorem R_at {w k j : Int} (hx : RX s 0 b T A) (hW : WOK T A) : Mw g (e + 3) M_X13_at [(21, 92), (0, w), (0, k), (0, j)] s (Ex (atS T A w k j) s) := by
  have hT := hx.ok
  have b4 := hT.2.2.1
  have hb := hx.b2
  refine S_X13_at (fun _ _ _ => Mw.ex (R_isWall hx.1) ⟨fun q => ⟨?_, rfl⟩, fun q => ?_⟩)
  · unfold atS
    rw [if_neg]
    intro z
    rw [if_pos z.1] at q
    omega
  · have hc : 0 ≤ w ∧ w < T 1 2 := Classical.byContradiction (fun z => by rw [if_neg z] at q; omega)
    have bw := hT.2.2.2.2.2.2.2.1 w hc.1 hc.2
    have rw' := hx.rt.2.2.2.1 w hc.1 hc.2
    rw [hx.bk, w32_of (show _ ≤ 4 * b by omega) (by omega), w32_of (show _ ≤ 4 * b + w by omega) (by omega), rw'.1, w32_of (show _ ≤ T 11 w - 1 by omega) (by omega)]
    refine ⟨⟨by omega, by omega⟩, Mw.ex R_is ⟨fun y => ⟨?_, rfl⟩, fun y => ?_⟩⟩
    · unfold atS
      rw [if_neg]
      intro z
      rw [if_pos (by omega)] at y
      omega
    · have hk : 0 ≤ k ∧ k ≤ T 11 w - 1 := Classical.byContradiction (fun z => by rw [if_neg z] at y; omega)
      rw [hx.bk, w32_of (show _ ≤ 4 * b by omega) (by omega), w32_of (show _ ≤ 4 * b + w by omega) (by omega), rw'.2, w32_of (show _ ≤ T 12 w - 1 by omega) (by omega)]
      refine ⟨⟨by omega, by omega⟩, Mw.ex R_is ⟨fun z => ⟨?_, rfl⟩, fun z => Mw.ex (R_lies hx hW hc.1 (by omega)) ⟨?_, rfl⟩⟩⟩
      · unfold atS
        rw [if_neg]
        intro u
        rw [if_pos (by omega)] at z
        omega
      · have hj : 0 ≤ j ∧ j ≤ T 12 w - 1 := Classical.byContradiction (fun u => by rw [if_neg u] at z; omega)
        have hcc : (0 ≤ w ∧ w < T 1 2) ∧ (0 ≤ k ∧ k < T 11 w) ∧ 0 ≤ j ∧ j < T 12 w := ⟨hc, by omega, by omega⟩
        unfold atS liS
        rw [if_pos hcc, if_pos (show (0 ≤ k ∧ k < 4) ∧ 0 ≤ j ∧ j < 4 by omega)]
/-- what is kept: numbers that can be -/
def KOK (A : Wd) : Prop := ∀ k, 0 ≤ k → k < A 0 9 → 0 ≤ A 6 k ∧ A 6 k < 100000
theorem RK.ok {v : Int} (h : RK s v A) : KOK A := fun k k0 k1 => by
  obtain ⟨h1, h2, h3, h4, h5⟩ := h.2 k k0 k1
  rw [h5]
  unfold ent
  omega
theorem C_kept {k w : Int} (hx : CX s 48 tw T A) (hK : KOK A) : Mw g (e + 1) M_X12_kept [(20, 1), (0, k), (0, w)] s (Ex (keS A k w) s) := by
  have a9 := hx.n.2.2.1
  refine S_X12_kept (fun _ _ => ⟨fun q => ⟨?_, rfl⟩, fun q => ?_⟩)
  · unfold keS; rw [if_neg (fun z => by omega)]
  · rw [hx.kc, hx.o54]
    refine ⟨fun y => ⟨⟨by omega, by omega⟩, ?_⟩, fun y => ⟨?_, rfl⟩⟩
    · have b6 := hK k (by omega) y
      have s6 : bShr (A 6 k) 6 = A 6 k / 64 := bShr_n ⟨by omega, by omega⟩ (by decide) (by decide)
      have s3 : bShr (A 6 k) 3 = A 6 k / 8 := bShr_n ⟨by omega, by omega⟩ (by decide) (by decide)
      have s1 : bShr (A 6 k) 1 = A 6 k / 2 := bShr_n ⟨by omega, by omega⟩ (by decide) (by decide)
      have m3 : bAnd (A 6 k / 8) 7 = A 6 k / 8 % 8 := bAnd_mod (n := 3) (by omega) (by omega) (by decide)
      have m2 : bAnd (A 6 k / 2) 3 = A 6 k / 2 % 4 := bAnd_mod (n := 2) (by omega) (by omega) (by decide)
      have m1 : bAnd (A 6 k) 1 = A 6 k % 2 := bAnd_mod (n := 1) (by omega) (by omega) (by decide)
      rw [s6, s3, s1, m3, m2, m1]
      unfold keS
      refine ⟨fun z => ⟨?_, rfl⟩, fun z => ⟨?_, rfl⟩, fun z => ⟨?_, rfl⟩, fun z => ⟨?_, rfl⟩, fun z => ⟨?_, rfl⟩⟩
      · rw [if_pos (show (0 ≤ k ∧ k < A 0 9) ∧ 0 ≤ w ∧ w ≤ 3 by omega), if_pos z]
      · rw [if_pos (show (0 ≤ k ∧ k < A 0 9) ∧ 0 ≤ w ∧ w ≤ 3 by omega), if_neg (by omega), if_pos z]
      · rw [if_pos (show (0 ≤ k ∧ k < A 0 9) ∧ 0 ≤ w ∧ w ≤ 3 by omega), if_neg (by omega), if_neg (by omega), if_pos z]
      · rw [if_pos (show (0 ≤ k ∧ k < A 0 9) ∧ 0 ≤ w ∧ w ≤ 3 by omega), if_neg (by omega), if_neg (by omega), if_neg (by omega)]
      · rw [if_neg (fun u => by omega)]
    · unfold keS; rw [if_neg (fun z => by omega)]
theorem R_kept {k w : Int} (hx : RZ True s 0 b T A) : Mw g (e + 2) M_X13_kept [(21, 92), (0, k), (0, w)] s (Ex (keS A k w) s) := by
  have hr := hx.2 trivial
  have a9 := hx.1.2.2.2.2.1
  refine S_X13_kept (fun _ _ => ?_)
  rw [hr.1] at a9 ⊢
  rw [w32_of (by omega) (by omega)]
  refine Mw.ex R_is ⟨fun q => ⟨?_, rfl⟩, fun q => Mw.ex R_is ⟨fun y => ⟨?_, rfl⟩, fun y => ?_⟩⟩
  · unfold keS
    rw [if_neg]
    intro z
    rw [if_pos (by omega)] at q
    omega
  · unfold keS
    rw [if_neg]
    intro z
    rw [if_pos (by omega)] at y
    omega
  · have hk : 0 ≤ k ∧ k ≤ A 0 9 - 1 := Classical.byContradiction (fun z => by rw [if_neg z] at q; omega)
    have hw : 0 ≤ w ∧ w ≤ 3 := Classical.byContradiction (fun z => by rw [if_neg z] at y; omega)
    obtain ⟨h1, h2, h3, h4, h5⟩ := hr.2 k hk.1 (by omega)
    rw [w32_of (show _ ≤ 4 * k by omega) (by omega), w32_of (show _ ≤ 4 * k + w by omega) (by omega)]
    refine ⟨⟨by omega, by omega⟩, ?_, rfl⟩
    rw [show 240 * (0 : Int) + 4 * k = 4 * k by omega] at h1 h2 h3 h4 h5
    unfold keS
    rw [if_pos (show (0 ≤ k ∧ k < A 0 9) ∧ 0 ≤ w ∧ w ≤ 3 by omega), h5]
    unfold ent
    rcases (show w = 0 ∨ w = 1 ∨ w = 2 ∨ w = 3 by omega) with z | z | z | z
    · rw [if_pos z, z, Int.add_zero]; omega
    · rw [if_neg (by omega), if_pos z, z]; omega
    · rw [if_neg (by omega), if_neg (by omega), if_pos z, z]; omega
    · rw [if_neg (by omega), if_neg (by omega), if_neg (by omega), z]; omega
theorem C_fault {w : Int} : Mw g (e + 1) M_X12_fault [(20, 1), (0, w)] s (Ex (if w = 0 then s 1 10 else if w = 1 then s 1 11 else -1) s) := by
  refine S_X12_fault (fun _ => ⟨fun q => ⟨by rw [if_pos q], rfl⟩, fun q => ⟨by rw [if_neg (by omega), if_pos q], rfl⟩, fun q => ⟨by rw [if_neg q.1, if_neg q.2], rfl⟩⟩)
theorem R_fault {w : Int} : Mw g (e + 1) M_X13_fault [(21, 92), (0, w)] s (Ex (if w = 0 then s 92 10 else if w = 1 then s 92 11 else -1) s) := by
  refine S_X13_fault (fun _ => ⟨fun q => ⟨fun q1 => ⟨by rw [if_neg q, if_neg q1], rfl⟩, fun q1 => ⟨by rw [if_neg q, if_pos q1], rfl⟩⟩, fun q => ⟨by rw [if_pos q], rfl⟩⟩)
theorem C_status {w : Int} : Mw g (e + 1) M_X12_status [(20, 1), (0, w)] s (Ex (if 0 ≤ w ∧ w ≤ 5 then s 91 w else -1) s) := by
  refine S_X12_status (fun _ => ⟨fun q => ⟨by rw [if_neg (by omega)], rfl⟩, fun q => ⟨fun q1 => ⟨by rw [if_neg (by omega)], rfl⟩, fun q1 => ⟨⟨by omega, by omega⟩, by rw [if_pos (by omega)], rfl⟩⟩⟩)
theorem R_status {w : Int} : Mw g (e + 2) M_X13_status [(21, 92), (0, w)] s (Ex (if 0 ≤ w ∧ w ≤ 5 then s 121 w else -1) s) := by
  refine S_X13_status (fun _ => Mw.ex R_is ⟨fun q => ⟨?_, rfl⟩, fun q => ?_⟩)
  · rw [if_neg]; intro z; rw [if_pos z] at q; omega
  · have z : 0 ≤ w ∧ w ≤ 5 := Classical.byContradiction (fun z => by rw [if_neg z] at q; omega)
    exact ⟨⟨by omega, by omega⟩, by rw [if_pos z], rfl⟩
theorem C_octet {k : Int} (h1 : s 89 1 ≤ 61) : Mw g (e + 1) M_X12_octet [(20, 1), (0, k)] s (Ex (if 0 ≤ k ∧ k < s 89 1 then s 90 k else -1) s) := by
  refine S_X12_octet (fun _ => ⟨fun q => ⟨by rw [if_neg (by omega)], rfl⟩, fun q => ⟨fun q1 => ⟨by rw [if_neg (by omega)], rfl⟩, fun q1 => ⟨⟨by omega, by omega⟩, by rw [if_pos (by omega)], rfl⟩⟩⟩)
theorem R_octet {k : Int} (h0 : 0 ≤ s 92 76) (h1 : s 92 76 ≤ 70) : Mw g (e + 2) M_X13_octet [(21, 92), (0, k)] s (Ex (if 0 ≤ k ∧ k < s 92 76 then s 141 k else -1) s) := by
  refine S_X13_octet (fun _ => ?_)
  rw [w32_of (by omega) (by omega)]
  refine Mw.ex R_is ⟨fun q => ⟨?_, rfl⟩, fun q => ?_⟩
  · rw [if_neg]; intro z; rw [if_pos (by omega)] at q; omega
  · have z : 0 ≤ k ∧ k ≤ s 92 76 - 1 := Classical.byContradiction (fun z => by rw [if_neg z] at q; omega)
    exact ⟨⟨by omega, by omega⟩, by rw [if_pos (by omega)], rfl⟩
/-- the world itself, nothing kept: what years ahead are told of -/
def A0S (A : Wd) : Wd := ups A 0 9 0
theorem A0_wee (hW : WOK T A) : WEe A (A0S A) 0 := by
  have a02 := hW.1.2.1
  have ea : ∀ a, a ≠ 0 → A0S A a = A a := fun a ha => ups_at _ ha
  refine ⟨ups_k _ (by decide), by rw [bOr_0 ⟨by omega, by omega⟩]; exact ups_k _ (by decide), ups_eq _ _ _ _, fun k _ _ => by rw [ea 1 (by decide), ea 2 (by decide), ea 3 (by decide)]; exact ⟨rfl, rfl, rfl⟩, fun k _ _ => by rw [ea 4 (by decide)], fun k _ _ => by rw [ea 5 (by decide)]⟩
theorem WEe.a0 {B : Wd} (hW : WOK T A) (h : WEe A B 0) : WEq (A0S A) B := by
  have a02 := hW.1.2.1
  have ea : ∀ a, a ≠ 0 → A0S A a = A a := fun a ha => ups_at _ ha
  obtain ⟨e1, e2, e3, e4, e5, e6⟩ := h
  rw [bOr_0 ⟨by omega, by omega⟩] at e2
  refine ⟨by rw [show A0S A 0 1 = A 0 1 from ups_k _ (by decide)]; exact e1, by rw [show A0S A 0 2 = A 0 2 from ups_k _ (by decide)]; exact e2, fun k k0 k1 => by rw [ea 1 (by decide), ea 2 (by decide), ea 3 (by decide)]; exact e4 k k0 k1, fun k k0 k1 => by rw [ea 4 (by decide)]; exact e5 k k0 k1, fun k k0 k1 => by rw [ea 5 (by decide)]; exact e6 k k0 k1⟩
theorem C_later {n w : Int} (hx : CX s 48 tw T A) (hW : WOK T A) (hF : TF T) : Mw g (e + 8) M_X12_later [(20, 1), (0, n), (0, w)] s (fun r s' => r = laS T (A 0 1) (A0S A) n w ∧ Fr (Jw 58) s s') := by
  have hT := hx.ok
  have a1 := hW.1.1
  unfold laS
  refine S_X12_later (fun _ _ => ⟨fun q => ⟨by rw [if_neg (fun z => by omega)], Fr.rf⟩, fun q => ⟨fun q1 => ⟨by rw [if_neg (fun z => by omega)], Fr.rf⟩, fun q1 => ?_⟩⟩)
  rw [hx.y, w32_of (by omega) (by omega)]
  refine ⟨fun q2 => ⟨by rw [if_neg (fun z => by omega)], Fr.rf⟩, fun q2 => ⟨fun q3 => ⟨by rw [if_neg (fun z => by omega)], Fr.rf⟩, fun q3 => ⟨fun q4 => (C_goAhead hx hW hF (by omega) (by omega) (by decide) (by decide)).imp (fun r s2 h2 => ?_), fun q4 => ⟨by rw [if_neg (fun z => by omega)], Fr.rf⟩⟩⟩⟩
  obtain ⟨B, X, b', g1, g2, g3, g4, g5, g6, g7⟩ := h2
  have hc : (0 ≤ n ∧ n ≤ 60 ∧ A 0 1 + n ≤ 999) ∧ 0 ≤ w ∧ w ≤ 3 := by omega
  have oA := (A0_wee hW).ok0 hT hW
  have ea := WEq.ahe hT n.toNat (A0S A) B oA (by rw [show A0S A 0 1 = A 0 1 from ups_k _ (by decide)]; omega) (g1.a0 hW)
  rw [if_pos hc]
  unfold laV
  have eX : WEq (aheA T n.toNat (A0S A)) X.1 := by rw [g4]; exact ea.1
  refine ⟨fun y => Mw.ex (C_bitsAt g2.1) ⟨?_, g7⟩, fun y => Mw.ex (C_bitsAt g2.1) ⟨?_, g7⟩, fun y => ⟨?_, g7⟩, fun y => Mw.ex (C_strongTogether g2.1) ⟨?_, g7⟩⟩
  · rw [if_pos y]; exact eX.bits hT 3
  · rw [if_neg (by omega), if_pos y]; exact eX.bits hT 2
  · rw [if_neg (by omega), if_neg (by omega), if_pos y, show s2 58 11 = X.2.2 from g2.2.2.1, g5]; exact ea.2.symm
  · rw [if_neg (by omega), if_neg (by omega), if_neg (by omega)]; exact eX.tog hT
theorem C_built {c : Int} (h8 : s 1 8 = tw) (hx : CX s 48 tw T A) (hW : WOK T A) (hF : TF T) (hy : A 0 1 ≤ 999) : Mw g (e + 8) M_X12_built [(20, 1), (0, c)] s (fun r s' => r = buS T (A 0 1) (A0S A) c ∧ Fr (Jw 58) s s') := by
  have hT := hx.ok
  have b8 := hT.2.1
  unfold buS
  refine S_X12_built (fun _ => Mw.ex (C_isChild h8 hx) ⟨fun q => ⟨?_, Fr.rf⟩, fun q => ?_⟩)
  · rw [if_neg]; intro z; rw [if_pos z] at q; omega
  · have z : 0 ≤ c ∧ c < T 1 1 := Classical.byContradiction (fun z => by rw [if_neg z] at q; omega)
    rw [if_pos z]
    refine (C_firstBuilt hx hW hF z.1 z.2 hy).imp (fun r s4 h4 => ?_)
    obtain ⟨B, g1, g2, g3⟩ := h4
    refine ⟨?_, g3⟩
    rw [g2]
    have e1 : A0S A 0 1 = A 0 1 := ups_k _ (by decide)
    exact WEq.fb hT z.1 (by omega) 62 0 (A0S A) B ((A0_wee hW).ok0 hT hW) (fun _ => by rw [e1]; exact hy) (fun j hj => by rw [e1]; omega) (g1.a0 hW)
theorem WEq.dwn {B : Wd} (hT : TOK T) (hW : WOK T A) (h : WEq A B) {c : Int} (c0 : 0 ≤ c) (c8 : c < 8) (h3 : A 3 c ≠ -1) : (dwnX T B c).2.1 = (dwnX T A c).2.1 := by
  obtain ⟨⟨p0, p1⟩, hl⟩ := built_lie hW c0 c8 h3
  have d := WEq.dropX (T := T) (X := (A, 0, 0)) (Y := (B, 0, 0)) h rfl hW p0 p1
  have f := WEq.fall hT 8 _ _ d.1 d.2 (dropX_spec (X := (A, 0, 0)) hW p0 p1 hl).1
  unfold dwnX
  rw [h.h3 c0 c8, ← f.2]
theorem C_down {c : Int} (h8 : s 1 8 = tw) (hx : CX s 48 tw T A) (hW : WOK T A) : Mw g (e + 7) M_X12_down [(20, 1), (0, c)] s (fun r s' => r = doS T (A0S A) c ∧ Fr (Jw 58) s s') := by
  have hT := hx.ok
  have b8 := hT.2.1
  have e3 : A0S A 3 = A 3 := ups_at _ (by decide)
  unfold doS
  rw [e3]
  refine S_X12_down (fun _ => Mw.ex (C_isBuilt h8 hx) ⟨fun q => ⟨?_, Fr.rf⟩, fun q => ?_⟩)
  · rw [if_neg]; intro z; rw [if_pos z] at q; omega
  · have z : (0 ≤ c ∧ c < T 1 1) ∧ A 3 c ≠ -1 := Classical.byContradiction (fun z => by rw [if_neg z] at q; omega)
    rw [if_pos z]
    refine (C_comingDown hx hW z.1.1 z.1.2 z.2).imp (fun r s4 h4 => ?_)
    obtain ⟨B, g1, g2, g3⟩ := h4
    exact ⟨by rw [g2]; exact WEq.dwn hT ((A0_wee hW).ok0 hT hW) (g1.a0 hW) z.1.1 (by omega) (by rw [e3]; exact z.2), g3⟩
theorem C_strongest {c w : Int} (h8 : s 1 8 = tw) (hx : CX s 48 tw T A) (hW : WOK T A) (hF : TF T) : Mw g (e + 7) M_X12_strongest [(20, 1), (0, c), (0, w)] s (fun r s' => r = stS T A c w ∧ Fr Jk s s') := by
  have hT := hx.ok
  have b8 := hT.2.1
  have b6 := hT.1
  unfold stS
  refine S_X12_strongest (fun _ _ => Mw.ex (C_isChild h8 hx) ⟨fun q => ⟨?_, Fr.rf⟩, fun q => ?_⟩)
  · rw [if_neg]; intro z; rw [if_pos z.1] at q; omega
  · have z : 0 ≤ c ∧ c < T 1 1 := Classical.byContradiction (fun z => by rw [if_neg z] at q; omega)
    have c8 : c < 8 := by omega
    refine Mw.ex (C_isDone hx z.1 c8) ⟨fun q2 => ?_, fun q2 => ⟨?_, Fr.rf⟩⟩
    · have nd : ¬ T 0 15 ≤ ageS T A c := fun y => by rw [if_pos y] at q2; omega
      refine (C_strongestHome hx hF z.1 c8).imp (fun r s6 h6 => ?_)
      have x6 := hx.jk h6.2
      have hh := hT.2.2.2.2.2.2.1 c z.1 z.2
      have t8 := (hT.2.2.2.2.2.1 c z.1 c8).1
      have hin := shF_in (T := T) (A := A) (c := c) (T 1 0).toNat 0 0 (-1) (by decide) (by omega) (by decide)
      refine ⟨fun y => ⟨?_, h6.2⟩, fun y => ?_, fun y => ⟨?_, h6.2⟩⟩
      · have hc : (0 ≤ c ∧ c < T 1 1) ∧ ¬ T 0 15 ≤ ageS T A c ∧ 0 ≤ w ∧ w ≤ 1 := ⟨z, nd, by omega⟩
        rw [if_pos hc, if_pos y]; exact h6.1
      · have hc : (0 ≤ c ∧ c < T 1 1) ∧ ¬ T 0 15 ≤ ageS T A c ∧ 0 ≤ w ∧ w ≤ 1 := ⟨z, nd, by omega⟩
        rw [if_pos hc, if_neg (by omega), h6.1]
        refine (C_strongWhenDone x6 hF z.1 c8 hin.1 (by omega)).imp (fun r7 s8 h7 => ⟨?_, h6.2.tr h7.2⟩)
        rw [h7.1]
        have b := swS_bd (h := 0) hW.1 z.1 c8
        have e1 : shS T A c = shF T A c ((T 1 0).toNat - 1) 1 0 (swS T A c 0) := by
          unfold shS
          rw [show (T 1 0).toNat = ((T 1 0).toNat - 1) + 1 by omega]
          show (if swS T A c 0 ≤ -1 then _ else shF T A c ((T 1 0).toNat - 1) (0 + 1) 0 (swS T A c 0)) = _
          rw [if_neg (by omega)]
          rfl
        show swS T A c (shS T A c).1 = (shS T A c).2
        rw [e1]
        exact (shF_val ((T 1 0).toNat - 1) 1 0 (swS T A c 0) rfl).symm
      · rw [if_neg (fun u => by omega)]
    · rw [if_neg]
      intro y
      rw [if_neg y.2.1] at q2
      exact q2 rfl
end ASK3
