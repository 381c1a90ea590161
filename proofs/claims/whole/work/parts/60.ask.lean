/-! what there is: has, home, child, stone, wall, at, kept of both programs -/
theorem pop_set {p : Int → Bool} : ∀ n : Nat, n ≤ 8 → popF (setF n p) = cntF n p := by
  intro n
  induction n with
  | zero => intro _; show popF 0 = 0; decide
  | succ n ih =>
    intro hn
    have i := ih (by omega)
    have hl := setF_lt n p
    have h2 : 2 ^ n ≤ 2 ^ 7 := Nat.pow_le_pow_right (by omega) (by omega)
    have e2 := pow2 n
    have hb := setF_bit n p n
    unfold bitF at hb
    rw [show decide (n < n) = false by simp, Bool.false_and] at hb
    cases hp : p n
    · rw [setF_n hp, cntF_n hp, i]
    · rw [setF_s hp, cntF_s hp, ← setF_or (by omega), pop_or hl.1 (by omega) (by omega) (by omega) (by rw [Int.toNat_natCast]; exact hb), i]
/-- stones of a wall, as bits -/
def wstS (T : Tn) (A : Wd) (w : Int) : Int := setF (T 1 1).toNat (fun c => waP (A 3 c) == w)
section ASK
variable {T : Tn} {A : Wd}
theorem cntF_add {n : Nat} {p q r : Int → Bool} (h : ∀ k : Nat, k < n → p k = (q k || r k) ∧ ¬ (q k = true ∧ r k = true)) : cntF n p = cntF n q + cntF n r := by
  induction n with
  | zero => rfl
  | succ n ih =>
    have i := ih (fun k hk => h k (by omega))
    have hn := h n (by omega)
    unfold cntF
    rw [i, hn.1]
    cases hq : q n <;> cases hr : r n
    · simp
    · simp; omega
    · simp; omega
    · exact absurd ⟨hq, hr⟩ hn.2
theorem cnt_wall {w : Int} (hT : TOK T) (hW : WOK T A) (w0 : 0 ≤ w) (w4 : w < 4) : cntF (T 1 1).toNat (fun c => waP (A 3 c) == w) = A 5 (4 * w) + A 5 (4 * w + 1) + A 5 (4 * w + 2) + A 5 (4 * w + 3) := by
  have b8 := hT.2.1
  have e0 := tall_eq (k := 0) hT hW w0 w4 (by decide) (by decide)
  have e1 := tall_eq (k := 1) hT hW w0 w4 (by decide) (by decide)
  have e2 := tall_eq (k := 2) hT hW w0 w4 (by decide) (by decide)
  have e3 := tall_eq (k := 3) hT hW w0 w4 (by decide) (by decide)
  rw [Int.add_zero] at e0
  rw [← e0, ← e1, ← e2, ← e3]
  have cz : ∀ c : Nat, c < (T 1 1).toNat → waP (A 3 c) = w → coP (A 3 c) = 0 ∨ coP (A 3 c) = 1 ∨ coP (A 3 c) = 2 ∨ coP (A 3 c) = 3 := fun c hc h => by
    unfold waP at h
    unfold coP
    rcases hW.2.1.1 c (by omega) (by omega) with z | ⟨z1, z2, z3⟩
    · rw [if_pos z] at h; omega
    · rw [if_neg (by omega)]; omega
  rw [cntF_add (p := fun c => waP (A 3 c) == w) (q := fun c => waP (A 3 c) == w && coP (A 3 c) == 0) (r := fun c => waP (A 3 c) == w && (coP (A 3 c) == 1 || (coP (A 3 c) == 2 || coP (A 3 c) == 3)))]
  · rw [cntF_add (p := fun c => waP (A 3 c) == w && (coP (A 3 c) == 1 || (coP (A 3 c) == 2 || coP (A 3 c) == 3))) (q := fun c => waP (A 3 c) == w && coP (A 3 c) == 1) (r := fun c => waP (A 3 c) == w && (coP (A 3 c) == 2 || coP (A 3 c) == 3))]
    · rw [cntF_add (p := fun c => waP (A 3 c) == w && (coP (A 3 c) == 2 || coP (A 3 c) == 3)) (q := fun c => waP (A 3 c) == w && coP (A 3 c) == 2) (r := fun c => waP (A 3 c) == w && coP (A 3 c) == 3)]
      · omega
      · intro c hc
        refine ⟨?_, fun z => ?_⟩
        · cases (waP (A 3 c) == w) <;> simp
        · simp only [Bool.and_eq_true, beq_iff_eq] at z; omega
    · intro c hc
      refine ⟨?_, fun z => ?_⟩
      · cases (waP (A 3 c) == w) <;> simp
      · simp only [Bool.and_eq_true, Bool.or_eq_true, beq_iff_eq] at z; omega
  · intro c hc
    refine ⟨?_, fun z => ?_⟩
    · by_cases h : waP (A 3 c) = w
      · have := cz c hc h
        simp only [h, beq_self_eq_true, Bool.true_and]
        rcases this with y | y | y | y <;> simp [y]
      · have : (waP (A 3 c) == w) = false := by simp [h]
        rw [this]
        rfl
    · simp only [Bool.and_eq_true, Bool.or_eq_true, beq_iff_eq] at z; omega
theorem height_0 (hW : WOK T A) {q : Int} (q0 : 0 ≤ q) (q1 : q < 16) (h : T 11 (q / 4) ≤ q % 4) : A 5 q = 0 := by
  have hh := hW.2.2.1 q q0 q1
  apply Classical.byContradiction
  intro hn
  have hne : A 4 (4 * q + 0) ≠ -1 := fun z => by
    have := (hh.2.2 0 (by decide) (by decide)).mp z
    omega
  obtain ⟨c0, c8, cp⟩ := (hW.2.1.2 (4 * q + 0) (by omega) (by omega)).resolve_left hne
  have := (hW.2.2.2 _ c0 c8 (by rw [cp]; omega)).2.2.1
  rw [cp, show (4 * q + 0) / 16 = q / 4 by omega] at this
  omega
theorem sto_eq {w : Int} (hT : TOK T) (hW : WOK T A) (w0 : 0 ≤ w) (w1 : w < T 1 2) : popF (wstS T A w) = stoS T A w := by
  have b8 := hT.2.1
  have b4 := hT.2.2.1
  have bw := (hT.2.2.2.2.2.2.2.1 w w0 w1).1
  unfold wstS
  rw [pop_set _ (by omega), cnt_wall hT hW w0 (by omega)]
  have z1 := height_0 hW (q := 4 * w + 1) (by omega) (by omega)
  have z2 := height_0 hW (q := 4 * w + 2) (by omega) (by omega)
  have z3 := height_0 hW (q := 4 * w + 3) (by omega) (by omega)
  rw [show (4 * w + 1) / 4 = w by omega, show (4 * w + 1) % 4 = 1 by omega] at z1
  rw [show (4 * w + 2) / 4 = w by omega, show (4 * w + 2) % 4 = 2 by omega] at z2
  rw [show (4 * w + 3) / 4 = w by omega, show (4 * w + 3) % 4 = 3 by omega] at z3
  unfold stoS
  rcases (show T 11 w = 1 ∨ T 11 w = 2 ∨ T 11 w = 3 ∨ T 11 w = 4 by omega) with h | h | h | h
  · rw [z1 (by omega), z2 (by omega), z3 (by omega), h]
    show _ = 0 + A 5 (4 * w + ((0 : Nat) : Int))
    simp
  · rw [z2 (by omega), z3 (by omega), h]
    show _ = 0 + A 5 (4 * w + ((0 : Nat) : Int)) + A 5 (4 * w + ((1 : Nat) : Int))
    simp
  · rw [z3 (by omega), h]
    show _ = 0 + A 5 (4 * w + ((0 : Nat) : Int)) + A 5 (4 * w + ((1 : Nat) : Int)) + A 5 (4 * w + ((2 : Nat) : Int))
    simp
  · rw [h]
    show _ = 0 + A 5 (4 * w + ((0 : Nat) : Int)) + A 5 (4 * w + ((1 : Nat) : Int)) + A 5 (4 * w + ((2 : Nat) : Int)) + A 5 (4 * w + ((3 : Nat) : Int))
    simp
def haS (T : Tn) (A : Wd) (uc sd w : Int) : Int :=
  if w = 0 then T 1 0 else if w = 1 then T 1 1 else if w = 2 then T 1 2 else if w = 3 then T 0 13 else if w = 4 then T 0 13 - popF (A 0 2) else if w = 5 then A 0 1 else
  if w = 6 then popF (bitsS T A 2) else if w = 7 then popF (bitsS T A 3) else if w = 8 then fulS T A else if w = 9 then A 0 9 else if w = 10 then uc else if w = 11 then sd else -1
variable {g : GT} {e : Nat} {s : Sg} {tw b : Int}
theorem C_has {w : Int} (h8 : s 1 8 = tw) (hx : CX s 48 tw T A) (hW : WOK T A) : Mw g (e + 5) M_X12_has [(20, 1), (0, w)] s (Ex (haS T A (s 65 1) (s 1 12) w) s) := by
  have hT := hx.ok
  have b13 := hT.2.2.2.1
  have a02 := hW.1.2.1
  have pb := popF_bd a02.1 a02.2
  have x2 := bits_bd (A := A) hT 2
  have x3 := bits_bd (A := A) hT 3
  refine S_X12_has (fun _ => ?_)
  rw [h8, hx.t0, hx.y, hx.en, hx.kc]
  refine ⟨?_, ?_, ?_, ?_, ?_, ?_, ?_, ?_, ?_, ?_, ?_, ?_, ?_⟩
  · intro h; subst h; exact Mw.ex (C_homeCount hx) ⟨rfl, rfl⟩
  · intro h; subst h; exact Mw.ex (C_childCount hx) ⟨rfl, rfl⟩
  · intro h; subst h; exact Mw.ex (C_wallCount hx) ⟨rfl, rfl⟩
  · intro h; subst h; exact ⟨rfl, rfl⟩
  · intro h; subst h
    refine Mw.ex (C_bitCount a02.1 a02.2) ⟨?_, rfl⟩
    rw [w32_of (by omega) (by omega)]
    rfl
  · intro h; subst h; exact ⟨rfl, rfl⟩
  · intro h; subst h; exact Mw.ex (C_bitsAt hx) (Mw.ex (C_bitCount x2.1 (by omega)) ⟨rfl, rfl⟩)
  · intro h; subst h; exact Mw.ex (C_bitsAt hx) (Mw.ex (C_bitCount x3.1 (by omega)) ⟨rfl, rfl⟩)
  · intro h; subst h; exact Mw.ex (C_fullWalls hx hW.2.2) ⟨rfl, rfl⟩
  · intro h; subst h; exact ⟨rfl, rfl⟩
  · intro h; subst h; exact ⟨rfl, rfl⟩
  · intro h; subst h; exact ⟨rfl, rfl⟩
  · intro h
    refine ⟨?_, rfl⟩
    unfold haS
    rw [if_neg (by omega), if_neg (by omega), if_neg (by omega), if_neg (by omega), if_neg (by omega), if_neg (by omega), if_neg (by omega), if_neg (by omega), if_neg (by omega), if_neg (by omega), if_neg (by omega), if_neg (by omega)]
theorem stonesR_loop {w : Int} (h : RX s 0 b T A) : ∀ (m c : Nat), (c : Int) + m = T 1 1 → P_X13_stonesIn_4 g (e + 1) (Ex (wstS T A w) s) s w (setF c (fun c => waP (A 3 c) == w)) c := by
  intro m
  have b8 := h.ok.2.1
  have hb := h.b2
  induction m with
  | zero =>
    intro c hc
    refine S_X13_stonesIn_4 ?_
    rw [h.bk, h.nc]
    refine ⟨⟨by omega, by omega⟩, fun _ => ⟨?_, rfl⟩, fun q => absurd (by omega) q⟩
    unfold wstS
    rw [show (T 1 1).toNat = c by omega]
  | succ m ih =>
    intro c hc
    have i := ih (c + 1) (by omega)
    rw [show (((c + 1 : Nat)) : Int) = (c : Int) + 1 by omega] at i
    refine S_X13_stonesIn_4 ?_
    rw [h.bk, h.nc, w32_of (by omega) (by omega), setF_or (by omega), bOr_0 (setF_R (by omega) _)]
    refine ⟨⟨by omega, by omega⟩, fun q => by omega, fun _ => Mw.ex (R_inWall h (by omega) (by omega)) ⟨fun q => ?_, fun q => ?_⟩⟩
    · rw [setF_n (by simp [q])] at i; exact i
    · rw [setF_s (by simp [q])] at i; exact i
theorem R_stonesIn {w : Int} (h : RX s 0 b T A) : Mw g (e + 2) M_X13_stonesIn [(21, 92), (0, w)] s (Ex (wstS T A w) s) := by
  have b8 := h.ok.2.1
  exact S_X13_stonesIn (fun _ => stonesR_loop h (T 1 1).toNat 0 (by omega))
theorem ws_bd (hT : TOK T) (w : Int) : 0 ≤ wstS T A w ∧ wstS T A w < 256 := by
  have b8 := hT.2.1
  have h := setF_lt (T 1 1).toNat (fun c => waP (A 3 c) == w)
  have h2 : 2 ^ (T 1 1).toNat ≤ 2 ^ 8 := Nat.pow_le_pow_right (by omega) (by omega)
  have e2 := pow2 (T 1 1).toNat
  unfold wstS
  omega
theorem fullR_loop {Q : Int → Sg → Prop} (h : RX s 0 b T A) (hW : WOK T A) (hQ : Q (fulS T A) s) : ∀ (m c : Nat), (c : Int) + m = T 1 2 → P_X13_has_151 g (e + 2) Q s (cntF c (fun w => stoS T A w == T 11 w * T 12 w)) c := by
  intro m
  have hT := h.ok
  have b4 := hT.2.2.1
  have hb := h.b2
  induction m with
  | zero =>
    intro c hc
    refine S_X13_has_151 ?_
    rw [h.bk, h.nw]
    unfold fulS at hQ
    rw [show (T 1 2).toNat = c by omega] at hQ
    exact ⟨⟨by omega, by omega⟩, fun _ => hQ, fun q => absurd (by omega) q⟩
  | succ m ih =>
    intro c hc
    have i := ih (c + 1) (by omega)
    rw [show (((c + 1 : Nat)) : Int) = (c : Int) + 1 by omega] at i
    have cb := cntF_le c (fun w => stoS T A w == T 11 w * T 12 w)
    have bw := hT.2.2.2.2.2.2.2.1 c (by omega) (by omega)
    have rw' := h.rt.2.2.2.1 c (by omega) (by omega)
    have wb := ws_bd (A := A) hT c
    have hm : 0 ≤ T 11 c * T 12 c ∧ T 11 c * T 12 c ≤ 16 := by
      rcases (show T 11 c = 1 ∨ T 11 c = 2 ∨ T 11 c = 3 ∨ T 11 c = 4 by omega) with q | q | q | q <;> rw [q] <;> omega
    refine S_X13_has_151 ?_
    rw [h.bk, h.nw]
    refine ⟨⟨by omega, by omega⟩, fun q => by omega, fun _ => Mw.ex (R_stonesIn h) (Mw.ex (R_bits wb.1 (by omega)) ?_)⟩
    rw [h.bk, w32_of (show _ ≤ 4 * b by omega) (by omega), w32_of (show _ ≤ 4 * b + (c : Int) by omega) (by omega), rw'.1, rw'.2, w32_of (show _ ≤ T 11 c * T 12 c by omega) (by omega), w32_of (show _ ≤ (c : Int) + 1 by omega) (by omega), Int.add_zero, w32_of (by omega) (by omega), w32_of (by omega) (by omega), sto_eq hT hW (by omega) (by omega)]
    refine ⟨⟨by omega, by omega⟩, ⟨by omega, by omega⟩, fun q => ?_, fun q => ?_⟩
    · rw [cntF_n (by simp [q])] at i; exact i
    · rw [cntF_s (by simp [q])] at i; exact i
theorem R_has {w sd : Int} (h : RZ True s 0 b T A) (hW : WOK T A) (hs : s 92 60 = sd) (hsd : inR sd) : Mw g (e + 6) M_X13_has [(21, 92), (0, w)] s (Ex (haS T A (s 92 59) sd w) s) := by
  have hT := h.1.ok
  have hb := h.1.b2
  have b13 := hT.2.2.2.1
  have b4 := hT.2.2.1
  have a02 := hW.1.2.1
  have pb := popF_bd a02.1 a02.2
  have x2 := bits_bd (A := A) hT 2
  have x3 := bits_bd (A := A) hT 3
  refine S_X13_has (fun _ => ?_)
  rw [h.1.bk, h.1.rt.1.1, h.1.rt.1.2.1, h.1.rt.1.2.2.1, h.1.rt.1.2.2.2, h.1.2.2.1, h.1.2.2.2.1, hs, w32_id hsd, (h.2 trivial).1]
  refine ⟨?_, ?_, ?_, ?_, ?_, ?_, ?_, ?_, ?_, ?_, ?_, ?_, ?_⟩
  · intro q; subst q; exact ⟨⟨by omega, by omega⟩, rfl, rfl⟩
  · intro q; subst q; exact ⟨⟨by omega, by omega⟩, rfl, rfl⟩
  · intro q; subst q; exact ⟨⟨by omega, by omega⟩, rfl, rfl⟩
  · intro q; subst q; exact ⟨⟨by omega, by omega⟩, rfl, rfl⟩
  · intro q; subst q
    refine ⟨⟨by omega, by omega⟩, Mw.ex (R_bits a02.1 a02.2) ⟨?_, rfl⟩⟩
    rw [w32_of (by omega) (by omega)]
    rfl
  · intro q; subst q; exact ⟨rfl, rfl⟩
  · intro q; subst q; exact Mw.ex (R_onShelf h.1 hW) (Mw.ex (R_bits x2.1 (by omega)) ⟨rfl, rfl⟩)
  · intro q; subst q; exact Mw.ex (R_builtIn h.1 hW) (Mw.ex (R_bits x3.1 (by omega)) ⟨rfl, rfl⟩)
  · intro q; subst q; exact fullR_loop h.1 hW ⟨rfl, rfl⟩ (T 1 2).toNat 0 (by omega)
  · intro q; subst q; exact ⟨rfl, rfl⟩
  · intro q; subst q; exact ⟨rfl, rfl⟩
  · intro q; subst q; exact ⟨rfl, rfl⟩
  · intro q
    refine ⟨?_, rfl⟩
    unfold haS
    rw [if_neg (by omega), if_neg (by omega), if_neg (by omega), if_neg (by omega), if_neg (by omega), if_neg (by omega), if_neg (by omega), if_neg (by omega), if_neg (by omega), if_neg (by omega), if_neg (by omega), if_neg (by omega)]
end ASK
