/-! acts: takeBack of the class -/
section BACK
variable {T : Tn} {A V : Wd} {g : GT} {e : Nat} {s : Sg} {tw b u : Int} {U : Int → Wd}
theorem cntF_le_n {p : Int → Bool} {c : Nat} : ∀ n : Nat, c ≤ n → cntF c p ≤ cntF n p := by
  intro n
  induction n with
  | zero => intro h; rw [show c = 0 by omega]; exact Int.le_refl _
  | succ n ih =>
    intro h
    by_cases z : c = n + 1
    · rw [z]; exact Int.le_refl _
    · have := ih (by omega)
      show cntF c p ≤ cntF n p + (if p n = true then 1 else 0)
      split <;> omega
theorem cntF_ext {p : Int → Bool} {n : Nat} : ∀ m : Nat, n ≤ m → (∀ k : Nat, n ≤ k → k < m → p k = false) → cntF m p = cntF n p := by
  intro m
  induction m with
  | zero => intro h _; rw [show n = 0 by omega]
  | succ m ih =>
    intro h hk
    by_cases z : n = m + 1
    · rw [z]
    · rw [cntF_n (hk m (by omega) (by omega)), ih (by omega) (fun k k0 k1 => hk k k0 (by omega))]
def colB (V : Wd) (q k : Int) : Bool := V 3 k != -1 && V 3 k / 4 == q
theorem cnt8 {q : Int} (hT : TOK T) (hW : WOK T V) (q0 : 0 ≤ q) (q1 : q < 16) : cntF 8 (colB V q) = V 5 q := by
  have b8 := hT.2.1
  have e := tall_eq (w := q / 4) (k := q % 4) hT hW (by omega) (by omega) (by omega) (by omega)
  rw [show 4 * (q / 4) + q % 4 = q by omega] at e
  rw [← e, cntF_ext (n := (T 1 1).toNat) 8 (by omega) (fun k k0 k1 => ?_)]
  · refine cntF_congr (fun k hk => ?_)
    unfold colB waP coP
    rcases hW.2.1.1 k (by omega) (by omega) with z | ⟨z1, z2, z3⟩
    · rw [z]
      simp
      omega
    · rw [if_neg (by omega), if_neg (by omega)]
      apply Bool.eq_iff_iff.mpr
      simp only [Bool.and_eq_true, bne_iff_ne, ne_eq, beq_iff_eq]
      omega
  · unfold colB
    have : V 3 k = -1 := Classical.byContradiction (fun z => by
      have := (hW.2.2.2 k (by omega) (by omega) z).1
      omega)
    simp [this]
theorem WN.upA {B : Wd} {c v : Int} (h : WN T B) (v0 : 0 ≤ v) (v6 : v < 6) (vh : c < T 1 1 → v < T 1 0) : WN T (ups B 1 c v) := by
  obtain ⟨n1, n2, n3, n4, n5⟩ := h
  have e0 : ups B 1 c v 0 = B 0 := ups_at _ (by decide)
  have e2 : ups B 1 c v 2 = B 2 := ups_at _ (by decide)
  unfold WN
  rw [e0, e2]
  refine ⟨n1, n2, n3, fun k k0 k8 => ?_, fun k k0 k1 => ?_⟩
  · by_cases z : k = c
    · rw [z, ups_eq]; exact ⟨⟨v0, v6⟩, (n4 c (by omega) (by omega)).2⟩
    · rw [ups_k _ z]; exact n4 k k0 k8
  · by_cases z : k = c
    · rw [z, ups_eq]; exact vh (by omega)
    · rw [ups_k _ z]; exact n5 k k0 k1
theorem WN.upB {B : Wd} {c v : Int} (h : WN T B) (v0 : 0 ≤ v) (v9 : v ≤ 999) : WN T (ups B 2 c v) := by
  obtain ⟨n1, n2, n3, n4, n5⟩ := h
  have e0 : ups B 2 c v 0 = B 0 := ups_at _ (by decide)
  have e1 : ups B 2 c v 1 = B 1 := ups_at _ (by decide)
  unfold WN
  rw [e0, e1]
  refine ⟨n1, n2, n3, fun k k0 k8 => ⟨(n4 k k0 k8).1, ?_⟩, n5⟩
  by_cases z : k = c
  · rw [z, ups_eq]; exact ⟨v0, v9⟩
  · rw [ups_k _ z]; exact (n4 k k0 k8).2
theorem CZ.upA {X : WX} {bb i v : Int} (h : CZ s 48 tw T X bb) (hn : WN T (ups X.1 1 i v)) : CZ (ups s (48 + 1) i v) 48 tw T (ups X.1 1 i v, X.2) bb := by
  obtain ⟨q1, q2, q3, q4⟩ := h
  exact ⟨q1.up (by omega) (by omega) hn, by rw [ups_at s (by omega)]; exact q2, by rw [ups_at s (by omega)]; exact q3, by rw [ups_at s (by omega)]; exact q4⟩
/-- the first c children of V are back -/
def BK (V B : Wd) (c : Nat) : Prop := B 0 1 = V 0 1 ∧ B 0 2 = V 0 2 ∧ B 0 9 = V 0 9 ∧ (∀ k : Int, 0 ≤ k → k < (c : Int) → B 1 k = V 1 k ∧ B 2 k = V 2 k) ∧ (∀ k, 0 ≤ k → k < 8 → B 3 k = if k < c then V 3 k else -1) ∧ (∀ p, 0 ≤ p → p < 64 → B 4 p = if V 4 p ≠ -1 ∧ V 4 p < c then V 4 p else -1) ∧ (∀ q, 0 ≤ q → q < 16 → B 5 q = cntF c (colB V q))
theorem back_loop {ro : Int} {Q : Int → Sg → Prop} (hT : TOK T) (hV : WOK T V) (r0 : 67 ≤ ro) (r1 : ro ≤ 86) (hP : PK s ro V) (hQ : ∀ (s1 : Sg) (B : Wd) (w f bb : Int), CZ s1 48 tw T (B, w, f) bb → BK V B 8 → Fr (Jw 48) s s1 → Q 1 (cpy s1 ro 11 (48 + 6) 0 60)) :
    ∀ (n c : Nat) (s0 : Sg) (B : Wd) (w f bb : Int), c + n = 8 → CZ s0 48 tw T (B, w, f) bb → BK V B c → Fr (Jw 48) s s0 → P_X1_takeBack_72 g (e + 1) Q s0 48 ro c := by
  intro n
  induction n with
  | zero =>
    intro c s0 B w f bb hc hx hB hf
    have : c = 8 := by omega
    subst this
    refine S_X1_takeBack_72 ⟨fun _ s1 e1 => ?_, fun q => absurd (by decide) q⟩
    rw [e1]
    exact hQ s0 B w f bb hx hB hf
  | succ n ih =>
    intro c s0 B w f bb hc hx hB hf
    obtain ⟨b1, b2, b3, b4, b5, b6, b7⟩ := hB
    have cc := hV.1.2.2.2.1 c (by omega) (by omega)
    have ch := hV.1.2.2.2.2 c (by omega)
    have cp := hV.2.1.1 c (by omega) (by omega)
    have est : s0 ro (3 + c) = V 2 c * 4096 + (V 3 c + 1) * 16 + V 1 c := by rw [hf ro (by unfold Jw Jk; omega)]; exact hP.2.2.2.1 c (by omega) (by omega)
    refine S_X1_takeBack_72 ?_
    rw [w32_of (show _ ≤ 3 + (c : Int) by omega) (by omega), est, w32_of (show _ ≤ (c : Int) + 1 by omega) (by omega)]
    have s12 : bShr (V 2 c * 4096 + (V 3 c + 1) * 16 + V 1 c) 12 = V 2 c := by
      rw [bShr_n ⟨by omega, by omega⟩ (by decide) (by decide)]
      show (V 2 c * 4096 + (V 3 c + 1) * 16 + V 1 c) / 4096 = V 2 c
      omega
    have s4 : bShr (V 2 c * 4096 + (V 3 c + 1) * 16 + V 1 c) 4 = V 2 c * 256 + (V 3 c + 1) := by
      rw [bShr_n ⟨by omega, by omega⟩ (by decide) (by decide)]
      show (V 2 c * 4096 + (V 3 c + 1) * 16 + V 1 c) / 16 = V 2 c * 256 + (V 3 c + 1)
      omega
    have m8 : bAnd (V 2 c * 256 + (V 3 c + 1)) 255 = V 3 c + 1 := by
      have := bAnd_mod (a := V 2 c * 256 + (V 3 c + 1)) (n := 8) (by omega) (by omega) (by decide)
      rw [show (((2 ^ 8 - 1 : Nat)) : Int) = 255 from rfl] at this
      rw [this]
      show (V 2 c * 256 + (V 3 c + 1)) % 256 = _
      omega
    have m4 : bAnd (V 2 c * 4096 + (V 3 c + 1) * 16 + V 1 c) 15 = V 1 c := by
      have := bAnd_mod (a := V 2 c * 4096 + (V 3 c + 1) * 16 + V 1 c) (n := 4) (by omega) (by omega) (by decide)
      rw [show (((2 ^ 4 - 1 : Nat)) : Int) = 15 from rfl] at this
      rw [this]
      show (V 2 c * 4096 + (V 3 c + 1) * 16 + V 1 c) % 16 = _
      omega
    rw [s12, s4, m8, m4]
    refine ⟨fun q => by omega, fun _ => ⟨⟨by omega, by omega⟩, ⟨by omega, by omega⟩, fun s2 e2 => ⟨⟨by omega, by omega⟩, fun s3 e3 => ?_⟩⟩⟩
    have x2 := hx.up2 (i := c) (v := V 2 c) (hx.1.n.upB cc.2.1 cc.2.2)
    rw [← e2] at x2
    have x3 := x2.upA (i := c) (v := V 1 c) (x2.1.n.upA cc.1.1 cc.1.2 (fun q => ch q))
    rw [← e3] at x3
    have f3 : Fr (Jw 48) s s3 := by rw [e3, e2]; exact (hf.tr (Fr.up (Jw_in (by decide) (by decide)))).tr (Fr.up (Jw_in (by decide) (by decide)))
    generalize hC : ups (ups B 2 c (V 2 c)) 1 c (V 1 c) = C at *
    have C0 : C 0 = B 0 := by rw [← hC, ups_at _ (by decide), ups_at _ (by decide)]
    have C3 : C 3 = B 3 := by rw [← hC, ups_at _ (by decide), ups_at _ (by decide)]
    have C4 : C 4 = B 4 := by rw [← hC, ups_at _ (by decide), ups_at _ (by decide)]
    have C5 : C 5 = B 5 := by rw [← hC, ups_at _ (by decide), ups_at _ (by decide)]
    have C1 : ∀ k : Int, 0 ≤ k → k < (c : Int) + 1 → C 1 k = V 1 k ∧ C 2 k = V 2 k := fun k k0 k1 => by
      rw [← hC]
      by_cases z : k = c
      · rw [z, ups_eq, ups_o _ (by decide), ups_eq]; exact ⟨rfl, rfl⟩
      · rw [ups_k _ z, ups_o _ (by decide), ups_o _ (by decide), ups_k _ z]; exact b4 k k0 (by omega)
    have x3 : CZ s3 48 tw T (C, w, f) bb := x3
    refine ⟨fun q => ?_, fun q => ?_⟩
    · have v3 : V 3 c = -1 := by omega
      rw [show (c : Int) + 1 = ((c + 1 : Nat) : Int) by omega]
      refine ih (c + 1) s3 C w f bb (by omega) x3 ⟨by rw [C0]; exact b1, by rw [C0]; exact b2, by rw [C0]; exact b3, fun k k0 k1 => C1 k k0 (by omega), fun k k0 k1 => ?_, fun p p0 p1 => ?_, fun q q0 q1 => ?_⟩ f3
      · rw [C3, b5 k k0 k1]
        by_cases z : k = c
        · rw [z, if_neg (by omega), if_pos (by omega), v3]
        · by_cases y : k < c
          · rw [if_pos y, if_pos (by omega)]
          · rw [if_neg y, if_neg (by omega)]
      · rw [C4, b6 p p0 p1]
        have : V 4 p ≠ c := fun z => by
          rcases hV.2.1.2 p p0 p1 with y | ⟨y1, y2, y3⟩
          · omega
          · rw [z, v3] at y3; omega
        by_cases y : V 4 p ≠ -1 ∧ V 4 p < c
        · rw [if_pos y, if_pos ⟨y.1, by omega⟩]
        · rw [if_neg y, if_neg (fun u => y ⟨u.1, by omega⟩)]
      · rw [C5, b7 q q0 q1, cntF_n (by unfold colB; simp [v3])]
    · have v3 : 0 ≤ V 3 c ∧ V 3 c < 64 ∧ V 4 (V 3 c) = c := by omega
      rw [w32_of (by omega) (by omega), show V 3 c + 1 - 1 = V 3 c by omega]
      have h5 : C 5 (V 3 c / 4) = cntF c (colB V (V 3 c / 4)) := by rw [C5]; exact b7 _ (by omega) (by omega)
      have hb5 := cntF_le c (colB V (V 3 c / 4))
      have hm := cntF_le_n (p := colB V (V 3 c / 4)) (c := c) 8 (by omega)
      rw [cnt8 hT hV (by omega) (by omega)] at hm
      have h4 := (hV.2.2.1 (V 3 c / 4) (by omega) (by omega)).2.1
      refine (C_put x3 (by omega) (by omega) v3.1 v3.2.1 (by show 0 ≤ C 5 (V 3 c / 4) ∧ C 5 (V 3 c / 4) ≤ 4; rw [h5]; omega)).imp (fun _ s5 h5' => ?_)
      rw [show (c : Int) + 1 = ((c + 1 : Nat) : Int) by omega]
      refine ih (c + 1) s5 (putA C c (V 3 c)) w f bb (by omega) h5'.1 ⟨by rw [putA_0, C0]; exact b1, by rw [putA_0, C0]; exact b2, by rw [putA_0, C0]; exact b3, fun k k0 k1 => by rw [putA_1, putA_2]; exact C1 k k0 (by omega), fun k k0 k1 => ?_, fun p p0 p1 => ?_, fun q q0 q1 => ?_⟩ ?_
      · rw [putA_3, C3, b5 k k0 k1]
        by_cases z : k = c
        · rw [if_pos z, z, if_pos (by omega)]
        · rw [if_neg z]
          by_cases y : k < c
          · rw [if_pos y, if_pos (by omega)]
          · rw [if_neg y, if_neg (by omega)]
      · rw [putA_4, C4, b6 p p0 p1]
        by_cases z : p = V 3 c
        · rw [if_pos z, z, v3.2.2, if_pos ⟨by omega, by omega⟩]
        · rw [if_neg z]
          have : V 4 p ≠ c := fun y => by
            rcases hV.2.1.2 p p0 p1 with k | ⟨_, _, k⟩
            · omega
            · rw [y] at k; exact z k.symm
          by_cases y : V 4 p ≠ -1 ∧ V 4 p < c
          · rw [if_pos y, if_pos ⟨y.1, by omega⟩]
          · rw [if_neg y, if_neg (fun u => y ⟨u.1, by omega⟩)]
      · rw [putA_5, C5, b7 q q0 q1]
        by_cases z : q = V 3 c / 4
        · rw [if_pos z, cntF_s (by unfold colB; rw [z]; simp; omega)]
        · rw [if_neg z, cntF_n (by
            unfold colB
            simp
            intro _
            omega)]
      · exact f3.tr h5'.2
theorem BK.eq {B : Wd} (hT : TOK T) (hV : WOK T V) (h : BK V B 8) : WEq V B := by
  obtain ⟨b1, b2, b3, b4, b5, b6, b7⟩ := h
  refine ⟨b1, b2, fun k k0 k1 => ⟨(b4 k k0 (by omega)).1, (b4 k k0 (by omega)).2, by rw [b5 k k0 k1, if_pos (show k < ((8 : Nat) : Int) by omega)]⟩, fun p p0 p1 => ?_, fun q q0 q1 => by rw [b7 q q0 q1]; exact cnt8 hT hV q0 q1⟩
  rw [b6 p p0 p1]
  rcases hV.2.1.2 p p0 p1 with z | ⟨z1, z2, z3⟩
  · rw [if_neg (fun y => y.1 z), z]
  · rw [if_pos (show V 4 p ≠ -1 ∧ V 4 p < ((8 : Nat) : Int) by omega)]
theorem C_takeBack (hx : CX s 48 tw T A) (hU : UC s u U) (hO : UOK T u U) : Mw g (e + 3) M_X1_takeBack [(10, 65), (19, 48)] s (fun r s' => (u = 0 → r = 0 ∧ s' = s) ∧ (u ≠ 0 → r = 1 ∧ ∃ B, CX s' 48 tw T B ∧ WOK T B ∧ WEq (U (u - 1)) B ∧ B 0 9 = U (u - 1) 0 9 ∧ (∀ k, 0 ≤ k → k < 60 → B 6 k = U (u - 1) 6 k) ∧ UC s' (u - 1) U ∧ Fr (fun o => Jw 48 o ∨ o = 65) s s')) := by
  obtain ⟨u1, u2, u3, u4⟩ := hU
  have hT := hx.ok
  refine S_X1_takeBack (fun _ => ?_)
  rw [u1]
  refine ⟨fun q s1 e1 s2 e2 => ?_, fun q => ⟨fun _ => ⟨rfl, rfl⟩, fun z => absurd q z⟩⟩
  rw [w32_of (by omega) (by omega)] at e1
  have q2 : s1 65 2 = s 65 2 := by rw [e1, ups_k _ (by decide)]
  rw [q2, w32_of (show _ ≤ s 65 2 + 20 by omega) (by omega), w32_of (by omega) (by omega), tm_of (by omega)] at e2
  have n2 : s2 65 2 = (s 65 2 + 20 - 1) % 20 := by rw [e2, ups_eq]
  have a2 : ∀ o, o ≠ 65 → s2 o = s o := fun o ho => by rw [e2, ups_at _ ho, e1, ups_at _ ho]
  rw [n2]
  refine ⟨⟨by omega, by omega⟩, fun s3 e3 s4 e4 s5 e5 => Mw.ex C_clearWalls ?_⟩
  have hV := hO (u - 1) (by omega) (by omega)
  have hP := u4 (u - 1) (by omega) (by omega)
  rw [show (s 65 2 - u + (u - 1)) % 20 = (s 65 2 + 20 - 1) % 20 by omega] at hP
  generalize hro : 67 + (s 65 2 + 20 - 1) % 20 = ro at *
  generalize hVd : U (u - 1) = V at *
  have ror : 67 ≤ ro ∧ ro ≤ 86 := by omega
  have hP2 : PK s2 ro V := hP.fr (a2 _ (by omega))
  have p3 : s2 ro 0 = V 0 1 := hP2.1
  have p4 : s3 ro 1 = V 0 2 := by rw [e3, ups_at _ (by omega)]; exact hP2.2.1
  have p5 : s4 ro 2 = V 0 9 := by rw [e4, ups_at _ (by omega), e3, ups_at _ (by omega)]; exact hP2.2.2.1
  rw [p3] at e3
  rw [p4] at e4
  rw [p5] at e5
  have a5 : ∀ o, o ≠ 48 → s5 o = s2 o := fun o ho => by rw [e5, ups_at _ ho, e4, ups_at _ ho, e3, ups_at _ ho]
  generalize hs6 : clrS s5 48 = s6
  have a6 : ∀ o, ¬ (51 ≤ o ∧ o ≤ 53) → s6 o = s5 o := fun o ho => by rw [← hs6, clrS_at _ (by omega) (by omega) (by omega)]
  have f6 : Fr (Jw 48) s2 s6 := fun o ho => by
    have h48 : o ≠ 48 := fun z => ho (by rw [z]; exact Jw_0)
    have h51 : ¬ (51 ≤ o ∧ o ≤ 53) := fun z => ho (Or.inl ⟨by omega, by omega⟩)
    rw [a6 o h51, a5 o h48]
  have t48 : ∀ k, k ≠ 1 → k ≠ 2 → k ≠ 9 → s6 48 k = s 48 k := fun k k1 k2 k9 => by
    rw [a6 48 (by omega), e5, ups_k _ k9, e4, ups_k _ k2, e3, ups_k _ k1, a2 48 (by decide)]
  have y48 : s6 48 1 = V 0 1 := by rw [a6 48 (by omega), e5, ups_k _ (by decide), e4, ups_k _ (by decide), e3, ups_eq]
  have z48 : s6 48 2 = V 0 2 := by rw [a6 48 (by omega), e5, ups_k _ (by decide), e4, ups_eq]
  have k48 : s6 48 9 = V 0 9 := by rw [a6 48 (by omega), e5, ups_eq]
  have v0 : vwW s6 48 0 = s6 48 := by show s6 (48 + 0) = _; rw [Int.add_zero]
  have v1 : vwW s6 48 1 = A 1 := by show s6 49 = _; rw [a6 49 (by omega), a5 49 (by decide), a2 49 (by decide)]; exact hx.o49
  have v2 : vwW s6 48 2 = A 2 := by show s6 50 = _; rw [a6 50 (by omega), a5 50 (by decide), a2 50 (by decide)]; exact hx.o50
  have w3 : ∀ k, 0 ≤ k → k < 8 → vwW s6 48 3 k = -1 := fun k k0 k1 => by
    show s6 (48 + 3) k = _
    rw [← hs6]; unfold clrS; rw [fil_at _ (by decide), fil_at _ (by decide), fil_in _ k0 k1]
  have w4 : ∀ k, 0 ≤ k → k < 64 → vwW s6 48 4 k = -1 := fun k k0 k1 => by
    show s6 (48 + 4) k = _
    rw [← hs6]; unfold clrS; rw [fil_at _ (by decide), fil_in _ k0 k1]
  have w5 : ∀ k, 0 ≤ k → k < 16 → vwW s6 48 5 k = 0 := fun k k0 k1 => by
    show s6 (48 + 5) k = _
    rw [← hs6]; unfold clrS; rw [fil_in _ k0 k1]
  have tw2 := hx.2.1
  have c2 : CT s2 tw T := hx.2.2.2.1.fr (J := fun o => o = 65) (fun o ho => a2 o ho) (fun o o1 o2 o3 => by unfold isT at tw2; omega)
  have x6 : CZ s6 48 tw T (vwW s6 48, s6 48 10, s6 48 11) (s6 48 12) := by
    refine ⟨⟨hx.1, tw2, by rw [t48 0 (by decide) (by decide) (by decide)]; exact hx.tp, c2.fr f6 (fun o o1 o2 o3 q => ?_), vwW_cw _ _, hT, ?_⟩, rfl, rfl, rfl⟩
    · unfold isT at tw2
      unfold Jw Jk at q
      omega
    · show WN T (vwW s6 48)
      unfold WN
      rw [v0, v1, v2, y48, z48, k48]
      exact ⟨hV.1.1.1, hV.1.1.2.1, hV.1.1.2.2.1, hx.n.2.2.2.1, hx.n.2.2.2.2⟩
  have hBK : BK V (vwW s6 48) 0 := by
    refine ⟨by rw [v0]; exact y48, by rw [v0]; exact z48, by rw [v0]; exact k48, fun k k0 k1 => by omega, fun k k0 k1 => by rw [if_neg (by omega)]; exact w3 k k0 k1, fun p p0 p1 => ?_, fun q q0 q1 => w5 q q0 q1⟩
    rw [w4 p p0 p1, if_neg]
    rintro ⟨z1, z2⟩
    rcases hV.1.2.1.2 p p0 p1 with y | ⟨y, _, _⟩
    · exact z1 y
    · omega
  have := back_loop (g := g) (e := e + 1) (s := s2) (tw := tw) (ro := ro) (Q := fun r s' => (u = 0 → r = 0 ∧ s' = s) ∧ (u ≠ 0 → r = 1 ∧ ∃ B, CX s' 48 tw T B ∧ WOK T B ∧ WEq V B ∧ B 0 9 = V 0 9 ∧ (∀ k, 0 ≤ k → k < 60 → B 6 k = V 6 k) ∧ UC s' (u - 1) U ∧ Fr (fun o => Jw 48 o ∨ o = 65) s s')) hT hV.1 ror.1 ror.2 hP2 (fun s7 B w f bb x7 b7 f7 => ⟨fun z => absurd z q, fun _ => ⟨rfl, ?_⟩⟩) 8 0 s6 (vwW s6 48) _ _ _ (by decide) x6 hBK f6
  · exact this
  · have hE := b7.eq hT hV.1
    generalize hs8 : cpy s7 ro 11 (48 + 6) 0 60 = s8
    have a8 : ∀ o, o ≠ 54 → s8 o = s7 o := fun o ho => by rw [← hs8, cpy_at _ (by omega)]
    have f8 : Fr (fun o => o = 54) s7 s8 := fun o ho => a8 o ho
    have e54 : ∀ k, 0 ≤ k → k < 60 → s8 54 k = V 6 k := fun k k0 k1 => by
      rw [← hs8]
      unfold cpy
      rw [if_pos ⟨by decide, by omega, by omega⟩, f7 ro (by unfold Jw Jk; omega), show 11 + (k - 0) = 11 + k by omega]
      exact hP2.2.2.2.2 k k0 k1
    have x7' := x7.1
    generalize hB8 : vwW s8 48 = B8
    have d0 : ∀ a, 1 ≤ a → a ≤ 5 → B8 a = B a := fun a a1 a5 => by
      rw [← hB8]
      show s8 (48 + a) = _
      rw [a8 _ (by omega)]
      exact x7'.2.2.2.2.1.2.2.2 a a1 (by omega)
    have d1 : B8 0 1 = B 0 1 := by rw [← hB8]; show s8 (48 + 0) 1 = _; rw [Int.add_zero, a8 _ (by decide)]; exact x7'.y
    have d2 : B8 0 2 = B 0 2 := by rw [← hB8]; show s8 (48 + 0) 2 = _; rw [Int.add_zero, a8 _ (by decide)]; exact x7'.en
    have d9 : B8 0 9 = B 0 9 := by rw [← hB8]; show s8 (48 + 0) 9 = _; rw [Int.add_zero, a8 _ (by decide)]; exact x7'.kc
    have hE8 : WEq V B8 := ⟨by rw [d1]; exact hE.1, by rw [d2]; exact hE.2.1, fun k k0 k1 => by rw [d0 1 (by decide) (by decide), d0 2 (by decide) (by decide), d0 3 (by decide) (by decide)]; exact hE.2.2.1 k k0 k1, fun k k0 k1 => by rw [d0 4 (by decide) (by decide)]; exact hE.2.2.2.1 k k0 k1, fun k k0 k1 => by rw [d0 5 (by decide) (by decide)]; exact hE.2.2.2.2 k k0 k1⟩
    have k9 : B8 0 9 = V 0 9 := by rw [d9]; exact b7.2.2.1
    have hW8 := hV.1.weq hE8 (by rw [k9]; exact hV.1.1.2.2.1) hT.2.1.2
    have fA : Fr (fun o => Jw 48 o ∨ o = 65) s s8 := by
      refine Fr.tr (s2 := s2) (fun o ho => a2 o (fun z => ho (Or.inr z))) ((f7.wk (fun o ho => Or.inl ho)).tr (f8.wk (fun o ho => Or.inl ?_)))
      rw [ho]; exact Jw_in (th := 48) (a := 6) (by decide) (by decide)
    refine ⟨B8, ⟨x7'.1, x7'.2.1, by rw [a8 48 (by decide)]; exact x7'.tp, x7'.2.2.2.1.fr f8 (fun o o1 o2 o3 => by unfold isT at tw2; omega), by rw [← hB8]; exact vwW_cw _ _, hT, hW8.1⟩, hW8, hE8, k9, fun k k0 k1 => by rw [← hB8]; exact e54 k k0 k1, ?_, fA⟩
    have e65 : s8 65 = s2 65 := by rw [a8 65 (by decide), f7 65 (by unfold Jw Jk; omega)]
    refine ⟨by rw [e65, e2, ups_k _ (by decide), e1, ups_eq], by omega, by rw [e65, n2]; omega, fun i i0 i1 => ?_⟩
    rw [e65, n2, show ((s 65 2 + 20 - 1) % 20 - (u - 1) + i) % 20 = (s 65 2 - u + i) % 20 by omega]
    refine (u4 i i0 (by omega)).fr ?_
    rw [a8 _ (by omega), f7 _ (by unfold Jw Jk; omega), a2 _ (by omega)]
end BACK
