/-! seams: the words; the reference's strongBy, isHomeBy, homesBy -/
/-- how strong the stone of home h is behind n years, born in bo -/
def sbS (T : Tn) (bo h : Int) : Nat → Int
  | 0 => 0
  | n + 1 => groS T h (T 0 14 + n) (sbS T bo h n) (bo + (T 0 14 + n))
theorem sbS_bd {T : Tn} {bo h : Int} (n : Nat) : 0 ≤ sbS T bo h n ∧ sbS T bo h n ≤ 999 := by
  induction n with
  | zero => exact ⟨Int.le_refl 0, by show (0 : Int) ≤ 999; decide⟩
  | succ m ih => exact groS_bd ih
/-- home h fits the m rows Y (years), Z (strength) -/
def fitS (T : Tn) (bo : Int) (m : Nat) (Y Z : Int → Int) (h : Int) : Bool := allF m (fun k => decide (sbS T bo h (Y k).toNat = Z k))
/-- the homes that fit -/
def hmS (T : Tn) (bo : Int) (m : Nat) (Y Z : Int → Int) : Int := setF (T 1 0).toNat (fitS T bo m Y Z)
/-- the rows as the reference keeps them -/
def RM (s : Sg) (T : Tn) (bo : Int) (m : Nat) (Y Z : Int → Int) : Prop := s 92 68 = m ∧ s 92 69 = bo ∧ m ≤ 16 ∧ (0 ≤ bo ∧ bo ≤ 99) ∧ (∀ k, 0 ≤ k → k < m → s 136 k = Y k ∧ s 137 k = Z k) ∧ ∀ k, 0 ≤ k → k < m → 0 ≤ Y k ∧ Y k ≤ T 0 15 - T 0 14
section RSEAM
variable {g : GT} {e : Nat} {s : Sg} {b bo : Int} {T : Tn} {m : Nat} {Y Z : Int → Int}
theorem RM.jm {s2 : Sg} (h : RM s T bo m Y Z) (hf : Fr Jm s s2) : RM s2 T bo m Y Z := by
  unfold RM
  rw [hf 92 (by unfold Jm; omega), hf 136 (by unfold Jm; omega), hf 137 (by unfold Jm; omega)]
  exact h
theorem rs_loop {h n : Int} (h0 : 0 ≤ h) (h1 : h < T 1 0) (b0 : 0 ≤ bo) (b9 : bo ≤ 99) (n1 : n ≤ 30) : ∀ (m : Nat) (k : Nat) (s0 : Sg), k + m = n → RB s0 b T → s0 92 69 = bo → Fr Jm s s0 →
    P_X13_strongBy_5 g (e + 4) (fun r s' => r = sbS T bo h n.toNat ∧ Fr Jm s s') s0 h n (sbS T bo h k) k := by
  intro m
  induction m with
  | zero =>
    intro k s0 hk hb h69 hf
    exact S_X13_strongBy_5 ⟨fun _ => ⟨by rw [show n.toNat = k by omega], hf⟩, fun q => absurd (by omega) q⟩
  | succ m ih =>
    intro k s0 hk hb h69 hf
    have t14 := hb.2.2.2.1.2.2.2.2.2.2.2.2.2.1
    refine S_X13_strongBy_5 ⟨fun q => by omega, fun _ => Mw.ex (R_toldOf hb (by decide) (by decide)) (Mw.ex (R_toldOf hb (by decide) (by decide)) ?_)⟩
    rw [show (14 : Int) + 0 = 14 from rfl, h69, w32_of (show _ ≤ T 0 14 + (k : Int) by omega) (by omega), w32_of (show _ ≤ bo + T 0 14 by omega) (by omega), w32_of (show _ ≤ bo + T 0 14 + (k : Int) by omega) (by omega), w32_of (show _ ≤ (k : Int) + 1 by omega) (by omega), Int.add_assoc bo]
    refine (R_raised hb h0 h1 (by omega) (sbS_bd k) (by omega)).imp (fun r s2 q => ?_)
    rw [q.1]
    exact ih (k + 1) s2 (by omega) (hb.jm q.2) (by rw [q.2 92 (by unfold Jm; omega)]; exact h69) (hf.tr q.2)
theorem R_strongBy {h n : Int} (hb : RB s b T) (h69 : s 92 69 = bo) (b0 : 0 ≤ bo) (b9 : bo ≤ 99) (h0 : 0 ≤ h) (h1 : h < T 1 0) (n0 : 0 ≤ n) (n1 : n ≤ 30) : Mw g (e + 5) M_X13_strongBy [(21, 92), (0, h), (0, n)] s (fun r s' => r = sbS T bo h n.toNat ∧ Fr Jm s s') :=
  S_X13_strongBy (fun _ _ => rs_loop h0 h1 b0 b9 n1 n.toNat 0 s (by omega) hb h69 Fr.rf)
theorem ri_loop {h : Int} (h0 : 0 ≤ h) (h1 : h < T 1 0) : ∀ (j : Nat) (k : Nat) (s0 : Sg), k + j = m → RB s0 b T → RM s0 T bo m Y Z → Fr Jm s s0 → (∀ i : Nat, i < k → sbS T bo h (Y i).toNat = Z i) →
    P_X13_isHomeBy_2 g (e + 5) (fun r s' => r = (if fitS T bo m Y Z h = true then 1 else 0) ∧ Fr Jm s s') s0 h k := by
  intro j
  induction j with
  | zero =>
    intro k s0 hk hb hm hf ha
    refine S_X13_isHomeBy_2 ⟨fun _ => ⟨?_, hf⟩, fun q => absurd (by rw [hm.1]; omega) q⟩
    have f : fitS T bo m Y Z h = true := allF_iff.2 (fun i hi => decide_eq_true (ha i (by omega)))
    rw [if_pos f]
  | succ j ih =>
    intro k s0 hk hb hm hf ha
    have m16 := hm.2.2.1
    have r := hm.2.2.2.2.1 k (by omega) (by omega)
    have y := hm.2.2.2.2.2 k (by omega) (by omega)
    have t14 := hb.2.2.2.1.2.2.2.2.2.2.2.2.2.1
    refine S_X13_isHomeBy_2 ⟨fun q => by rw [hm.1] at q; omega, fun _ => ⟨⟨by omega, by omega⟩, ?_⟩⟩
    rw [r.1]
    refine (R_strongBy hb hm.2.1 hm.2.2.2.1.1 hm.2.2.2.1.2 h0 h1 y.1 (by omega)).imp (fun v s2 q => ⟨⟨by omega, by omega⟩, fun z => ?_, fun z => ⟨?_, hf.tr q.2⟩⟩)
    · rw [w32_of (by omega) (by omega)]
      have hm2 := hm.jm q.2
      refine ih (k + 1) s2 (by omega) (hb.jm q.2) hm2 (hf.tr q.2) (fun i hi => ?_)
      by_cases c : i = k
      · rw [c, ← q.1, z, (hm2.2.2.2.2.1 k (by omega) (by omega)).2]
      · exact ha i (by omega)
    · have hm2 := hm.jm q.2
      rw [if_neg (fun f => z ?_)]
      have := of_decide_eq_true (allF_iff.1 f k (by omega))
      rw [q.1, this, (hm2.2.2.2.2.1 k (by omega) (by omega)).2]
theorem R_isHomeBy {h : Int} (hb : RB s b T) (hm : RM s T bo m Y Z) (h0 : 0 ≤ h) (h1 : h < T 1 0) : Mw g (e + 6) M_X13_isHomeBy [(21, 92), (0, h)] s (fun r s' => r = (if fitS T bo m Y Z h = true then 1 else 0) ∧ Fr Jm s s') :=
  S_X13_isHomeBy (fun _ => ri_loop h0 h1 m 0 s (by omega) hb hm Fr.rf (fun i hi => by omega))
theorem rh_loop : ∀ (j : Nat) (k : Nat) (s0 : Sg), (k : Int) + j = T 1 0 → RB s0 b T → RM s0 T bo m Y Z → Fr Jm s s0 →
    P_X13_homesBy_4 g (e + 6) (fun r s' => r = hmS T bo m Y Z ∧ Fr Jm s s') s0 (setF k (fitS T bo m Y Z)) k := by
  intro j
  induction j with
  | zero =>
    intro k s0 hk hb hm hf
    have b2 := hb.2.1
    refine S_X13_homesBy_4 ?_
    rw [hb.1, hb.2.2.1.1.1]
    refine ⟨⟨by omega, by omega⟩, fun _ => ⟨?_, hf⟩, fun q => absurd (by omega) q⟩
    unfold hmS
    rw [show (T 1 0).toNat = k by omega]
  | succ j ih =>
    intro k s0 hk hb hm hf
    have b2 := hb.2.1
    have t6 := hb.2.2.2.1.1
    refine S_X13_homesBy_4 ?_
    rw [hb.1, hb.2.2.1.1.1]
    refine ⟨⟨by omega, by omega⟩, fun q => by omega, fun _ => (R_isHomeBy hb hm (by omega) (by omega)).imp (fun r s2 q => ?_)⟩
    have i := ih (k + 1) s2 (by omega) (hb.jm q.2) (hm.jm q.2) (hf.tr q.2)
    rw [w32_of (show _ ≤ (k : Int) + 1 by omega) (by omega)]
    refine ⟨fun z => ?_, fun z => ?_⟩
    · have c : fitS T bo m Y Z k = false := by
        cases f : fitS T bo m Y Z k with
        | false => rfl
        | true => rw [q.1, if_pos f] at z; omega
      rw [bOr_0 (setF_R (by omega) _)]
      rw [setF_n c] at i
      exact i
    · have c : fitS T bo m Y Z k = true := Classical.byContradiction (fun f => z (by rw [q.1, if_neg f]))
      rw [setF_or (by omega)]
      rw [setF_s c] at i
      exact i
theorem R_homesBy (hb : RB s b T) (hm : RM s T bo m Y Z) : Mw g (e + 7) M_X13_homesBy [(21, 92)] s (fun r s' => r = hmS T bo m Y Z ∧ Fr Jm s s') := by
  have t6 := hb.2.2.2.1.1
  exact S_X13_homesBy (rh_loop (T 1 0).toNat 0 s (by omega) hb hm Fr.rf)
theorem hmS_bd (hT : TOK T) : 0 ≤ hmS T bo m Y Z ∧ hmS T bo m Y Z < 64 := by
  have t6 := hT.1
  have l := setF_lt (T 1 0).toNat (fitS T bo m Y Z)
  have : (2 : Int) ^ (T 1 0).toNat ≤ 64 := by
    rcases (show (T 1 0).toNat = 0 ∨ (T 1 0).toNat = 1 ∨ (T 1 0).toNat = 2 ∨ (T 1 0).toNat = 3 ∨ (T 1 0).toNat = 4 ∨ (T 1 0).toNat = 5 ∨ (T 1 0).toNat = 6 by omega) with c | c | c | c | c | c | c <;> rw [c] <;> decide
  unfold hmS
  omega
end RSEAM
