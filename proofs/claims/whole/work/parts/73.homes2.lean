/-! homes: telling of the class; the reference's homes -/
def hoA (T : Tn) (bo H v : Int) : Int := if v = 0 then H else if v = 1 then hoT T bo H else -1
/-- of n homes how many are most alike behind y years -/
def moY (T : Tn) (bo H : Int) (y : Nat) : Int := moF (T 1 0).toNat H (fun h => sbS T bo h y)
/-- a set of homes of the town -/
def isH (T : Tn) (H : Int) : Prop := (0 ≤ H ∧ H < 64) ∧ ∀ k : Nat, (T 1 0).toNat ≤ k → H.toNat.testBit k = false
section HOMES2
variable {g : GT} {e : Nat} {s : Sg} {tw b bo n u H : Int} {T : Tn} {A : Wd} {U : Int → Wd} {m : Nat} {Y Z : Int → Int}
theorem ct_37 {Q : Int → Sg → Prop} {best few : Int} {y : Nat} (hT : TOK T) (hF : TF T) (hw : isT tw) (hH : isH T H) (h87 : s 87 0 = H) (h871 : s 87 1 = bo) (b0 : 0 ≤ bo) (b9 : bo ≤ 99) (hy : (y : Int) < T 0 15 - T 0 14)
    (hq : ∀ s4, CT s4 tw T → (∀ h, 0 ≤ h → h < T 1 0 → s4 88 h = sbS T bo h (y + 1)) → Fr Js s s4 → (moY T bo H (y + 1) < few → P_X7_telling_25 g (e + 5) Q s4 tw ((y : Int) + 1) (moY T bo H (y + 1)) ((y : Int) + 1 + 1)) ∧ (¬ moY T bo H (y + 1) < few → P_X7_telling_25 g (e + 5) Q s4 tw best few ((y : Int) + 1 + 1))) :
    ∀ (j i : Nat) (s0 : Sg), (i : Int) + j = T 1 0 → CT s0 tw T → (∀ h : Int, 0 ≤ h → h < i → s0 88 h = sbS T bo h (y + 1)) → (∀ h, (i : Int) ≤ h → h < T 1 0 → s0 88 h = sbS T bo h y) → Fr Js s s0 →
    P_X7_telling_37 g (e + 5) Q s0 tw best few ((y : Int) + 1) i := by
  have t6 := hT.1
  have t14 := hT.2.2.2.2.2.2.2.2.2.1
  intro j
  induction j with
  | zero =>
    intro i s0 hi hx ha hc hf
    refine S_X7_telling_37 (Mw.ex (C_homeC hx) ⟨fun _ => ?_, fun q => absurd (by omega) q⟩)
    refine Mw.ex (C_mostAlike (H := H) (by rw [hf 87 (by unfold Js Jk; omega)]; exact h87) hH.1.1 hH.1.2) ?_
    have em : moF 6 H (s0 88) = moY T bo H (y + 1) := by
      rw [moF_6 (n := (T 1 0).toNat) (by omega) hH.2]
      exact moF_congr (fun k hk => ha k (by omega) (by omega))
    rw [em, w32_of (show _ ≤ (y : Int) + 1 + 1 by omega) (by omega)]
    have := hq s0 hx (fun h h0 h1 => ha h h0 (by omega)) hf
    exact ⟨fun z => this.2 (by omega), fun z => this.1 (by omega)⟩
  | succ j ih =>
    intro i s0 hi hx ha hc hf
    refine S_X7_telling_37 (Mw.ex (C_homeC hx) ⟨fun q => by omega, fun _ => (C_raise7 hx hT hF hw (by omega) (by omega) (by rw [hf 87 (by unfold Js Jk; omega)]; exact h871) b0 b9 hy (hc i (by omega) (by omega))).imp (fun _ s6 q => ?_)⟩)
    obtain ⟨q1, q2, q3⟩ := q
    rw [w32_of (show _ ≤ (i : Int) + 1 by omega) (by omega)]
    refine ih (i + 1) s6 (by omega) (hx.fr q3 (fun o o1 o2 o3 z => js_tw hw o o1 o2 o3 (Or.inl z))) (fun h h0 h1 => ?_) (fun h h0 h1 => ?_) (hf.tr q3)
    · by_cases c : h = i
      · rw [c]; exact q1
      · rw [q2 h c]; exact ha h h0 (by omega)
    · rw [q2 h (by omega)]; exact hc h (by omega) h1
theorem ct_25 (hT : TOK T) (hF : TF T) (hw : isT tw) (hH : isH T H) (h87 : s 87 0 = H) (h871 : s 87 1 = bo) (b0 : 0 ≤ bo) (b9 : bo ≤ 99) :
    ∀ (j y : Nat) (s0 : Sg) (best few : Int), (y : Int) + j = T 0 15 - T 0 14 → CT s0 tw T → (∀ h, 0 ≤ h → h < T 1 0 → s0 88 h = sbS T bo h y) → Fr Js s s0 →
    P_X7_telling_25 g (e + 5) (fun r s' => r = teF (moY T bo H) j (y + 1) best few ∧ Fr Js s s') s0 tw best few ((y : Int) + 1) := by
  have t6 := hT.1
  intro j
  induction j with
  | zero =>
    intro y s0 best few hy hx ha hf
    exact S_X7_telling_25 (Mw.ex (C_span hx hT) ⟨fun _ => ⟨rfl, hf⟩, fun q => absurd (by omega) q⟩)
  | succ j ih =>
    intro y s0 best few hy hx ha hf
    refine S_X7_telling_25 (Mw.ex (C_span hx hT) ⟨fun q => by omega, fun _ => ?_⟩)
    refine ct_37 hT hF hw hH h87 h871 b0 b9 (by omega) (fun s4 x4 a4 f4 => ?_) (T 1 0).toNat 0 s0 (by omega) hx (fun h h0 h1 => by omega) (fun h h0 h1 => ha h (by omega) h1) hf
    refine ⟨fun z => ?_, fun z => ?_⟩
    · have := ih (y + 1) s4 ((y : Int) + 1) (moY T bo H (y + 1)) (by omega) x4 a4 f4
      have et : teF (moY T bo H) (j + 1) (y + 1) best few = teF (moY T bo H) j (y + 1 + 1) ((y : Int) + 1) (moY T bo H (y + 1)) := by
        show (if moY T bo H (y + 1) < few then _ else _) = _
        rw [if_pos z]; rfl
      rw [et]
      exact this
    · have := ih (y + 1) s4 best few (by omega) x4 a4 f4
      have et : teF (moY T bo H) (j + 1) (y + 1) best few = teF (moY T bo H) j (y + 1 + 1) best few := by
        show (if moY T bo H (y + 1) < few then _ else _) = _
        rw [if_neg z]
      rw [et]
      exact this
theorem C_telling (hT : TOK T) (hF : TF T) (hw : isT tw) (hx : CT s tw T) (hH : isH T H) (h87 : s 87 0 = H) (h871 : s 87 1 = bo) (b0 : 0 ≤ bo) (b9 : bo ≤ 99) : Mw g (e + 6) M_X7_telling [(16, 87), (18, tw)] s (fun r s' => r = hoT T bo H ∧ Fr Js s s') := by
  have t14 := hT.2.2.2.2.2.2.2.2.2.1
  have t6 := hT.1
  refine S_X7_telling (fun _ => ?_)
  rw [h87]
  unfold hoT
  refine ⟨fun q => Mw.ex C_fill34 ?_, fun q => ⟨by rw [if_pos q], Fr.rf⟩⟩
  rw [if_neg q]
  have f2 : Fr Js s (fil s 88 6 0) := fun o ho => fil_at s (fun z => ho (Or.inr z))
  exact ct_25 hT hF hw hH h87 h871 b0 b9 (T 0 15 - T 0 14).toNat 0 _ (-1) 7 (by omega) (hx.fr f2 (fun o o1 o2 o3 z => js_tw hw o o1 o2 o3 (Or.inl z))) (fun h h0 h1 => by rw [fil_in s h0 (by omega)]; rfl) f2
theorem C_homes {v : Int} (hs : CS s tw T A u U) (hH : isH T H) (h87 : s 87 0 = H) (h871 : s 87 1 = bo) (b0 : 0 ≤ bo) (b9 : bo ≤ 99) : Mw g (e + 7) M_X12_homes [(20, 1), (0, v)] s (fun r s' => r = hoA T bo H v ∧ Fr Js s s') := by
  refine S_X12_homes (fun _ => ?_)
  unfold hoA
  refine ⟨fun z => ⟨by rw [if_pos z, h87], Fr.rf⟩, fun z => ?_, fun z => ⟨by rw [if_neg z.1, if_neg z.2], Fr.rf⟩⟩
  rw [if_neg (by omega), if_pos z, hs.1]
  exact C_telling hs.2.1.ok hs.2.2.2.1 hs.2.1.2.1 hs.2.1.2.2.2.1 hH h87 h871 b0 b9
/-! the reference -/
theorem hmS_isH (hT : TOK T) : isH T (hmS T bo m Y Z) := by
  refine ⟨hmS_bd hT, fun k hk => ?_⟩
  have l := setF_lt (T 1 0).toNat (fitS T bo m Y Z)
  refine Nat.testBit_lt_two_pow (Nat.lt_of_lt_of_le ?_ (Nat.pow_le_pow_right (by decide) hk))
  unfold hmS
  have : ((2 ^ (T 1 0).toNat : Nat) : Int) = 2 ^ (T 1 0).toNat := by norm_cast
  omega
theorem rh_105 {Q : Int → Sg → Prop} {best few v5 v6 : Int} {a : Nat} (hb : RB s b T) (hH : isH T H) (ha : (a : Int) < T 1 0)
    (hq : P_X13_homes_85 g (e + 7) Q s H best few v5 (max v6 (cntF (T 1 0).toNat (lkS H (s 138) a))) ((a : Int) + 1)) :
    ∀ (j o : Nat), (o : Int) + j = T 1 0 → P_X13_homes_105 g (e + 7) Q s H best few v5 v6 a (cntF o (lkS H (s 138) a)) o := by
  have t6 := hb.2.2.2.1.1
  have b2 := hb.2.1
  have H0 := hH.1
  intro j
  induction j with
  | zero =>
    intro o ho
    refine S_X13_homes_105 ?_
    rw [hb.1, hb.2.2.1.1.1, w32_of (show _ ≤ (a : Int) + 1 by omega) (by omega)]
    rw [show (T 1 0).toNat = o by omega] at hq
    refine ⟨⟨by omega, by omega⟩, fun _ => ⟨fun z => ?_, fun z => ?_⟩, fun q => absurd (by omega) q⟩
    · rw [show max v6 (cntF o (lkS H (s 138) a)) = v6 by omega] at hq; exact hq
    · rw [show max v6 (cntF o (lkS H (s 138) a)) = cntF o (lkS H (s 138) a) by omega] at hq; exact hq
  | succ j ih =>
    intro o ho
    have cb := cntF_le o (lkS H (s 138) a)
    have i := ih (o + 1) (by omega)
    refine S_X13_homes_105 ?_
    rw [hb.1, hb.2.2.1.1.1, Int.add_zero, w32_of (show _ ≤ (o : Int) + 1 by omega) (by omega), w32_of (show _ ≤ cntF o (lkS H (s 138) a) by omega) (by omega), w32_of (show _ ≤ cntF o (lkS H (s 138) a) + 1 by omega) (by omega)]
    have i0 : lkS H (s 138) a o = false → P_X13_homes_105 g (e + 7) Q s H best few v5 v6 a (cntF o (lkS H (s 138) a)) ((o : Int) + 1) := fun z => by
      rw [cntF_n z] at i; exact i
    have i1 : lkS H (s 138) a o = true → P_X13_homes_105 g (e + 7) Q s H best few v5 v6 a (cntF o (lkS H (s 138) a) + 1) ((o : Int) + 1) := fun z => by
      rw [cntF_s z] at i; exact i
    refine ⟨⟨by omega, by omega⟩, fun q => by omega, fun _ => Mw.ex (R_has2 H0.1 (by omega) (by omega) (by omega)) ⟨fun q => i0 ?_, fun q => Mw.ex (R_has2 H0.1 (by omega) (by omega) (by omega)) ⟨fun q2 => i0 ?_, fun q2 => ⟨⟨by omega, by omega⟩, ⟨by omega, by omega⟩, fun q3 => i0 ?_, fun q3 => i1 ?_⟩⟩⟩⟩
    · have : H.toNat.testBit (a : Int).toNat = false := by
        cases f : H.toNat.testBit (a : Int).toNat with
        | false => rfl
        | true => rw [if_pos f] at q; omega
      unfold lkS; rw [this]; rfl
    · have : H.toNat.testBit (o : Int).toNat = false := by
        cases f : H.toNat.testBit (o : Int).toNat with
        | false => rfl
        | true => rw [if_pos f] at q2; omega
      unfold lkS; rw [this]; simp
    · unfold lkS; rw [decide_eq_false q3]; simp
    · have w1 : H.toNat.testBit (a : Int).toNat = true := Classical.byContradiction (fun f => q (by rw [if_neg f]))
      have w2 : H.toNat.testBit (o : Int).toNat = true := Classical.byContradiction (fun f => q2 (by rw [if_neg f]))
      unfold lkS
      rw [w1, w2, decide_eq_true q3]; rfl
theorem rh_85 {Q : Int → Sg → Prop} {best few v5 : Int} (hb : RB s b T) (hH : isH T H)
    (hq : (moF (T 1 0).toNat H (s 138) < few → P_X13_homes_32 g (e + 7) Q s H v5 (moF (T 1 0).toNat H (s 138)) (w32 (v5 + 1))) ∧ (¬ moF (T 1 0).toNat H (s 138) < few → P_X13_homes_32 g (e + 7) Q s H best few (w32 (v5 + 1)))) :
    ∀ (j a : Nat), (a : Int) + j = T 1 0 → P_X13_homes_85 g (e + 7) Q s H best few v5 (mxF a (fun a => cntF (T 1 0).toNat (lkS H (s 138) a))) a := by
  have t6 := hb.2.2.2.1.1
  have b2 := hb.2.1
  intro j
  induction j with
  | zero =>
    intro a ha
    refine S_X13_homes_85 ?_
    rw [hb.1, hb.2.2.1.1.1]
    unfold moF at hq
    refine ⟨⟨by omega, by omega⟩, fun _ => ?_, fun q => absurd (by omega) q⟩
    have ea : a = (T 1 0).toNat := by omega
    rw [ea]
    exact hq
  | succ j ih =>
    intro a ha
    refine S_X13_homes_85 ?_
    rw [hb.1, hb.2.2.1.1.1]
    exact ⟨⟨by omega, by omega⟩, fun q => by omega, fun _ => rh_105 hb hH (by omega) (ih (a + 1) (by omega)) (T 1 0).toNat 0 (by omega)⟩
end HOMES2
