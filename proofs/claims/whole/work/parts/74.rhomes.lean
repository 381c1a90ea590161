/-! homes of the reference -/
def Jn (o : Int) : Prop := Jm o ∨ o = 138
section RHOMES
variable {g : GT} {e : Nat} {s : Sg} {b bo H : Int} {T : Tn} {m : Nat} {Y Z : Int → Int}
theorem RB.jn {s2 : Sg} (h : RB s b T) (hf : Fr Jn s s2) : RB s2 b T := by
  refine ⟨?_, h.2.1, h.2.2.1.fr hf (fun o o1 o2 => by unfold Jn Jm; omega), h.2.2.2⟩
  rw [hf 92 (by unfold Jn Jm; omega)]; exact h.1
theorem RM.jn {s2 : Sg} (h : RM s T bo m Y Z) (hf : Fr Jn s s2) : RM s2 T bo m Y Z := by
  unfold RM
  rw [hf 92 (by unfold Jn Jm; omega), hf 136 (by unfold Jn Jm; omega), hf 137 (by unfold Jn Jm; omega)]
  exact h
theorem rh_44 {Q : Int → Sg → Prop} {best few : Int} {y : Nat} (hH : isH T H) (hm : RM s T bo m Y Z) (hb : RB s b T) (hy : (y : Int) ≤ T 0 15 - T 0 14)
    (hq : ∀ s4, Fr Jn s s4 → (moY T bo H y < few → P_X13_homes_32 g (e + 7) Q s4 H y (moY T bo H y) ((y : Int) + 1)) ∧ (¬ moY T bo H y < few → P_X13_homes_32 g (e + 7) Q s4 H best few ((y : Int) + 1))) :
    ∀ (j i : Nat) (s0 : Sg), (i : Int) + j = T 1 0 → (∀ h : Int, 0 ≤ h → h < i → s0 138 h = sbS T bo h y) → Fr Jn s s0 → P_X13_homes_44 g (e + 7) Q s0 H best few y i := by
  have t6 := hb.2.2.2.1.1
  have t14 := hb.2.2.2.1.2.2.2.2.2.2.2.2.2.1
  have b2 := hb.2.1
  have mb := hm.2.2.2.1
  intro j
  induction j with
  | zero =>
    intro i s0 hi ha hf
    have hb0 := hb.jn hf
    refine S_X13_homes_44 ?_
    rw [hb0.1, hb0.2.2.1.1.1]
    refine ⟨⟨by omega, by omega⟩, fun _ => ?_, fun q => absurd (by omega) q⟩
    have em : moF (T 1 0).toNat H (s0 138) = moY T bo H y := moF_congr (fun k hk => ha k (by omega) (by omega))
    refine rh_85 hb0 hH ?_ (T 1 0).toNat 0 (by omega)
    rw [em, w32_of (show _ ≤ (y : Int) + 1 by omega) (by omega)]
    exact hq s0 hf
  | succ j ih =>
    intro i s0 hi ha hf
    have hb0 := hb.jn hf
    refine S_X13_homes_44 ?_
    rw [hb0.1, hb0.2.2.1.1.1]
    refine ⟨⟨by omega, by omega⟩, fun q => by omega, fun _ => (R_strongBy hb0 (hm.jn hf).2.1 mb.1 mb.2 (by omega) (by omega) (by omega) (by omega)).imp (fun r s2 q => ⟨⟨by omega, by omega⟩, fun s3 e3 => ?_⟩)⟩
    rw [w32_of (show _ ≤ (i : Int) + 1 by omega) (by omega)]
    have f3 : Fr Jn s0 s3 := by rw [e3]; exact (q.2.wk (fun o ho => Or.inl ho)).tr (Fr.up (Or.inr rfl))
    refine ih (i + 1) s3 (by omega) (fun h h0 h1 => ?_) (hf.tr f3)
    rw [e3]
    by_cases c : h = i
    · rw [c, ups_eq, q.1, show ((y : Nat) : Int).toNat = y from Int.toNat_natCast y]
    · rw [ups_k _ c, q.2 138 (by unfold Jm; omega)]
      exact ha h h0 (by omega)
theorem rh_32 (hH : isH T H) : ∀ (j y : Nat) (s0 : Sg) (best few : Int), (y : Int) + j = T 0 15 - T 0 14 + 1 → 1 ≤ y → RB s0 b T → RM s0 T bo m Y Z → Fr Jn s s0 →
    P_X13_homes_32 g (e + 7) (fun r s' => r = teF (moY T bo H) j y best few ∧ Fr Jn s s') s0 H best few y := by
  intro j
  induction j with
  | zero =>
    intro y s0 best few hy y1 hb hm hf
    exact S_X13_homes_32 (Mw.ex (R_raises hb) ⟨fun _ => ⟨rfl, hf⟩, fun q => absurd (by omega) q⟩)
  | succ j ih =>
    intro y s0 best few hy y1 hb hm hf
    have t6 := hb.2.2.2.1.1
    refine S_X13_homes_32 (Mw.ex (R_raises hb) ⟨fun q => by omega, fun _ => ?_⟩)
    refine rh_44 hH hm hb (by omega) (fun s4 f4 => ⟨fun z => ?_, fun z => ?_⟩) (T 1 0).toNat 0 s0 (by omega) (fun h h0 h1 => by omega) Fr.rf
    · have et : teF (moY T bo H) (j + 1) y best few = teF (moY T bo H) j (y + 1) y (moY T bo H y) := by
        show (if moY T bo H y < few then _ else _) = _
        rw [if_pos z]
      rw [et]
      exact ih (y + 1) s4 y (moY T bo H y) (by omega) (by omega) (hb.jn f4) (hm.jn f4) (hf.tr f4)
    · have et : teF (moY T bo H) (j + 1) y best few = teF (moY T bo H) j (y + 1) best few := by
        show (if moY T bo H y < few then _ else _) = _
        rw [if_neg z]
      rw [et]
      exact ih (y + 1) s4 best few (by omega) (by omega) (hb.jn f4) (hm.jn f4) (hf.tr f4)
theorem R_homes {v : Int} (hb : RB s b T) (hm : RM s T bo m Y Z) : Mw g (e + 8) M_X13_homes [(21, 92), (0, v)] s (fun r s' => r = hoA T bo (hmS T bo m Y Z) v ∧ Fr Jn s s') := by
  have hT := hb.2.2.2.1
  have t6 := hT.1
  have t14 := hT.2.2.2.2.2.2.2.2.2.1
  refine S_X13_homes (fun _ => (R_homesBy hb hm).imp (fun r s2 q => ?_))
  have f2 : Fr Jn s s2 := q.2.wk (fun o ho => Or.inl ho)
  have hH := hmS_isH (bo := bo) (m := m) (Y := Y) (Z := Z) hT
  rw [q.1]
  generalize hmS T bo m Y Z = H at hH
  unfold hoA
  refine ⟨fun z => ⟨fun z2 => ⟨by rw [if_neg z, if_neg z2], f2⟩, fun z2 => ?_⟩, fun z => ⟨by rw [if_pos z], f2⟩⟩
  rw [if_neg z, if_pos z2]
  unfold hoT
  refine ⟨fun z3 => ?_, fun z3 => ⟨by rw [if_pos z3], f2⟩⟩
  rw [if_neg z3]
  have mb : moY T bo H 1 ≤ 6 := (moF_bd (by omega)).2
  have et : teF (fun y => moF (T 1 0).toNat H (fun h => sbS T bo h y)) (T 0 15 - T 0 14).toNat 1 (-1) 7 = teF (moY T bo H) (T 0 15 - T 0 14).toNat 1 (-1) 100000000 := teF_few (mo := moY T bo H) (by omega) (by omega) (by omega)
  rw [et]
  exact rh_32 hH (T 0 15 - T 0 14).toNat 1 s2 (-1) 100000000 (by omega) (by omega) (hb.jn f2) (hm.jn f2) f2
end RHOMES
