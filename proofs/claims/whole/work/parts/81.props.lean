/-! props: the stones in a wall (class) -/
/-- the stones that lie in wall w -/
def inW (A : Wd) (w : Int) (c : Int) : Bool := decide (A 3 c ≠ -1 ∧ A 3 c / 16 = w)
def stW (T : Tn) (A : Wd) (w : Int) : Int := setF (T 1 1).toNat (inW A w)
section PROPS
variable {g : GT} {e : Nat} {s : Sg} {T : Tn} {A : Wd} {tw w : Int}
theorem cp_5 {Q : Int → Sg → Prop} (hx : CX s 48 tw T A) (hW : WOK T A) (hq : P_X5_fewestProps_77 g (e + 1) Q s 48 w (stW T A w) (stW T A w) 0) :
    ∀ (j c : Nat), (c : Int) + j = T 1 1 → P_X5_fewestProps_5 g (e + 1) Q s 48 w (setF c (inW A w)) c := by
  have t8 := hx.ok.2.1
  intro j
  induction j with
  | zero =>
    intro c hc
    refine S_X5_fewestProps_5 ?_
    rw [hx.2.2.1]
    refine Mw.ex (C_childCount hx) ⟨fun _ => ?_, fun q => absurd (by omega) q⟩
    unfold stW at hq
    rw [show (T 1 1).toNat = c by omega] at hq
    exact hq
  | succ j ih =>
    intro c hc
    have i := ih (c + 1) (by omega)
    have pl := hW.2.1.1 c (by omega) (by omega)
    have n47 : inW A w c = false → P_X5_fewestProps_47 g (e + 1) Q s 48 w (setF c (inW A w)) c 0 := fun z => by
      rw [setF_n z] at i
      refine S_X5_fewestProps_47 ⟨fun _ => ?_, fun y => absurd rfl y⟩
      rw [bOr_0 (setF_R (by omega) _), w32_of (show _ ≤ (c : Int) + 1 by omega) (by omega)]
      exact i
    have y47 : inW A w c = true → P_X5_fewestProps_47 g (e + 1) Q s 48 w (setF c (inW A w)) c 1 := fun z => by
      rw [setF_s z] at i
      refine S_X5_fewestProps_47 ⟨fun y => by omega, fun _ => ?_⟩
      rw [setF_or (by omega), w32_of (show _ ≤ (c : Int) + 1 by omega) (by omega)]
      exact i
    refine S_X5_fewestProps_5 ?_
    rw [hx.2.2.1]
    refine Mw.ex (C_childCount hx) ⟨fun q => by omega, fun _ => ⟨⟨by omega, by omega⟩, ?_⟩⟩
    rw [hx.w3]
    refine ⟨fun z => S_X5_fewestProps_46 (n47 (decide_eq_false (fun y => y.1 z))), fun z => ⟨⟨by omega, by omega⟩, Mw.ex (C_wallAt (by omega)) ⟨fun z2 => S_X5_fewestProps_46 (n47 (decide_eq_false (fun y => z2 y.2))), fun z2 => y47 (decide_eq_true ⟨z, z2⟩)⟩⟩⟩
end PROPS
