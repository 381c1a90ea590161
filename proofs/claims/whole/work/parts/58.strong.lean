/-! strongest: both programs -/
def shF (T : Tn) (A : Wd) (c : Int) : Nat → Int → Int → Int → Int × Int
  | 0, _, bt, mo => (bt, mo)
  | n + 1, h, bt, mo => if swS T A c h ≤ mo then shF T A c n (h + 1) bt mo else shF T A c n (h + 1) h (swS T A c h)
/-- the home and how strong; the class begins with home 0, the reference with none: with a home at all both come out alike -/
def shS (T : Tn) (A : Wd) (c : Int) : Int × Int := shF T A c (T 1 0).toNat 0 0 (-1)
section STRONG
variable {T : Tn} {A : Wd}
theorem swF_bd {c h : Int} : ∀ (n : Nat) (v a : Int), 0 ≤ v → v ≤ 999 → 0 ≤ swF T c h n v a ∧ swF T c h n v a ≤ 999 := by
  intro n
  induction n with
  | zero => intro v a h0 h1; exact ⟨h0, h1⟩
  | succ n ih =>
    intro v a h0 h1
    have b := groS_bd (T := T) (h := h) (a := a) (y := T 9 c + a) ⟨h0, h1⟩
    exact ih _ _ b.1 b.2
theorem swS_bd {c h : Int} (hW : WN T A) (c0 : 0 ≤ c) (c8 : c < 8) : 0 ≤ swS T A c h ∧ swS T A c h ≤ 999 := by
  have b := (hW.2.2.2.1 c c0 c8).2
  exact swF_bd _ _ _ b.1 b.2
theorem shF_first {c : Int} (hW : WN T A) (c0 : 0 ≤ c) (c8 : c < 8) (n : Nat) (x y : Int) : shF T A c (n + 1) 0 x (-1) = shF T A c (n + 1) 0 y (-1) := by
  have b := swS_bd (h := 0) hW c0 c8
  show (if swS T A c 0 ≤ -1 then _ else shF T A c n (0 + 1) 0 (swS T A c 0)) = (if swS T A c 0 ≤ -1 then _ else shF T A c n (0 + 1) 0 (swS T A c 0))
  rw [if_neg (by omega), if_neg (by omega)]
theorem shF_val {c : Int} : ∀ (n : Nat) (h bt mo : Int), mo = swS T A c bt → (shF T A c n h bt mo).2 = swS T A c (shF T A c n h bt mo).1 := by
  intro n
  induction n with
  | zero => intro h bt mo e; exact e
  | succ n ih =>
    intro h bt mo e
    show (if swS T A c h ≤ mo then shF T A c n (h + 1) bt mo else shF T A c n (h + 1) h (swS T A c h)).2 = swS T A c (if swS T A c h ≤ mo then shF T A c n (h + 1) bt mo else shF T A c n (h + 1) h (swS T A c h)).1
    split
    · exact ih _ _ _ e
    · exact ih _ _ _ rfl
theorem shF_in {c : Int} : ∀ (n : Nat) (h bt mo : Int), 0 ≤ bt → bt < h + n → 0 ≤ h → 0 ≤ (shF T A c n h bt mo).1 ∧ (shF T A c n h bt mo).1 < h + n := by
  intro n
  induction n with
  | zero => intro h bt mo b0 b1 _; exact ⟨b0, b1⟩
  | succ n ih =>
    intro h bt mo b0 b1 h0
    show 0 ≤ (if swS T A c h ≤ mo then shF T A c n (h + 1) bt mo else shF T A c n (h + 1) h (swS T A c h)).1 ∧ (if swS T A c h ≤ mo then shF T A c n (h + 1) bt mo else shF T A c n (h + 1) h (swS T A c h)).1 < _
    split
    · have := ih (h + 1) bt mo b0 (by omega) (by omega); omega
    · have := ih (h + 1) h (swS T A c h) h0 (by omega) (by omega); omega
variable {g : GT} {e : Nat} {s : Sg} {tw b : Int}
theorem sh_loop {c : Int} (hF : TF T) (c0 : 0 ≤ c) (c8 : c < 8) : ∀ (n : Nat) (h bt mo : Int) (s0 : Sg), h + n = T 1 0 → 0 ≤ h → CX s0 48 tw T A → Fr Jk s s0 → P_X5_strongestHome_8 g (e + 5) (fun r s' => r = (shF T A c n h bt mo).1 ∧ Fr Jk s s') s0 48 c bt mo h := by
  intro n
  induction n with
  | zero =>
    intro h bt mo s0 hn h0 hx hf
    refine S_X5_strongestHome_8 ?_
    rw [hx.tp]
    exact Mw.ex (C_homeCount hx) ⟨fun _ => ⟨rfl, hf⟩, fun q => absurd (by omega) q⟩
  | succ n ih =>
    intro h bt mo s0 hn h0 hx hf
    have b6 := hx.ok.1
    refine S_X5_strongestHome_8 ?_
    rw [hx.tp, w32_of (by omega) (by omega)]
    refine Mw.ex (C_homeCount hx) ⟨fun q => by omega, fun _ => (C_strongWhenDone hx hF c0 c8 h0 (by omega)).imp (fun r s4 h4 => ⟨fun q => ?_, fun q => ?_⟩)⟩
    · rw [h4.1] at q
      have e1 : shF T A c (n + 1) h bt mo = shF T A c n (h + 1) bt mo := by
        show (if swS T A c h ≤ mo then _ else _) = _
        rw [if_pos q]
      rw [e1]
      exact ih (h + 1) bt mo s4 (by omega) (by omega) (hx.jk h4.2) (hf.tr h4.2)
    · rw [h4.1] at q ⊢
      have e1 : shF T A c (n + 1) h bt mo = shF T A c n (h + 1) h (swS T A c h) := by
        show (if swS T A c h ≤ mo then _ else _) = _
        rw [if_neg q]
      rw [e1]
      exact ih (h + 1) h (swS T A c h) s4 (by omega) (by omega) (hx.jk h4.2) (hf.tr h4.2)
theorem C_strongestHome {c : Int} (hx : CX s 48 tw T A) (hF : TF T) (c0 : 0 ≤ c) (c8 : c < 8) : Mw g (e + 6) M_X5_strongestHome [(14, 55), (19, 48), (0, c)] s (fun r s' => r = (shS T A c).1 ∧ Fr Jk s s') := by
  have b6 := hx.ok.1
  exact S_X5_strongestHome (fun _ _ => sh_loop hF c0 c8 (T 1 0).toNat 0 0 (-1) s (by omega) (by decide) hx Fr.rf)
theorem swR_loop {c h w bt mo : Int} {Q : Int → Sg → Prop} (c0 : 0 ≤ c) (c1 : c < T 1 1) (h0 : 0 ≤ h) (h1 : h < T 1 0) (hQ : ∀ (s' : Sg) (r : Int), RX s' 0 b T A → Fr Jm s s' → r = swS T A c h → ((mo < r → P_X13_strongest_36 g (e + 4) Q s' c w h r (w32 (h + 1))) ∧ (¬ mo < r → P_X13_strongest_36 g (e + 4) Q s' c w bt mo (w32 (h + 1))))) :
    ∀ (n : Nat) (y v : Int) (s0 : Sg), (0 < n → y + n = T 9 c + T 0 15) → T 9 c + T 0 15 ≤ y + n → 0 ≤ y → y ≤ 1000 → 0 ≤ v → v ≤ 999 → RX s0 0 b T A → Fr Jm s s0 → swF T c h (T 0 15 - max (y - T 9 c) (T 0 14)).toNat v (max (y - T 9 c) (T 0 14)) = swS T A c h → P_X13_strongest_66 g (e + 4) Q s0 c w bt mo h v y := by
  intro n
  induction n with
  | zero =>
    intro y v s0 hn hn2 y0 y1 v0 v1 hx hf hsw
    have hT := hx.ok
    have b8 := hT.2.1
    have t := hT.2.2.2.2.2.2.2.2.2.1
    have tb := (hT.2.2.2.2.2.1 c c0 (by omega)).2.1
    refine S_X13_strongest_66 (Mw.ex (R_born hx c0 c1) (Mw.ex (R_toldOf hx.1 (by decide) (by decide)) ?_))
    rw [show (14 : Int) + 1 = 15 from rfl, w32_of (show _ ≤ T 9 c + T 0 15 by omega) (by omega)]
    have ev : v = swS T A c h := by
      rw [← hsw, show (T 0 15 - max (y - T 9 c) (T 0 14)).toNat = 0 by omega]
      rfl
    exact ⟨fun _ => hQ s0 v hx hf ev, fun q => absurd (by omega) q⟩
  | succ n ih =>
    intro y v s0 hn hn2 y0 y1 v0 v1 hx hf hsw
    have hn := hn (by omega)
    have hT := hx.ok
    have b8 := hT.2.1
    have t := hT.2.2.2.2.2.2.2.2.2.1
    have tb := (hT.2.2.2.2.2.1 c c0 (by omega)).2.1
    refine S_X13_strongest_66 (Mw.ex (R_born hx c0 c1) (Mw.ex (R_toldOf hx.1 (by decide) (by decide)) ?_))
    rw [show (14 : Int) + 1 = 15 from rfl, w32_of (show _ ≤ T 9 c + T 0 15 by omega) (by omega)]
    refine ⟨fun q => by omega, fun _ => Mw.ex (R_born hx c0 c1) (Mw.ex (R_toldOf hx.1 (by decide) (by decide)) ?_)⟩
    rw [show (14 : Int) + 0 = 14 from rfl, w32_of (show _ ≤ T 9 c + T 0 14 by omega) (by omega), w32_of (show _ ≤ y + 1 by omega) (by omega)]
    refine ⟨fun q => ?_, fun q => Mw.ex (R_born hx c0 c1) ?_⟩
    · refine ih (y + 1) v s0 (fun _ => by omega) (by omega) (by omega) (by omega) v0 v1 hx hf ?_
      rw [show max (y + 1 - T 9 c) (T 0 14) = max (y - T 9 c) (T 0 14) by omega]
      exact hsw
    · rw [w32_of (show _ ≤ y - T 9 c by omega) (by omega)]
      refine (R_raised hx.1 h0 h1 ⟨by omega, by omega⟩ ⟨v0, v1⟩ ⟨y0, by omega⟩).imp (fun r s12 h12 => ?_)
      have gb := groS_bd (T := T) (h := h) (a := y - T 9 c) (y := y) ⟨v0, v1⟩
      rw [h12.1]
      refine ih (y + 1) _ s12 (fun _ => by omega) (by omega) (by omega) (by omega) gb.1 gb.2 (hx.jm h12.2) (hf.tr h12.2) ?_
      rw [← hsw, show max (y - T 9 c) (T 0 14) = y - T 9 c by omega, show max (y + 1 - T 9 c) (T 0 14) = y - T 9 c + 1 by omega, show (T 0 15 - (y - T 9 c)).toNat = (T 0 15 - (y - T 9 c + 1)).toNat + 1 by omega]
      show _ = swF T c h (T 0 15 - (y - T 9 c + 1)).toNat (groS T h (y - T 9 c) v (T 9 c + (y - T 9 c))) (y - T 9 c + 1)
      rw [show T 9 c + (y - T 9 c) = y by omega]
theorem shR_loop {c w : Int} (hW : WOK T A) (c0 : 0 ≤ c) (c1 : c < T 1 1) (hd : ¬ T 0 15 ≤ ageS T A c) : ∀ (n : Nat) (h bt mo : Int) (s0 : Sg), h + n = T 1 0 → 0 ≤ h → RX s0 0 b T A → Fr Jm s s0 →
    P_X13_strongest_36 g (e + 4) (fun r s' => r = (if w = 0 then (shF T A c n h bt mo).1 else (shF T A c n h bt mo).2) ∧ Fr Jm s s') s0 c w bt mo h := by
  intro n
  induction n with
  | zero =>
    intro h bt mo s0 hn h0 hx hf
    have hb := hx.b2
    refine S_X13_strongest_36 ?_
    rw [hx.bk, hx.rt.1.1]
    refine ⟨⟨by omega, by omega⟩, fun _ => ⟨fun q => ⟨?_, hf⟩, fun q => ⟨?_, hf⟩⟩, fun q => absurd (by omega) q⟩
    · rw [if_neg q]; rfl
    · rw [if_pos q]; rfl
  | succ n ih =>
    intro h bt mo s0 hn h0 hx hf
    have hb := hx.b2
    have hT := hx.ok
    have b6 := hT.1
    have b8 := hT.2.1
    have a1 := hW.1.1
    have sb := (hW.1.2.2.2.1 c c0 (by omega)).2
    have t := hT.2.2.2.2.2.2.2.2.2.1
    have tb := (hT.2.2.2.2.2.1 c c0 (by omega)).2.1
    have hag : ageS T A c = A 0 1 - T 9 c := rfl
    refine S_X13_strongest_36 ?_
    rw [hx.bk, hx.rt.1.1]
    refine ⟨⟨by omega, by omega⟩, fun q => by omega, fun _ => Mw.ex (R_strong hx c0 c1) ?_⟩
    rw [hx.2.2.1]
    refine swR_loop (s := s0) c0 c1 h0 (by omega) (fun s' r x' f' er => ?_) (T 9 c + T 0 15 - A 0 1).toNat (A 0 1) (A 2 c) s0 (fun _ => by omega) (by omega) a1.1 a1.2 sb.1 sb.2 hx Fr.rf ?_
    · rw [w32_of (by omega) (by omega), er]
      refine ⟨fun q => ?_, fun q => ?_⟩
      · have e1 : shF T A c (n + 1) h bt mo = shF T A c n (h + 1) h (swS T A c h) := by
          show (if swS T A c h ≤ mo then _ else _) = _
          rw [if_neg (by omega)]
        rw [e1]
        exact ih (h + 1) h _ s' (by omega) (by omega) x' (hf.tr f')
      · have e1 : shF T A c (n + 1) h bt mo = shF T A c n (h + 1) bt mo := by
          show (if swS T A c h ≤ mo then _ else _) = _
          rw [if_pos (by omega)]
        rw [e1]
        exact ih (h + 1) bt mo s' (by omega) (by omega) x' (hf.tr f')
    · unfold swS
      rw [hag]
/-- strongest(c, w) -/
def stS (T : Tn) (A : Wd) (c w : Int) : Int := if (0 ≤ c ∧ c < T 1 1) ∧ ¬ T 0 15 ≤ ageS T A c ∧ 0 ≤ w ∧ w ≤ 1 then (if w = 0 then (shS T A c).1 else (shS T A c).2) else -1
theorem R_strongest {c w : Int} (h : RX s 0 b T A) (hW : WOK T A) : Mw g (e + 5) M_X13_strongest [(21, 92), (0, c), (0, w)] s (fun r s' => r = stS T A c w ∧ Fr Jm s s') := by
  have hT := h.ok
  have b8 := hT.2.1
  have b6 := hT.1
  refine S_X13_strongest (fun _ _ => Mw.ex (R_isChild h.1) ⟨fun q => ⟨?_, Fr.rf⟩, fun q => ?_⟩)
  · unfold stS
    rw [if_neg]
    intro z
    rw [if_pos z.1] at q
    omega
  · have z : 0 ≤ c ∧ c < T 1 1 := Classical.byContradiction (fun z => by rw [if_neg z] at q; omega)
    refine Mw.ex (R_isDone h hW.1 z.1 z.2) ⟨fun q2 => ⟨?_, Fr.rf⟩, fun q2 => Mw.ex R_is ⟨fun q3 => ?_, fun q3 => ⟨?_, Fr.rf⟩⟩⟩
    · unfold stS
      rw [if_neg]
      intro y
      rw [if_neg y.2.1] at q2
      exact q2 rfl
    · have nd : ¬ T 0 15 ≤ ageS T A c := fun y => by rw [if_pos y] at q2; omega
      have w01 : 0 ≤ w ∧ w ≤ 1 := Classical.byContradiction (fun y => by rw [if_neg y] at q3; omega)
      have hh := hT.2.2.2.2.2.2.1 c z.1 z.2
      have t8 := (hT.2.2.2.2.2.1 c z.1 (by omega)).1
      have := shR_loop (g := g) (e := e) (s := s) (w := w) hW z.1 z.2 nd (T 1 0).toNat 0 (-1) (-1) s (by omega) (by decide) h Fr.rf
      unfold stS shS
      rw [if_pos ⟨z, nd, w01⟩]
      have e1 : shF T A c (T 1 0).toNat 0 0 (-1) = shF T A c (T 1 0).toNat 0 (-1) (-1) := by
        rw [show (T 1 0).toNat = ((T 1 0).toNat - 1) + 1 by omega]
        exact shF_first hW.1 z.1 (by omega) _ _ _
      rw [e1]
      exact this
    · unfold stS
      rw [if_neg]
      intro y
      rw [if_pos y.2.2] at q3
      omega
end STRONG
