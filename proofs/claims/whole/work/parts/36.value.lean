/-! the class: Formula.value, setFacts, grown, foes -/
section VALUE
variable {g : GT} {e : Nat} {s : Sg}
theorem value_loop {fo fa n mx : Int} {P F : Int → Int} (hP : WFp P n mx) (hm : mx ≤ 28) (hF : Fbd F mx) (hne : fa ≠ fo + 2) (hn : 0 < n) : ∀ (m k : Nat) (s0 : Sg), k + m = n.toNat → s0 fo 2 = n → s0 (fo + 1) = P → s0 fa = F → (∀ i, 0 ≤ i → i < (tpA P k).2 → s0 (fo + 2) i = (evA P F k).1 i) → Fr (fun o => o = fo + 2) s s0 →
    P_X2_value_4 g (e + 2) (fun r s' => r = evS P F n ∧ Fr (fun o => o = fo + 2) s s') s0 fo fa (tpA P k).2 k := by
  intro m
  induction m with
  | zero =>
    intro k s0 hk h2 h1 ha hv hf
    have ek : n.toNat = k := by omega
    have ht := hP.2.1 hn
    rw [ek] at ht
    refine S_X2_value_4 ⟨fun _ => ⟨fun q => by omega, fun _ => ⟨?_, hf⟩⟩, fun q => absurd (by omega) q⟩
    rw [hv 0 (by omega) (by omega)]
    unfold evS
    rw [ek]
  | succ m ih =>
    intro k s0 hk h2 h1 ha hv hf
    obtain ⟨o1, o2, o3, o4, o5, o6⟩ := hP.2.2 k (by omega)
    have n16 := hP.1
    obtain ⟨t0, hb⟩ := evA_bd hP hm hF k (by omega)
    have et := evA_top P F k
    refine S_X2_value_4 ⟨fun q => by omega, fun _ => ⟨⟨by omega, by omega⟩, Mw.ex C_partsOf ?_⟩⟩
    rw [h1]
    have hpn : 0 ≤ partsN (P k) ∧ partsN (P k) ≤ 3 := by unfold partsN; split <;> (try split) <;> (try split) <;> omega
    rw [w32_of (show _ ≤ (tpA P k).2 - partsN (P k) by omega) (by omega)]
    have step : ∀ (v : Int) (s5 : Sg), v = newS (P k) F (evA P F k).1 ((tpA P k).2 - partsN (P k)) → s5 = ups s0 (fo + 2) ((tpA P k).2 - partsN (P k)) v → P_X2_value_4 g (e + 2) (fun r s' => r = evS P F n ∧ Fr (fun o => o = fo + 2) s s') s5 fo fa (w32 ((tpA P k).2 - partsN (P k) + 1)) (w32 (k + 1)) := by
      intro v s5 hv5 hs5
      rw [w32_of (show _ ≤ (tpA P k).2 - partsN (P k) + 1 by omega) (by omega), w32_of (by omega) (by omega), show ((k : Int) + 1) = ((k + 1 : Nat) : Int) by omega]
      refine ih (k + 1) s5 (by omega) ?_ ?_ ?_ ?_ ?_
      · rw [hs5, ups_o _ (by omega)]; exact h2
      · rw [hs5, ups_at _ (by omega)]; exact h1
      · rw [hs5, ups_at _ hne]; exact ha
      · intro i i0 i1
        have i1 : i < (tpA P k).2 - partsN (P k) + 1 := i1
        show s5 (fo + 2) i = if i = (evA P F k).2 - partsN (P k) then newS (P k) F (evA P F k).1 ((evA P F k).2 - partsN (P k)) else (evA P F k).1 i
        rw [et, hs5]
        by_cases c : i = (tpA P k).2 - partsN (P k)
        · rw [if_pos c, c, ups_eq, hv5]
        · rw [if_neg c, ups_k _ c]
          exact hv i i0 (by omega)
      · rw [hs5]
        exact hf.tr (Fr.up rfl)
    generalize hfe : (tpA P k).2 - partsN (P k) = f at *
    refine ⟨fun q => by omega, fun _ => ⟨fun _ => ⟨fun c40 => ⟨fun c20 => ⟨fun c14 => ⟨fun c13 => ?_, fun c13 => ?_⟩, fun c14 => ?_⟩, fun c20 => ⟨fun c8 => ?_, fun c8 => ?_⟩⟩, fun c40 => ⟨⟨by omega, by omega⟩, fun s11 e11 => ?_⟩⟩, fun q => by omega⟩⟩
    · have hp : partsN (P k) = 2 := by unfold partsN; rw [if_pos (by omega), if_neg c13, if_neg c14]
      have v0 := (hb f (by omega) (by omega)).1
      have v1 := (hb (f + 1) (by omega) (by omega)).1
      rw [w32_of (show _ ≤ f + 1 by omega) (by omega)] at step ⊢
      refine ⟨⟨by omega, by omega⟩, ⟨by omega, by omega⟩, ?_⟩
      rw [hv f (by omega) (by omega), hv (f + 1) (by omega) (by omega)]
      refine Mw.ex (C_pair (by omega) (by omega) v0.1 v0.2 v1.1 v1.2) ⟨⟨by omega, by omega⟩, fun s5 e5 => step _ s5 ?_ e5⟩
      unfold newS
      rw [if_neg (by omega), if_neg (by omega), if_neg c14, if_neg c13]
      show _ = clampS _
      unfold clampS
      rw [w32_of (by omega) (by omega)]
    · have hp : partsN (P k) = 1 := by rw [c13]; rfl
      have v0 := (hb f (by omega) (by omega)).1
      refine ⟨⟨by omega, by omega⟩, ⟨by omega, by omega⟩, fun s6 e6 => step _ s6 ?_ e6⟩
      rw [hv f (by omega) (by omega), w32_of (by omega) (by omega)]
      unfold newS
      rw [if_neg (by omega), if_neg (by omega), if_neg c14, if_pos c13]
    · have hp : partsN (P k) = 3 := by rw [c14]; rfl
      rw [w32_of (show _ ≤ f + 1 by omega) (by omega)] at step ⊢
      rw [w32_of (show _ ≤ f + 2 by omega) (by omega)]
      rw [hv f (by omega) (by omega), hv (f + 1) (by omega) (by omega), hv (f + 2) (by omega) (by omega)]
      refine ⟨⟨by omega, by omega⟩, fun h => ⟨⟨by omega, by omega⟩, ⟨by omega, by omega⟩, fun s7 e7 => step _ s7 ?_ e7⟩, fun h => ⟨⟨by omega, by omega⟩, ⟨by omega, by omega⟩, fun s7 e7 => step _ s7 ?_ e7⟩⟩
      · unfold newS
        rw [if_neg (by omega), if_neg (by omega), if_pos c14, if_pos h]
      · unfold newS
        rw [if_neg (by omega), if_neg (by omega), if_pos c14, if_neg h]
    · rw [w32_of (by omega) (by omega)] at c8; omega
    · rw [w32_of (show _ ≤ P k - 20 by omega) (by omega), ha]
      refine ⟨⟨by omega, by omega⟩, ⟨by omega, by omega⟩, fun s10 e10 => step _ s10 ?_ e10⟩
      unfold newS
      rw [if_neg (by omega), if_pos (by omega)]
    · rw [w32_of (show _ ≤ P k - 40 by omega) (by omega)] at e11
      refine step _ s11 ?_ e11
      unfold newS
      rw [if_pos (by omega)]
theorem C_value {fo fa n mx : Int} {P F : Int → Int} (hP : WFp P n mx) (hm : mx ≤ 28) (hF : Fbd F mx) (hne : fa ≠ fo + 2) (hn : 0 < n) (h2 : s fo 2 = n) (h1 : s (fo + 1) = P) (ha : s fa = F) :
    Mw g (e + 3) M_X2_value [(11, fo), (33, fa)] s (fun r s' => r = evS P F n ∧ Fr (fun o => o = fo + 2) s s') := by
  refine S_X2_value (fun _ _ => ?_)
  exact value_loop hP hm hF hne hn n.toNat 0 s (by omega) h2 h1 ha (fun i i0 i1 => absurd i1 (by show ¬ i < 0; omega)) Fr.rf
/-- formulas look at the facts that they name alone -/
theorem evA_congr {P F G : Int → Int} {n mx : Int} (hP : WFp P n mx) (h : ∀ i, 0 ≤ i → i + 20 < mx → F i = G i) (hm : mx ≤ 28) : ∀ k : Nat, (k : Int) ≤ n → evA P F k = evA P G k := by
  intro k
  induction k with
  | zero => intro _; rfl
  | succ k ih =>
    intro hk
    have i := ih (by omega)
    have o3 := (hP.2.2 k (by omega)).2.2.1
    unfold evA
    rw [i]
    have en : ∀ V f, newS (P k) F V f = newS (P k) G V f := by
      intro V f
      unfold newS
      by_cases c1 : 40 ≤ P k
      · rw [if_pos c1, if_pos c1]
      · rw [if_neg c1, if_neg c1]
        by_cases c2 : 20 ≤ P k
        · rw [if_pos c2, if_pos c2, h _ (by omega) (by omega)]
        · rw [if_neg c2, if_neg c2]
    rw [en]
theorem evS_congr {P F G : Int → Int} {n mx : Int} (hP : WFp P n mx) (h : ∀ i, 0 ≤ i → i + 20 < mx → F i = G i) (hm : mx ≤ 28) : evS P F n = evS P G n := by
  unfold evS
  have := hP.1
  rw [evA_congr hP h hm n.toNat (by omega)]
end VALUE
def TF (T : Tn) : Prop := WFp (T 15) (T 14 2) 25 ∧ WFp (T 18) (T 17 2) 28
/-- the facts of a child: talk, warmth, age, strength, year; course, left, under -/
def facS (T : Tn) (h a st y co le un : Int) : Int → Int := fun i => if i = 0 then T 6 h else if i = 1 then T 7 h else if i = 2 then a else if i = 3 then st else if i = 4 then y else if i = 5 then co else if i = 6 then le else un
def gainS (T : Tn) (h a st y : Int) : Int := if T 14 2 ≤ 0 then T 6 h else evS (T 15) (facS T h a st y 0 0 0) (T 14 2)
def groS (T : Tn) (h a st y : Int) : Int := min 999 (st + max 0 (min 99 (gainS T h a st y)))
section GROWN
variable {g : GT} {e : Nat} {s : Sg} {tw : Int} {T : Tn}
theorem facS_bd {h a st y co le un mx : Int} (hT : TOK T) (h0 : 0 ≤ h) (h6 : h < 6) (ha : -99 ≤ a ∧ a ≤ 1000) (hs : 0 ≤ st ∧ st ≤ 999) (hy : 0 ≤ y ∧ y ≤ 1200) (hc : 0 ≤ co ∧ co ≤ 4) (hl : 0 ≤ le ∧ le ≤ 999) (hu : 0 ≤ un ∧ un ≤ 999) : Fbd (facS T h a st y co le un) mx := by
  intro i i0 i1
  have b := hT.2.2.2.2.1 h h0 h6
  unfold facS
  split
  · omega
  · split
    · omega
    · split
      · omega
      · split
        · omega
        · split
          · omega
          · split
            · omega
            · split <;> omega
theorem C_setFacts {h a st y : Int} (hx : CT s tw T) (h0 : 0 ≤ h) (h6 : h < 6) : Mw g (e + 1) M_X9_setFacts [(18, tw), (0, h), (0, a), (0, st), (0, y)] s (fun _ s' => (∀ i, 0 ≤ i → i < 5 → s' (tw + 20) i = facS T h a st y 0 0 0 i) ∧ Fr (fun o => o = tw + 20) s s') := by
  refine S_X9_setFacts (fun _ _ _ _ _ => ⟨⟨h0, h6⟩, fun s1 e1 => ⟨⟨h0, h6⟩, fun s2 e2 s3 e3 s4 e4 s5 e5 => ⟨fun i i0 i1 => ?_, ?_⟩⟩⟩)
  · have t6 : s (tw + 6) h = T 6 h := by rw [hx.2 6 (by decide) (by decide) (by decide)]
    have t7 : s1 (tw + 7) h = T 7 h := by rw [e1, ups_o _ (by omega), hx.2 7 (by decide) (by decide) (by decide)]
    rw [t7] at e2
    rw [t6] at e1
    rw [e5, e4, e3, e2, e1]
    unfold facS ups
    rcases (show i = 0 ∨ i = 1 ∨ i = 2 ∨ i = 3 ∨ i = 4 by omega) with c | c | c | c | c <;> rw [c] <;> simp
  · rw [e5, e4, e3, e2, e1]
    refine Fr.tr (Fr.tr (Fr.tr (Fr.tr (Fr.up ?_) (Fr.up ?_)) (Fr.up ?_)) (Fr.up ?_)) (Fr.up ?_) <;> rfl
theorem C_grown {h a st y : Int} (hx : CT s tw T) (hT : TOK T) (hF : TF T) (hw : isT tw) (h0 : 0 ≤ h) (h6 : h < 6) (ha : -99 ≤ a ∧ a ≤ 1000) (hs : 0 ≤ st ∧ st ≤ 999) (hy : 0 ≤ y ∧ y ≤ 1200) :
    Mw g (e + 4) M_X9_grown [(18, tw), (0, h), (0, a), (0, st), (0, y)] s (fun r s' => r = groS T h a st y ∧ Fr Jk s s') := by
  have t14 := hx.2 14 (by decide) (by decide) (by decide)
  have t6 := hx.2 6 (by decide) (by decide) (by decide)
  have b6 := hT.2.2.2.2.1 h h0 h6
  refine S_X9_grown (fun _ _ _ _ _ => ⟨⟨h0, h6⟩, fun hz => ?_, fun hz => ?_⟩)
  · refine S_X9_grown_40 ⟨?_, Fr.rf⟩
    rw [t14] at hz
    rw [t6, w32_of (by omega) (by omega)]
    unfold groS gainS
    rw [if_pos hz]
  · rw [t14] at hz
    refine (C_setFacts hx h0 h6).imp (fun _ s2 h2 => ?_)
    have hbd : Fbd (s2 (tw + 20)) 25 := fun i i0 i1 => by
      rw [h2.1 i i0 (by omega)]
      exact facS_bd hT h0 h6 ha hs hy (by omega) (by omega) (by omega) (mx := 28) i i0 (by omega)
    have c2 : CT s2 tw T := hx.fr h2.2 (fun o o1 o2 o3 => by omega)
    refine (C_value hF.1 (by decide) hbd (by omega) (by omega) (by rw [c2.2 14 (by decide) (by decide) (by decide)]) (by rw [show tw + 14 + 1 = tw + 15 by omega]; exact c2.2 15 (by decide) (by decide) (by decide)) rfl).imp (fun r s4 h4 => ?_)
    refine S_X9_grown_40 ⟨?_, ?_⟩
    · have er : r = evS (T 15) (facS T h a st y 0 0 0) (T 14 2) := by
        rw [h4.1]
        exact evS_congr hF.1 (fun i i0 i1 => h2.1 i i0 (by omega)) (by decide)
      rw [er, w32_of (by omega) (by omega)]
      unfold groS gainS
      rw [if_neg hz]
    · refine (h2.2.wk (fun o ho => ?_)).tr (h4.2.wk (fun o ho => ?_))
      · unfold Jk; unfold isT at hw; omega
      · unfold Jk; unfold isT at hw; omega
theorem groS_bd {h a st y : Int} (hs : 0 ≤ st ∧ st ≤ 999) : 0 ≤ groS T h a st y ∧ groS T h a st y ≤ 999 := by
  unfold groS
  omega
end GROWN
