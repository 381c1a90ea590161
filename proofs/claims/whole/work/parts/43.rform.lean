/-! the reference: its town, its formulas -/
/-- a step of the reference as the class has it -/
def cdM (st v : Int) : Int := if st = 0 then 40 + v else if st ≤ 8 then 19 + st else if st = 30 then 41 else st - 30
def okC (st v : Int) : Prop := (st = 0 ∧ 0 ≤ v ∧ v ≤ 9999) ∨ (1 ≤ st ∧ st ≤ 8) ∨ st = 30 ∨ (31 ≤ st ∧ st ≤ 44)
/-- formula w of bank b is the steps P, n of them -/
def RF (s : Sg) (b w : Int) (P : Int → Int) (n : Int) : Prop :=
  (s 108 (2 * b + w) = -1 ↔ n = 0) ∧ (0 < n → (0 ≤ s 108 (2 * b + w) ∧ s 108 (2 * b + w) + n ≤ 1600 ∧ s 109 (2 * b + w) = s 108 (2 * b + w) + n) ∧
    ∀ i, 0 ≤ i → i < n → okC (s 110 (1600 * b + s 108 (2 * b + w) + i)) (s 111 (1600 * b + s 108 (2 * b + w) + i)) ∧ P i = cdM (s 110 (1600 * b + s 108 (2 * b + w) + i)) (s 111 (1600 * b + s 108 (2 * b + w) + i)))
def RT (s : Sg) (b : Int) (T : Tn) : Prop :=
  (s 94 b = T 1 0 ∧ s 97 b = T 1 1 ∧ s 104 b = T 1 2 ∧ s 101 b = T 0 13) ∧
  (∀ h, 0 ≤ h → h < T 1 0 → s 95 (6 * b + h) = T 6 h ∧ s 96 (6 * b + h) = T 7 h) ∧
  (∀ c, 0 ≤ c → c < T 1 1 → s 98 (8 * b + c) = T 8 c ∧ s 99 (8 * b + c) = T 9 c ∧ s 100 (8 * b + c) = T 10 c) ∧
  (∀ w, 0 ≤ w → w < T 1 2 → s 105 (4 * b + w) = T 11 w ∧ s 106 (4 * b + w) = T 12 w) ∧
  (∀ f, 0 ≤ f → f < T 0 13 → (0 ≤ s 102 (10 * b + f) ∧ s 102 (10 * b + f) < T 1 1) ∧ (0 ≤ s 103 (10 * b + f) ∧ s 103 (10 * b + f) < T 1 1) ∧ s 102 (10 * b + f) ≠ s 103 (10 * b + f) ∧ T 13 f = 2 ^ (s 102 (10 * b + f)).toNat + 2 ^ (s 103 (10 * b + f)).toNat) ∧
  (∀ k, 0 ≤ k → k < 5 → s 107 (5 * b + k) = T 0 (14 + k)) ∧ RF s b 0 (T 15) (T 14 2) ∧ RF s b 1 (T 18) (T 17 2)
/-- what a working of formulas leaves changed -/
def Jm (o : Int) : Prop := o = 131 ∨ o = 132
/-- the bank's town is T -/
def RB (s : Sg) (b : Int) (T : Tn) : Prop := s 92 13 = b ∧ (b = 0 ∨ b = 1) ∧ RT s b T ∧ TOK T ∧ TF T
theorem RT.fr {J : Int → Prop} {s s2 : Sg} {b : Int} {T : Tn} (h : RT s b T) (hf : Fr J s s2) (hj : ∀ o, 94 ≤ o → o ≤ 111 → ¬ J o) : RT s2 b T := by
  have e : ∀ o, 94 ≤ o → o ≤ 111 → s2 o = s o := fun o o1 o2 => hf o (hj o o1 o2)
  unfold RT RF
  rw [e 94 (by decide) (by decide), e 95 (by decide) (by decide), e 96 (by decide) (by decide), e 97 (by decide) (by decide), e 98 (by decide) (by decide), e 99 (by decide) (by decide), e 100 (by decide) (by decide), e 101 (by decide) (by decide), e 102 (by decide) (by decide), e 103 (by decide) (by decide), e 104 (by decide) (by decide), e 105 (by decide) (by decide), e 106 (by decide) (by decide), e 107 (by decide) (by decide), e 108 (by decide) (by decide), e 109 (by decide) (by decide), e 110 (by decide) (by decide), e 111 (by decide) (by decide)]
  exact h
theorem RB.jm {s s2 : Sg} {b : Int} {T : Tn} (h : RB s b T) (hf : Fr Jm s s2) : RB s2 b T := by
  refine ⟨?_, h.2.1, h.2.2.1.fr hf (fun o o1 o2 => by unfold Jm; omega), h.2.2.2⟩
  rw [hf 92 (by unfold Jm; omega)]; exact h.1
section RFORM
variable {g : GT} {e : Nat} {s : Sg} {b : Int} {T : Tn}
theorem R_is {v l m : Int} : Mw g (e + 1) M_X13_is [(0, v), (0, l), (0, m)] s (Ex (if l ≤ v ∧ v ≤ m then 1 else 0) s) := by
  refine S_X13_is (fun _ _ _ => ⟨fun h => ⟨?_, rfl⟩, fun h => ⟨fun h2 => ⟨?_, rfl⟩, fun h2 => ⟨?_, rfl⟩⟩⟩)
  · rw [if_neg (by omega)]
  · rw [if_neg (by omega)]
  · rw [if_pos (by omega)]
theorem R_toldOf {k : Int} (h : RB s b T) (k0 : 0 ≤ k) (k5 : k < 5) : Mw g (e + 1) M_X13_toldOf [(21, 92), (0, k)] s (Ex (T 0 (14 + k)) s) := by
  have hb := h.2.1
  refine S_X13_toldOf (fun _ => ?_)
  rw [h.1, w32_of (show _ ≤ 5 * b by omega) (by omega), w32_of (by omega) (by omega), h.2.2.1.2.2.2.2.2.1 k k0 k5]
  exact ⟨⟨by omega, by omega⟩, rfl, rfl⟩
theorem R_isTold {w n : Int} {P : Int → Int} (h : RB s b T) (hw : w = 0 ∨ w = 1) (hf : RF s b w P n) : Mw g (e + 1) M_X13_isTold [(21, 92), (0, w)] s (Ex (if n = 0 then 0 else 1) s) := by
  have hb := h.2.1
  refine S_X13_isTold (fun _ => ?_)
  rw [h.1, w32_of (show _ ≤ 2 * b by omega) (by omega), w32_of (by omega) (by omega)]
  refine ⟨⟨by omega, by omega⟩, fun q => ⟨?_, rfl⟩, fun q => ⟨?_, rfl⟩⟩
  · rw [if_pos (hf.1.mp q)]
  · rw [if_neg (fun z => q (hf.1.mpr z))]
theorem R_held {v : Int} : Mw g (e + 1) M_X13_held [(2, v)] s (Ex (clampS v) s) := by
  refine S_X13_held (fun _ => ?_)
  rw [lCmp_le, lCmp_ge]
  unfold clampS
  refine ⟨fun h => ⟨fun h2 => ⟨?_, rfl⟩, fun h2 => ⟨?_, rfl⟩⟩, fun h => ⟨?_, rfl⟩⟩ <;> omega
theorem R_floor {a b : Int} (a1 : -1000000 ≤ a) (a2 : a ≤ 1000000) : Mw g (e + 1) M_X13_floor [(2, a), (2, b)] s (Ex (if b = 0 then 0 else flS a b) s) := by
  refine S_X13_floor (fun _ _ => ?_)
  have d := tdiv_bd (b := b) (m := 1000000) a1 a2
  rw [lCmp_z, lCmp_z, lCmp_nn, w64_of (by omega) (by omega)]
  refine ⟨fun hb => ⟨hb, hb, fun h => ⟨?_, rfl⟩, fun h => ⟨fun h2 => S_X13_floor_32 ?_, fun h2 => S_X13_floor_32 ?_⟩⟩, fun hb => ⟨?_, rfl⟩⟩
  · rw [if_neg hb]; unfold flS; rw [if_neg (fun q => q.2 h)]
  · rw [lCmp_nn]
    refine ⟨fun h3 => S_X13_floor_43 ⟨fun _ => ⟨?_, rfl⟩, fun q => absurd rfl q⟩, fun h3 => S_X13_floor_43 ⟨fun q => by omega, fun _ => ⟨?_, rfl⟩⟩⟩
    · rw [if_neg hb]; unfold flS; rw [if_neg]; exact fun q => q.1 ⟨fun z => by omega, fun z => by omega⟩
    · rw [if_neg hb, w64_of (by omega) (by omega)]; unfold flS; rw [if_pos]; exact ⟨fun q => by have := q.mpr (by omega); omega, h⟩
  · rw [lCmp_nn]
    refine ⟨fun h3 => S_X13_floor_43 ⟨fun q => by omega, fun _ => ⟨?_, rfl⟩⟩, fun h3 => S_X13_floor_43 ⟨fun _ => ⟨?_, rfl⟩, fun q => absurd rfl q⟩⟩
    · rw [if_neg hb, w64_of (by omega) (by omega)]; unfold flS; rw [if_pos]; exact ⟨fun q => by have := q.mp (by omega); omega, h⟩
    · rw [if_neg hb]; unfold flS; rw [if_neg]; exact fun q => q.1 ⟨fun z => by omega, fun z => by omega⟩
  · rw [if_pos hb]
theorem R_two {st a b : Int} (h1 : 31 ≤ st) (h2 : st ≤ 42) (a1 : -1000000 ≤ a) (a2 : a ≤ 1000000) (b1 : -1000000 ≤ b) (b2 : b ≤ 1000000) (hb : st = 41 ∨ st = 42 → (a = 0 ∨ a = 1) ∧ (b = 0 ∨ b = 1)) :
    Mw g (e + 2) M_X13_two [(0, st), (2, a), (2, b)] s (Ex (clampS (pairS (st - 30) a b)) s) := by
  have mb := mul_bd a1 a2 b1 b2
  have fb := flS_bd (b := b) (m := 1000000) a1 a2
  refine S_X13_two (fun _ _ _ => ?_)
  rw [w64_of (show _ ≤ a + b by omega) (by omega), w64_of (show _ ≤ a - b by omega) (by omega), w64_of (show _ ≤ a * b by omega) (by omega), lCmp_z, lCmp_z, lCmp_ge, lCmp_le]
  refine ⟨?_, ?_, ?_, ?_, ?_, ?_, ?_, ?_, ?_, ?_, ?_, ?_⟩
  · intro h; subst h; exact Mw.ex R_held ⟨rfl, rfl⟩
  · intro h; subst h; exact Mw.ex R_held ⟨rfl, rfl⟩
  · intro h; subst h; exact Mw.ex R_held ⟨rfl, rfl⟩
  · intro h; subst h; exact Mw.ex (R_floor a1 a2) (Mw.ex R_held ⟨rfl, rfl⟩)
  · intro h; subst h
    refine ⟨fun hb0 => Mw.ex (R_floor a1 a2) ?_, fun hb0 => ⟨?_, rfl⟩⟩
    · rw [if_neg hb0]
      have fm := fmS_bd (a := a) (m := 1000000) hb0 b1 b2
      rw [w64_of (show _ ≤ b * flS a b by omega) (by omega), w64_of (by omega) (by omega)]
      refine Mw.ex R_held ⟨?_, rfl⟩
      simp [pairS, hb0]
    · simp [pairS, hb0, clampS]; decide
  · intro h; subst h
    refine ⟨fun q => ⟨?_, rfl⟩, fun q => ⟨?_, rfl⟩⟩ <;> (simp [pairS, clampS]; omega)
  · intro h; subst h
    refine ⟨fun q => ⟨?_, rfl⟩, fun q => ⟨?_, rfl⟩⟩ <;> (simp [pairS, clampS]; omega)
  · intro h; subst h
    refine ⟨fun q => ⟨?_, rfl⟩, fun q => ⟨?_, rfl⟩⟩
    · simp [pairS, clampS, show ¬ a < b by omega]; decide
    · simp [pairS, clampS, show a < b by omega]; decide
  · intro h; subst h
    refine ⟨fun q => ⟨?_, rfl⟩, fun q => ⟨?_, rfl⟩⟩
    · simp [pairS, clampS, show ¬ b < a by omega]; decide
    · simp [pairS, clampS, show b < a by omega]; decide
  · intro h; subst h
    refine ⟨fun q => ⟨?_, rfl⟩, fun q => ⟨?_, rfl⟩⟩
    · simp [pairS, clampS, q]; decide
    · simp [pairS, clampS, q]; decide
  · intro h; subst h
    refine ⟨?_, rfl⟩
    obtain ⟨u, v⟩ := hb (Or.inl rfl)
    rcases u with u | u <;> rcases v with v | v <;> rw [u, v] <;> decide +kernel
  · intro h
    have : st = 42 := by omega
    subst this
    refine ⟨?_, rfl⟩
    obtain ⟨u, v⟩ := hb (Or.inr rfl)
    rcases u with u | u <;> rcases v with v | v <;> rw [u, v] <;> decide +kernel
theorem reck_loop {w n mx : Int} {P F : Int → Int} (hP : WFp P n mx) (hm : mx ≤ 28) (hF : Fbd F mx) (hn : 0 < n) (hb : b = 0 ∨ b = 1) (hw : w = 0 ∨ w = 1) (hR : RF s b w P n) (hA : ∀ i, 0 ≤ i → i + 20 < mx → s 132 (i + 1) = F i) (h13 : s 92 13 = b) :
    ∀ (m k : Nat) (s0 : Sg), k + m = n.toNat → Fr (fun o => o = 131) s s0 → (∀ i, 0 ≤ i → i < (tpA P k).2 → s0 131 i = (evA P F k).1 i) →
      P_X13_reckons_25 g (e + 2) (fun r s' => r = evS P F n ∧ Fr (fun o => o = 131) s s') s0 w (tpA P k).2 (1600 * b + s 108 (2 * b + w) + k) := by
  intro m
  obtain ⟨r1, r2⟩ := hR
  obtain ⟨⟨r3, r4, r5⟩, r6⟩ := r2 hn
  have n16 := hP.1
  induction m with
  | zero =>
    intro k s0 hk hf hv
    have ek : n.toNat = k := by omega
    have ht := hP.2.1 hn
    rw [ek] at ht
    have e92 : s0 92 13 = b := by rw [hf 92 (by decide)]; exact h13
    have e109 : s0 109 = s 109 := hf 109 (by decide)
    refine S_X13_reckons_25 ?_
    rw [e92, e109, w32_of (show _ ≤ 2 * b by omega) (by omega), w32_of (show _ ≤ 2 * b + w by omega) (by omega), r5, w32_of (show _ ≤ 1600 * b by omega) (by omega), w32_of (by omega) (by omega)]
    refine ⟨⟨by omega, by omega⟩, fun _ => ⟨?_, hf⟩, fun q => absurd (by omega) q⟩
    rw [hv 0 (by omega) (by omega)]
    unfold evS
    rw [ek]
  | succ m ih =>
    intro k s0 hk hf hv
    obtain ⟨o1, o2, o3, o4, o5, o6⟩ := hP.2.2 k (by omega)
    obtain ⟨t0, hbd⟩ := evA_bd hP hm hF k (by omega)
    have et := evA_top P F k
    have e92 : s0 92 13 = b := by rw [hf 92 (by decide)]; exact h13
    have e109 : s0 109 = s 109 := hf 109 (by decide)
    have e110 : s0 110 = s 110 := hf 110 (by decide)
    have e111 : s0 111 = s 111 := hf 111 (by decide)
    have e132 : s0 132 = s 132 := hf 132 (by decide)
    obtain ⟨c1, c2⟩ := r6 k (by omega) (by omega)
    have hpn : 0 ≤ partsN (P k) ∧ partsN (P k) ≤ 3 := by unfold partsN; split <;> (try split) <;> (try split) <;> omega
    have step : ∀ (v x : Int) (s5 : Sg), v = newS (P k) F (evA P F k).1 ((tpA P k).2 - partsN (P k)) → s5 = ups s0 131 ((tpA P k).2 - partsN (P k)) v → x = (tpA P k).2 - partsN (P k) + 1 → P_X13_reckons_25 g (e + 2) (fun r s' => r = evS P F n ∧ Fr (fun o => o = 131) s s') s5 w x (w32 (1600 * b + s 108 (2 * b + w) + k + 1)) := by
      intro v x s5 hv5 hs5 hx
      rw [w32_of (by omega) (by omega), hx, show 1600 * b + s 108 (2 * b + w) + (k : Int) + 1 = 1600 * b + s 108 (2 * b + w) + ((k + 1 : Nat) : Int) by omega]
      refine ih (k + 1) s5 (by omega) (by rw [hs5]; exact hf.tr (Fr.up rfl)) ?_
      intro i i0 i1
      have i1 : i < (tpA P k).2 - partsN (P k) + 1 := i1
      show s5 131 i = if i = (evA P F k).2 - partsN (P k) then newS (P k) F (evA P F k).1 ((evA P F k).2 - partsN (P k)) else (evA P F k).1 i
      rw [et, hs5]
      by_cases c : i = (tpA P k).2 - partsN (P k)
      · rw [if_pos c, c, ups_eq, hv5]
      · rw [if_neg c, ups_k _ c]
        exact hv i i0 (by omega)
    refine S_X13_reckons_25 ?_
    rw [e92, e109, e110, e111, e132, w32_of (show _ ≤ 2 * b by omega) (by omega), w32_of (show _ ≤ 2 * b + w by omega) (by omega), r5, w32_of (show _ ≤ 1600 * b by omega) (by omega), w32_of (show _ ≤ 1600 * b + (s 108 (2 * b + w) + n) by omega) (by omega)]
    refine ⟨⟨by omega, by omega⟩, fun q => by omega, fun _ => ⟨⟨by omega, by omega⟩, ?_⟩⟩
    generalize hst : s 110 (1600 * b + s 108 (2 * b + w) + k) = st at *
    generalize hvl : s 111 (1600 * b + s 108 (2 * b + w) + k) = vl at *
    unfold okC at c1
    unfold cdM at c2
    rw [show (tpA P k).2 + (-1) = (tpA P k).2 - 1 by omega, show (tpA P k).2 + (-2) = (tpA P k).2 - 2 by omega]
    refine ⟨fun c30 => ⟨fun c43 => ⟨fun c44 => ?_, fun c44 => ?_⟩, fun c43 => ?_⟩, fun c30 => ⟨fun c0 => ⟨fun c3 => ?_, fun c3 => ?_⟩, fun c0 => ?_⟩⟩
    · have ep : P k = st - 30 := by rw [c2, if_neg (by omega), if_neg (by omega), if_neg (by omega)]
      have hp : partsN (P k) = 2 := by unfold partsN; rw [if_pos (by omega), if_neg (by omega), if_neg (by omega)]
      have v0 := hbd ((tpA P k).2 - 2) (by omega) (by omega)
      have v1 := hbd ((tpA P k).2 - 1) (by omega) (by omega)
      rw [w32_of (show _ ≤ (tpA P k).2 - 1 by omega) (by omega), w32_of (show _ ≤ (tpA P k).2 - 1 - 1 by omega) (by omega), show (tpA P k).2 - 1 - 1 = (tpA P k).2 - 2 by omega, hv _ (by omega) (by omega), hv ((tpA P k).2 - 1) (by omega) (by omega)]
      refine ⟨⟨by omega, by omega⟩, ⟨by omega, by omega⟩, Mw.ex (R_two (by omega) (by omega) v0.1.1 v0.1.2 v1.1.1 v1.1.2 (fun q => ?_)) ⟨⟨by omega, by omega⟩, fun s3 e3 => step _ _ s3 ?_ (by rw [hp]; exact e3) (by omega)⟩⟩
      · have := o5 (by omega)
        exact ⟨v0.2 this.1, v1.2 this.2⟩
      · unfold newS
        rw [if_neg (by omega), if_neg (by omega), if_neg (by omega), if_neg (by omega), ← ep, hp, show (tpA P k).2 - 2 + 1 = (tpA P k).2 - 1 by omega]
    · have ep : P k = 14 := by rw [c2, if_neg (by omega), if_neg (by omega), if_neg (by omega)]; omega
      have hp : partsN (P k) = 3 := by rw [ep]; rfl
      have v0 := (hbd ((tpA P k).2 - 3) (by omega) (by omega)).2 (o4 ep)
      rw [w32_of (show _ ≤ (tpA P k).2 - 2 by omega) (by omega), w32_of (show _ ≤ (tpA P k).2 - 2 - 1 by omega) (by omega), w32_of (show _ ≤ (tpA P k).2 - 2 + 1 by omega) (by omega), show (tpA P k).2 - 2 - 1 = (tpA P k).2 - 3 by omega, hv ((tpA P k).2 - 3) (by omega) (by omega), hv ((tpA P k).2 - 2) (by omega) (by omega), hv ((tpA P k).2 - 2 + 1) (by omega) (by omega), lCmp_z]
      refine ⟨⟨by omega, by omega⟩, fun q => ⟨⟨by omega, by omega⟩, ⟨by omega, by omega⟩, fun s4 e4 => step _ _ s4 ?_ (by rw [hp]; exact e4) (by omega)⟩, fun q => ⟨⟨by omega, by omega⟩, ⟨by omega, by omega⟩, fun s4 e4 => step _ _ s4 ?_ (by rw [hp]; exact e4) (by omega)⟩⟩
      · unfold newS
        rw [if_neg (by omega), if_neg (by omega), if_pos ep, hp, if_pos (by omega), show (tpA P k).2 - 2 + 1 = (tpA P k).2 - 3 + 2 by omega]
      · unfold newS
        rw [if_neg (by omega), if_neg (by omega), if_pos ep, hp, if_neg (by omega), show (tpA P k).2 - 2 = (tpA P k).2 - 3 + 1 by omega]
    · have ep : P k = 13 := by rw [c2, if_neg (by omega), if_neg (by omega), if_neg (by omega)]; omega
      have hp : partsN (P k) = 1 := by rw [ep]; rfl
      have v0 := (hbd ((tpA P k).2 - 1) (by omega) (by omega)).1
      rw [w32_of (show _ ≤ (tpA P k).2 - 1 by omega) (by omega), hv ((tpA P k).2 - 1) (by omega) (by omega), w64_of (by omega) (by omega)]
      refine ⟨⟨by omega, by omega⟩, ⟨by omega, by omega⟩, fun s6 e6 => step _ _ s6 ?_ (by rw [hp]; exact e6) (by omega)⟩
      unfold newS
      rw [if_neg (by omega), if_neg (by omega), if_neg (by omega), if_pos ep, hp]
    · have ep : P k = 19 + st := by rw [c2, if_neg c0, if_pos (by omega)]
      have hp : partsN (P k) = 0 := by unfold partsN; rw [if_neg (by omega)]
      rw [w32_of (show _ ≤ (tpA P k).2 + 1 by omega) (by omega)]
      refine ⟨⟨by omega, by omega⟩, ⟨by omega, by omega⟩, fun s7 e7 => step _ _ s7 ?_ (by rw [hp, Int.sub_zero]; exact e7) (by omega)⟩
      have ha := hA (st - 1) (by omega) (by omega)
      rw [show st - 1 + 1 = st by omega] at ha
      unfold newS
      rw [if_neg (by omega), if_pos (by omega), ha, ep, show 19 + st - 20 = st - 1 by omega]
    · have ep : P k = 41 := by rw [c2, if_neg c0, if_neg (by omega), if_pos c3]
      have hp : partsN (P k) = 0 := by unfold partsN; rw [if_neg (by omega)]
      rw [w32_of (show _ ≤ (tpA P k).2 + 1 by omega) (by omega)]
      refine ⟨⟨by omega, by omega⟩, fun s8 e8 => step _ _ s8 ?_ (by rw [hp, Int.sub_zero]; exact e8) (by omega)⟩
      unfold newS
      rw [if_pos (by omega), ep]
      rfl
    · have ep : P k = 40 + vl := by rw [c2, if_pos c0]
      have hp : partsN (P k) = 0 := by unfold partsN; rw [if_neg (by omega)]
      rw [w32_of (show _ ≤ (tpA P k).2 + 1 by omega) (by omega)]
      refine ⟨⟨by omega, by omega⟩, ⟨by omega, by omega⟩, fun s9 e9 => step _ _ s9 ?_ (by rw [hp, Int.sub_zero]; exact e9) (by omega)⟩
      unfold newS
      rw [if_pos (by omega), ep]
      omega
theorem R_reckons {w n mx : Int} {P F : Int → Int} (h13 : s 92 13 = b) (hP : WFp P n mx) (hm : mx ≤ 28) (hF : Fbd F mx) (hn : 0 < n) (hb : b = 0 ∨ b = 1) (hw : w = 0 ∨ w = 1) (hR : RF s b w P n) (hA : ∀ i, 0 ≤ i → i + 20 < mx → s 132 (i + 1) = F i) :
    Mw g (e + 3) M_X13_reckons [(21, 92), (0, w)] s (fun r s' => r = evS P F n ∧ Fr (fun o => o = 131) s s') := by
  obtain ⟨⟨r3, r4, r5⟩, r6⟩ := hR.2 hn
  refine S_X13_reckons (fun _ => ?_)
  rw [h13, w32_of (show _ ≤ 2 * b by omega) (by omega), w32_of (show _ ≤ 2 * b + w by omega) (by omega), w32_of (show _ ≤ 1600 * b by omega) (by omega), w32_of (by omega) (by omega)]
  have := reck_loop (g := g) (e := e) hP hm hF hn hb hw hR hA h13 n.toNat 0 s (by omega) Fr.rf (fun i i0 i1 => absurd i1 (by show ¬ i < 0; omega))
  rw [show ((0 : Nat) : Int) = 0 from rfl, Int.add_zero] at this
  exact ⟨⟨by omega, by omega⟩, this⟩
end RFORM
