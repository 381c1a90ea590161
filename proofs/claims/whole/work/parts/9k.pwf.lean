/-! the descent ends, and its steps can be worked -/
abbrev BX : Type := (Int → Bool) × Int
def tp1 (c : Int) (X : BX) : BX := (fun i => if i = X.2 - partsN c then newB c X.1 (X.2 - partsN c) else X.1 i, X.2 - partsN c + 1)
def tpL : List Int → BX → BX
  | [], X => X
  | c :: r, X => tpL r (tp1 c X)
def ok1 (mx c : Int) (X : BX) : Prop := 0 ≤ X.2 - partsN c ∧ X.2 - partsN c < 90 ∧ (1 ≤ c ∧ c ≤ 14 ∨ 20 ≤ c ∧ c < mx ∨ 40 ≤ c ∧ c ≤ 10039) ∧ (c = 14 → X.1 (X.2 - 3) = true) ∧ (c = 11 ∨ c = 12 → X.1 (X.2 - 2) = true ∧ X.1 (X.2 - 1) = true) ∧ (c = 13 → X.1 (X.2 - 1) = true)
def okLs (mx : Int) : List Int → BX → Prop
  | [], _ => True
  | c :: r, X => ok1 mx c X ∧ okLs mx r (tp1 c X)
theorem tpL_app : ∀ (a b : List Int) (X : BX), tpL (a ++ b) X = tpL b (tpL a X)
  | [], _, _ => rfl
  | c :: r, b, X => tpL_app r b (tp1 c X)
theorem okLs_app {mx : Int} : ∀ (a b : List Int) (X : BX), okLs mx a X → okLs mx b (tpL a X) → okLs mx (a ++ b) X
  | [], _, _, _, h => h
  | c :: r, b, X, h, h2 => ⟨h.1, okLs_app r b (tp1 c X) h.2 h2⟩
theorem okLs_P {mx : Int} {P : Int → Int} : ∀ (N : List Int) (j : Nat), (∀ i : Nat, i < N.length → P ((j + i : Nat) : Int) = N.getD i 0) → okLs mx N (tpA P j) → (∀ k : Nat, j ≤ k → k < j + N.length → okP P mx k) ∧ tpA P (j + N.length) = tpL N (tpA P j)
  | [], j, _, _ => ⟨fun k h1 h2 => absurd h2 (by show ¬ k < j + 0; omega), rfl⟩
  | c :: r, j, hP, h => by
    have e0 : P (j : Int) = c := by have := hP 0 (by show 0 < r.length + 1; omega); exact this
    have et : tpA P (j + 1) = tp1 c (tpA P j) := by rw [← e0]; rfl
    have ih := okLs_P (mx := mx) (P := P) r (j + 1) (fun i hi => by
      have := hP (i + 1) (by show i + 1 < r.length + 1; omega)
      rw [show j + 1 + i = j + (i + 1) by omega, this]
      rfl) (by rw [et]; exact h.2)
    refine ⟨fun k h1 h2 => ?_, ?_⟩
    · by_cases z : k = j
      · rw [z]
        unfold okP
        rw [e0]
        exact h.1
      · exact ih.1 k (by omega) (by have : k < j + (r.length + 1) := h2; omega)
    · rw [show j + (c :: r).length = j + 1 + r.length by rw [List.length_cons]; omega, ih.2, et]
      rfl
/-- one value more, known to be 0 or 1 where b -/
def Wv (mx : Int) (b : Bool) (N : List Int) (v : Int) : Prop := ∀ B : Int → Bool, okLs mx N (B, v) ∧ (tpL N (B, v)).2 = v + 1 ∧ (∀ i, i < v → (tpL N (B, v)).1 i = B i) ∧ (b = true → (tpL N (B, v)).1 v = true)
/-- the value on top made another -/
def Wr (mx : Int) (b : Bool) (N : List Int) (v : Int) : Prop := ∀ B : Int → Bool, (b = true → B v = true) → okLs mx N (B, v + 1) ∧ (tpL N (B, v + 1)).2 = v + 1 ∧ (∀ i, i < v → (tpL N (B, v + 1)).1 i = B i) ∧ (b = true → (tpL N (B, v + 1)).1 v = true)
section PWF
variable {mx v : Int} {b : Bool} {N N1 N2 N3 : List Int}
theorem Wv.r (h : Wv mx b N1 v) (h2 : Wr mx b N2 v) : Wv mx b (N1 ++ N2) v := by
  intro B
  have q := h B
  have e : tpL N1 (B, v) = ((tpL N1 (B, v)).1, v + 1) := Prod.ext rfl q.2.1
  have p := h2 (tpL N1 (B, v)).1 q.2.2.2
  rw [← e] at p
  refine ⟨okLs_app _ _ _ q.1 p.1, ?_, ?_, ?_⟩
  · rw [tpL_app]; exact p.2.1
  · intro i hi; rw [tpL_app, p.2.2.1 i hi]; exact q.2.2.1 i hi
  · intro y; rw [tpL_app]; exact p.2.2.2 y
theorem Wr.nil : Wr mx b [] v := fun _ h => ⟨trivial, rfl, fun _ _ => rfl, h⟩
theorem pt_2 {c : Int} (h : 1 ≤ c ∧ c ≤ 12) : partsN c = 2 := by
  unfold partsN
  rw [if_pos (by omega), if_neg (by omega), if_neg (by omega)]
/-- two values made one -/
theorem W_two {c : Int} {b1 b2 : Bool} {B : Int → Bool} (hc : 1 ≤ c ∧ c ≤ 12) (v0 : 0 ≤ v ∧ v < 90) (hb : c = 11 ∨ c = 12 → B v = true ∧ B (v + 1) = true) : okLs mx [c] (B, v + 2) ∧ (tpL [c] (B, v + 2)).2 = v + 1 ∧ (∀ i, i < v → (tpL [c] (B, v + 2)).1 i = B i) ∧ (8 ≤ c → (tpL [c] (B, v + 2)).1 v = true) := by
  have p2 := pt_2 hc
  refine ⟨⟨⟨by show 0 ≤ v + 2 - partsN c; omega, by show v + 2 - partsN c < 90; omega, Or.inl (by omega), fun y => by omega, fun y => ?_, fun y => by omega⟩, trivial⟩, by show v + 2 - partsN c + 1 = v + 1; omega, fun i hi => ?_, fun y => ?_⟩
  · have := hb y
    show B (v + 2 - 2) = true ∧ B (v + 2 - 1) = true
    rw [show v + 2 - 2 = v by omega, show v + 2 - 1 = v + 1 by omega]
    exact this
  · show (if i = v + 2 - partsN c then newB c B (v + 2 - partsN c) else B i) = B i
    rw [if_neg (by omega)]
  · show (if v = v + 2 - partsN c then newB c B (v + 2 - partsN c) else B v) = true
    rw [if_pos (by omega), show v + 2 - partsN c = v by omega]
    unfold newB
    rw [if_neg (by omega), if_neg (by omega), if_neg (by omega), if_neg (by omega)]
    by_cases z : c = 11 ∨ c = 12
    · rw [if_pos z, (hb z).1, (hb z).2]; rfl
    · rw [if_neg z]; exact decide_eq_true y
/-- two parts and their step -/
theorem Wv.two {c : Int} {b1 b2 : Bool} (h1 : Wv mx b1 N1 v) (h2 : Wv mx b2 N2 (v + 1)) (hc : 1 ≤ c ∧ c ≤ 12) (v0 : 0 ≤ v ∧ v < 80) (hb : c = 11 ∨ c = 12 → b1 = true ∧ b2 = true) (hr : b = true → 8 ≤ c) : Wv mx b (N1 ++ (N2 ++ [c])) v := by
  intro B
  have q := h1 B
  have e : tpL N1 (B, v) = ((tpL N1 (B, v)).1, v + 1) := Prod.ext rfl q.2.1
  have p := h2 (tpL N1 (B, v)).1
  rw [← e] at p
  have e2 : tpL N2 (tpL N1 (B, v)) = ((tpL N2 (tpL N1 (B, v))).1, v + 2) := Prod.ext rfl (by rw [p.2.1]; omega)
  have r := W_two (mx := mx) (b1 := b1) (b2 := b2) (B := (tpL N2 (tpL N1 (B, v))).1) hc ⟨v0.1, by omega⟩ (fun y => ⟨by rw [p.2.2.1 v (by omega)]; exact q.2.2.2 (hb y).1, p.2.2.2 (hb y).2⟩)
  rw [← e2] at r
  refine ⟨okLs_app _ _ _ q.1 (okLs_app _ _ _ p.1 r.1), ?_, ?_, ?_⟩
  · rw [tpL_app, tpL_app]; exact r.2.1
  · intro i hi; rw [tpL_app, tpL_app, r.2.2.1 i hi, p.2.2.1 i (by omega)]; exact q.2.2.1 i hi
  · intro y; rw [tpL_app, tpL_app]; exact r.2.2.2 (hr y)
/-- a part more, its step, the rest -/
theorem Wr.two {c : Int} (h2 : Wv mx b N1 (v + 1)) (h3 : Wr mx b N2 v) (hc : 1 ≤ c ∧ c ≤ 12) (v0 : 0 ≤ v ∧ v < 80) (hb : c = 11 ∨ c = 12 → b = true) (hr : b = true → 8 ≤ c) : Wr mx b (N1 ++ ([c] ++ N2)) v := by
  intro B hB
  have p := h2 B
  have e2 : tpL N1 (B, v + 1) = ((tpL N1 (B, v + 1)).1, v + 2) := Prod.ext rfl (by rw [p.2.1]; omega)
  have r := W_two (mx := mx) (b1 := b) (b2 := b) (B := (tpL N1 (B, v + 1)).1) hc ⟨v0.1, by omega⟩ (fun y => ⟨by rw [p.2.2.1 v (by omega)]; exact hB (hb y), p.2.2.2 (hb y)⟩)
  rw [← e2] at r
  have e3 : tpL [c] (tpL N1 (B, v + 1)) = ((tpL [c] (tpL N1 (B, v + 1))).1, v + 1) := Prod.ext rfl r.2.1
  have q := h3 (tpL [c] (tpL N1 (B, v + 1))).1 (fun y => r.2.2.2 (hr y))
  rw [← e3] at q
  refine ⟨okLs_app _ _ _ p.1 (okLs_app _ _ _ r.1 q.1), ?_, ?_, ?_⟩
  · rw [tpL_app, tpL_app]; exact q.2.1
  · intro i hi; rw [tpL_app, tpL_app, q.2.2.1 i hi, r.2.2.1 i hi]; exact p.2.2.1 i (by omega)
  · intro y; rw [tpL_app, tpL_app]; exact q.2.2.2 y
theorem Wv.one {c : Int} (hc : 20 ≤ c ∧ c < mx ∨ 40 ≤ c ∧ c ≤ 10039) (hm : mx ≤ 28) (v0 : 0 ≤ v ∧ v < 80) (hb : b = true → c = 41) : Wv mx b [c] v := by
  intro B
  have p0 : partsN c = 0 := by unfold partsN; rw [if_neg (by omega)]
  refine ⟨⟨⟨by show 0 ≤ v - partsN c; omega, by show v - partsN c < 90; omega, Or.inr hc, fun y => by omega, fun y => by omega, fun y => by omega⟩, trivial⟩, by show v - partsN c + 1 = v + 1; omega, fun i hi => ?_, fun y => ?_⟩
  · show (if i = v - partsN c then newB c B (v - partsN c) else B i) = B i
    rw [if_neg (by omega)]
  · have := hb y
    show (if v = v - partsN c then newB c B (v - partsN c) else B v) = true
    rw [if_pos (by omega), this]
    rfl
theorem Wv.not (h : Wv mx true N v) (v0 : 0 ≤ v ∧ v < 80) : Wv mx true (N ++ [13]) v := by
  intro B
  have q := h B
  have e : tpL N (B, v) = ((tpL N (B, v)).1, v + 1) := Prod.ext rfl q.2.1
  have bt := q.2.2.2 rfl
  have r : okLs mx [13] ((tpL N (B, v)).1, v + 1) ∧ (tpL [13] ((tpL N (B, v)).1, v + 1)).2 = v + 1 ∧ (∀ i, i < v → (tpL [13] ((tpL N (B, v)).1, v + 1)).1 i = (tpL N (B, v)).1 i) ∧ (tpL [13] ((tpL N (B, v)).1, v + 1)).1 v = true := by
    refine ⟨⟨⟨by show 0 ≤ v + 1 - 1; omega, by show v + 1 - 1 < 90; omega, Or.inl (by omega), fun y => by omega, fun y => by omega, fun y => ?_⟩, trivial⟩, by show v + 1 - 1 + 1 = v + 1; omega, fun i hi => ?_, ?_⟩
    · show (tpL N (B, v)).1 (v + 1 - 1) = true
      rw [show v + 1 - 1 = v by omega]; exact bt
    · show (if i = v + 1 - 1 then _ else (tpL N (B, v)).1 i) = (tpL N (B, v)).1 i
      rw [if_neg (by omega)]
    · show (if v = v + 1 - 1 then (tpL N (B, v)).1 (v + 1 - 1) else _) = true
      rw [if_pos (by omega), show v + 1 - 1 = v by omega]; exact bt
  rw [← e] at r
  refine ⟨okLs_app _ _ _ q.1 r.1, ?_, ?_, ?_⟩
  · rw [tpL_app]; exact r.2.1
  · intro i hi; rw [tpL_app, r.2.2.1 i hi]; exact q.2.2.1 i hi
  · intro y; rw [tpL_app]; exact r.2.2.2
theorem Wv.if3 (h0 : Wv mx true N1 v) (h1 : Wv mx false N2 (v + 1)) (h2 : Wv mx false N3 (v + 2)) (v0 : 0 ≤ v ∧ v < 80) : Wv mx false (N1 ++ (N2 ++ (N3 ++ [14]))) v := by
  intro B
  have q := h0 B
  have e : tpL N1 (B, v) = ((tpL N1 (B, v)).1, v + 1) := Prod.ext rfl q.2.1
  have p := h1 (tpL N1 (B, v)).1
  rw [← e] at p
  have e2 : tpL N2 (tpL N1 (B, v)) = ((tpL N2 (tpL N1 (B, v))).1, v + 2) := Prod.ext rfl (by rw [p.2.1]; omega)
  have u := h2 (tpL N2 (tpL N1 (B, v))).1
  rw [← e2] at u
  have e3 : tpL N3 (tpL N2 (tpL N1 (B, v))) = ((tpL N3 (tpL N2 (tpL N1 (B, v)))).1, v + 3) := Prod.ext rfl (by rw [u.2.1]; omega)
  have r : okLs mx [14] ((tpL N3 (tpL N2 (tpL N1 (B, v)))).1, v + 3) ∧ (tpL [14] ((tpL N3 (tpL N2 (tpL N1 (B, v)))).1, v + 3)).2 = v + 1 ∧ (∀ i, i < v → (tpL [14] ((tpL N3 (tpL N2 (tpL N1 (B, v)))).1, v + 3)).1 i = (tpL N3 (tpL N2 (tpL N1 (B, v)))).1 i) := by
    refine ⟨⟨⟨by show 0 ≤ v + 3 - 3; omega, by show v + 3 - 3 < 90; omega, Or.inl (by omega), fun y => ?_, fun y => by omega, fun y => by omega⟩, trivial⟩, by show v + 3 - 3 + 1 = v + 1; omega, fun i hi => ?_⟩
    · show (tpL N3 (tpL N2 (tpL N1 (B, v)))).1 (v + 3 - 3) = true
      rw [show v + 3 - 3 = v by omega, u.2.2.1 v (by omega), p.2.2.1 v (by omega)]
      exact q.2.2.2 rfl
    · show (if i = v + 3 - 3 then _ else (tpL N3 (tpL N2 (tpL N1 (B, v)))).1 i) = (tpL N3 (tpL N2 (tpL N1 (B, v)))).1 i
      rw [if_neg (by omega)]
  rw [← e3] at r
  refine ⟨okLs_app _ _ _ q.1 (okLs_app _ _ _ p.1 (okLs_app _ _ _ u.1 r.1)), ?_, ?_, fun y => by cases y⟩
  · rw [tpL_app, tpL_app, tpL_app]; exact r.2.1
  · intro i hi; rw [tpL_app, tpL_app, tpL_app, r.2.2 i hi, u.2.2.1 i (by omega), p.2.2.1 i (by omega)]; exact q.2.2.1 i hi
end PWF
def lW (nt : Nat) : Int := if nt ≤ 1 then 0 else if nt ≤ 3 then 1 else if nt ≤ 5 then 2 else if nt ≤ 7 then 3 else if nt ≤ 9 then 4 else if nt ≤ 13 then 5 else 0
/-- what is told by part nt can be worked -/
def wfN (mx : Int) (nt : Nat) (o : Int) (N : List Int) : Prop := ∀ v, 0 ≤ v → v ≤ 7 * o + lW nt → match nt with
  | 0 => Wv mx true N v
  | 1 => Wr mx true N v
  | 2 => Wv mx true N v
  | 3 => Wr mx true N v
  | 4 => Wv mx true N v
  | 5 => Wv mx true N v
  | 6 => Wv mx false N v
  | 7 => Wr mx false N v
  | 8 => Wv mx false N v
  | 9 => Wr mx false N v
  | 10 => Wv mx false N v
  | 11 => Wv mx false N v
  | 12 => Wv mx false N v
  | 13 => Wv mx false N v
  | i + 14 => ∃ N1 N2, N = N1 ++ (N2 ++ [chC i]) ∧ Wv mx false N1 v ∧ Wv mx false N2 (v + 1)
def wfR (t : Tp) (mb : Int) (k nt : Nat) : Prop := ∀ (o a b : Int) (N : List Int), (0 ≤ o ∧ o ≤ 7) → (0 ≤ a ∧ a ≤ t.1) → lxT t a = -1 → pF t mb k nt o a = some ((0, b), N) → wfN (if mb = 0 then 25 else 28) nt o N
