/-! views of the state: a town (T), a world (A), frames; the words of what the years do -/
theorem w32_of {x : Int} (h1 : -2147483648 ≤ x) (h2 : x ≤ 2147483647) : w32 x = x := w32_id ⟨h1, h2⟩
theorem w64_of {x : Int} (h1 : -9223372036854775808 ≤ x) (h2 : x ≤ 9223372036854775807) : w64 x = x := w64_id ⟨h1, h2⟩
theorem td_of {a b : Int} (h : 0 ≤ a) : Int.tdiv a b = a / b := Int.tdiv_eq_ediv_of_nonneg h
theorem tm_of {a b : Int} (h : 0 ≤ a) : Int.tmod a b = a % b := Int.tmod_eq_emod_of_nonneg h
/-- an exact end: this answer, this state -/
abbrev Ex (v : Int) (t : Sg) : Int → Sg → Prop := fun r s' => r = v ∧ s' = t
theorem Mw.ex {g : GT} {d : Nat} {M : MI} {args : List AV} {s t : Sg} {v : Int} {Q : Int → Sg → Prop} (h : Mw g d M args s (Ex v t)) (hq : Q v t) : Mw g d M args s Q :=
  h.imp (fun r s2 e => by obtain ⟨rfl, rfl⟩ := e; exact hq)
/-- the first of n places from a on -/
def scanF : Nat → Int → (Int → Bool) → Int
  | 0, _, _ => -1
  | n + 1, a, p => if p a then a else scanF n (a + 1) p
theorem scanF_le (n : Nat) : ∀ (a : Int) (p : Int → Bool), scanF n a p = -1 ∨ (a ≤ scanF n a p ∧ scanF n a p < a + n ∧ p (scanF n a p) = true ∧ ∀ k, a ≤ k → k < scanF n a p → p k = false) := by
  induction n with
  | zero => intro a p; left; rfl
  | succ n ih =>
    intro a p
    unfold scanF
    by_cases h : p a = true
    · rw [if_pos h]
      right
      exact ⟨by omega, by omega, h, fun k h1 h2 => by omega⟩
    · rw [if_neg h]
      rcases ih (a + 1) p with h1 | ⟨h1, h2, h3, h4⟩
      · left; exact h1
      · right
        refine ⟨by omega, by omega, h3, fun k k1 k2 => ?_⟩
        by_cases e : k = a
        · subst e; exact Bool.eq_false_iff.mpr h
        · exact h4 k (by omega) k2
theorem scanF_none (n : Nat) : ∀ {a : Int} {p : Int → Bool}, 0 ≤ a → (scanF n a p = -1 ↔ ∀ k, a ≤ k → k < a + n → p k = false) := by
  induction n with
  | zero => intro a p _; exact ⟨fun _ k h1 h2 => by omega, fun _ => rfl⟩
  | succ n ih =>
    intro a p ha
    unfold scanF
    by_cases h : p a = true
    · rw [if_pos h]
      exact ⟨fun q => by omega, fun q => by rw [q a (by omega) (by omega)] at h; cases h⟩
    · rw [if_neg h, ih (by omega)]
      constructor
      · intro q k k1 k2
        by_cases e : k = a
        · subst e; exact Bool.eq_false_iff.mpr h
        · exact q k (by omega) (by omega)
      · intro q k k1 k2
        exact q k (by omega) (by omega)
theorem scanF_first {n : Nat} {a c : Int} {p : Int → Bool} (ha : 0 ≤ a) (h1 : a ≤ c) (h2 : c < a + n) (hp : p c = true) (hb : ∀ k, a ≤ k → k < c → p k = false) : scanF n a p = c := by
  rcases scanF_le n a p with h | ⟨q1, q2, q3, q4⟩
  · have := (scanF_none n ha).mp h c h1 h2
    rw [hp] at this
    cases this
  · by_cases l : scanF n a p < c
    · have := hb _ q1 l
      rw [q3] at this
      cases this
    · by_cases l2 : c < scanF n a p
      · have := q4 c h1 l2
        rw [hp] at this
        cases this
      · omega
theorem scanF_congr (n : Nat) : ∀ {a : Int} {p q : Int → Bool}, (∀ k, a ≤ k → k < a + n → p k = q k) → scanF n a p = scanF n a q := by
  induction n with
  | zero => intros; rfl
  | succ n ih =>
    intro a p q h
    unfold scanF
    rw [h a (by omega) (by omega), ih (fun k k1 k2 => h k (by omega) (by omega))]
-- states that differ at some objects alone
def Fr (J : Int → Prop) (s s2 : Sg) : Prop := ∀ o, ¬ J o → s2 o = s o
theorem Fr.rf {J : Int → Prop} {s : Sg} : Fr J s s := fun _ _ => rfl
theorem Fr.tr {J : Int → Prop} {s s2 s3 : Sg} (h : Fr J s s2) (h2 : Fr J s2 s3) : Fr J s s3 := fun o ho => (h2 o ho).trans (h o ho)
theorem Fr.wk {J K : Int → Prop} {s s2 : Sg} (h : Fr J s s2) (hk : ∀ o, J o → K o) : Fr K s s2 := fun o ho => h o (fun q => ho (hk o q))
theorem ups_at (s : Sg) {o k v o2 : Int} (h : o2 ≠ o) : ups s o k v o2 = s o2 := by funext k2; exact ups_o s h
theorem Fr.up {J : Int → Prop} {s : Sg} {o k v : Int} (h : J o) : Fr J s (ups s o k v) := fun o2 h2 => ups_at s (fun e => h2 (e ▸ h))
theorem cpy_at (s : Sg) {a sp b dp n o : Int} (h : o ≠ b) : cpy s a sp b dp n o = s o := by funext k; unfold cpy; rw [if_neg (fun q => h q.1)]
theorem Fr.cp {J : Int → Prop} {s : Sg} {a sp b dp n : Int} (h : J b) : Fr J s (cpy s a sp b dp n) := fun o2 h2 => cpy_at s (fun e => h2 (e ▸ h))
/-- what a formula's working leaves changed: values and facts of the two towns -/
def Jk (o : Int) : Prop := o = 20 ∨ o = 23 ∨ o = 24 ∨ o = 41 ∨ o = 44 ∨ o = 45
/-- the objects of a world, and Jk -/
def Jw (th o : Int) : Prop := (th ≤ o ∧ o ≤ th + 6) ∨ Jk o
def isT (tw : Int) : Prop := tw = 4 ∨ tw = 25
def isW (th : Int) : Prop := th = 48 ∨ th = 58
def CT (s : Sg) (tw : Int) (T : Tn) : Prop := s tw = T 0 ∧ ∀ a, 1 ≤ a → a ≤ 18 → a ≠ 16 → s (tw + a) = T a
def CW (s : Sg) (th : Int) (A : Wd) : Prop := s th 1 = A 0 1 ∧ s th 2 = A 0 2 ∧ s th 9 = A 0 9 ∧ ∀ a, 1 ≤ a → a ≤ 6 → s (th + a) = A a
theorem CT.fr {J : Int → Prop} {s s2 : Sg} {tw : Int} {T : Tn} (h : CT s tw T) (hf : Fr J s s2) (hj : ∀ o, tw ≤ o → o ≤ tw + 18 → o ≠ tw + 16 → ¬ J o) : CT s2 tw T := by
  refine ⟨?_, fun a h1 h2 h3 => ?_⟩
  · rw [hf tw (hj _ (by omega) (by omega) (by omega))]; exact h.1
  · rw [hf (tw + a) (hj _ (by omega) (by omega) (by omega))]; exact h.2 a h1 h2 h3
theorem CW.fr {J : Int → Prop} {s s2 : Sg} {th : Int} {A : Wd} (h : CW s th A) (hf : Fr J s s2) (hj : ∀ o, th ≤ o → o ≤ th + 6 → ¬ J o) : CW s2 th A := by
  have e := hf th (hj _ (by omega) (by omega))
  refine ⟨by rw [e]; exact h.1, by rw [e]; exact h.2.1, by rw [e]; exact h.2.2.1, fun a h1 h2 => ?_⟩
  rw [hf (th + a) (hj _ (by omega) (by omega))]; exact h.2.2.2 a h1 h2
theorem CW.up {s : Sg} {th a i v : Int} {A : Wd} (h : CW s th A) (h1 : 1 ≤ a) (h2 : a ≤ 6) : CW (ups s (th + a) i v) th (ups A a i v) := by
  have e : ups s (th + a) i v th = s th := ups_at s (by omega)
  have e2 : ups A a i v 0 = A 0 := ups_at A (by omega)
  refine ⟨by rw [e, e2]; exact h.1, by rw [e, e2]; exact h.2.1, by rw [e, e2]; exact h.2.2.1, fun b b1 b2 => ?_⟩
  have hb := h.2.2.2 b b1 b2
  funext k
  unfold ups
  rw [hb]
  by_cases q : b = a ∧ k = i
  · rw [if_pos q, if_pos ⟨by omega, q.2⟩]
  · rw [if_neg q, if_neg (fun z => q ⟨by omega, z.2⟩)]
theorem CW.up0 {s : Sg} {th i v : Int} {A : Wd} (h : CW s th A) : CW (ups s th i v) th (ups A 0 i v) := by
  have e : ∀ k, ups s th i v th k = if k = i then v else s th k := fun k => by simp [ups]
  have e2 : ∀ k, ups A 0 i v 0 k = if k = i then v else A 0 k := fun k => by simp [ups]
  refine ⟨by rw [e, e2, h.1], by rw [e, e2, h.2.1], by rw [e, e2, h.2.2.1], fun a h1 h2 => ?_⟩
  rw [ups_at s (by omega), ups_at A (by omega)]
  exact h.2.2.2 a h1 h2
theorem CW.skip {s : Sg} {th i v : Int} {A : Wd} (h : CW s th A) (h1 : i ≠ 1) (h2 : i ≠ 2) (h9 : i ≠ 9) : CW (ups s th i v) th A := by
  refine ⟨by rw [ups_k s (by omega)]; exact h.1, by rw [ups_k s (by omega)]; exact h.2.1, by rw [ups_k s (by omega)]; exact h.2.2.1, fun a h1 h2 => ?_⟩
  rw [ups_at s (by omega)]
  exact h.2.2.2 a h1 h2
-- the words of a world: A 0 1 the year, A 0 2 the ended feuds, A 0 9 how many are kept, 1 homes, 2 strengths, 3 places, 4 who lies, 5 heights, 6 kept
def ageS (T : Tn) (A : Wd) (c : Int) : Int := A 0 1 - T 9 c
def whS (T : Tn) (A : Wd) (c : Int) : Int := if A 3 c = -1 then (if T 0 15 ≤ ageS T A c then 2 else if T 0 14 ≤ ageS T A c then 1 else 0) else 3
def nearS (T : Tn) (A : Wd) (c : Int) : Bool := T 10 c == -1 || (A 3 (T 10 c) != -1 && A 3 (T 10 c) / 16 == A 3 c / 16)
def beaS (T : Tn) (A : Wd) (c loss : Int) : Int := if nearS T A c then max 0 (A 2 c - loss) else max 0 (A 2 c - loss) / 2
def loaS (T : Tn) (A : Wd) (sp : Int) : Int := (A 5 (sp / 4) - 1 - sp % 4) * T 0 16
def weakP (T : Tn) (A : Wd) (sp : Int) : Bool := A 4 sp != -1 && decide (beaS T A (A 4 sp) 0 < loaS T A sp)
def weaS (T : Tn) (A : Wd) (w : Int) : Int := scanF 16 (16 * w) (weakP T A)
def putA (A : Wd) (c sp : Int) : Wd := ups (ups (ups A 3 c sp) 4 sp c) 5 (sp / 4) (A 5 (sp / 4) + 1)
def liftA (A : Wd) (c : Int) : Wd := if A 3 c = -1 then A else ups (ups (ups A 3 c (-1)) 4 (A 3 c) (-1)) 5 (A 3 c / 4) (A 5 (A 3 c / 4) - 1)
def ent (y c w b : Int) : Int := y * 64 + c * 8 + w * 2 + b
def slipA (A : Wd) : Wd := if A 0 9 = 60 then ups (cpy A 6 1 6 0 59) 0 9 59 else A
def keepA (A : Wd) (c w b : Int) : Wd := ups (ups (slipA A) 6 (slipA A 0 9) (ent (A 0 1) c w b)) 0 9 (slipA A 0 9 + 1)
abbrev WX : Type := Wd × Int × Int
def drop1 (X : WX) (k : Int) : WX := if X.1 4 k = -1 then X else (keepA (liftA X.1 (X.1 4 k)) (X.1 4 k) (k / 16) 0, bOr X.2.1 (bShl 1 (X.1 4 k)), w32 (X.2.2 + 1))
def dropL : Nat → WX → Int → WX
  | 0, X, _ => X
  | n + 1, X, k => dropL n (drop1 X k) (k + 1)
def dropX (X : WX) (sp : Int) : WX := dropL (X.1 5 (sp / 4) - sp % 4).toNat X sp
def looF (T : Tn) (A : Wd) : Nat → Int → Int
  | 0, _ => -1
  | n + 1, w => if weaS T A w = -1 then looF T A n (w + 1) else weaS T A w
def looS (T : Tn) (A : Wd) : Int := looF T A (T 1 2).toNat 0
def fallX (T : Tn) : Nat → WX → WX
  | 0, X => X
  | n + 1, X => if looS T X.1 = -1 then X else fallX T n (dropX X (looS T X.1))
-- numbers that can be
def TOK (T : Tn) : Prop :=
  (0 ≤ T 1 0 ∧ T 1 0 ≤ 6) ∧ (0 ≤ T 1 1 ∧ T 1 1 ≤ 8) ∧ (0 ≤ T 1 2 ∧ T 1 2 ≤ 4) ∧ (0 ≤ T 0 13 ∧ T 0 13 ≤ 10) ∧
  (∀ h, 0 ≤ h → h < 6 → (0 ≤ T 6 h ∧ T 6 h ≤ 9) ∧ 0 ≤ T 7 h ∧ T 7 h ≤ 9) ∧
  (∀ c, 0 ≤ c → c < 8 → (0 ≤ T 8 c ∧ T 8 c ≤ 5) ∧ (0 ≤ T 9 c ∧ T 9 c ≤ 99) ∧ -1 ≤ T 10 c ∧ T 10 c < T 1 1) ∧
  (∀ c, 0 ≤ c → c < T 1 1 → T 8 c < T 1 0) ∧
  (∀ w, 0 ≤ w → w < T 1 2 → (1 ≤ T 11 w ∧ T 11 w ≤ 4) ∧ 1 ≤ T 12 w ∧ T 12 w ≤ 4) ∧
  (∀ f, 0 ≤ f → f < T 0 13 → ∃ a b : Nat, (a : Int) < T 1 1 ∧ (b : Int) < T 1 1 ∧ a ≠ b ∧ T 13 f = 2 ^ a + 2 ^ b) ∧
  (1 ≤ T 0 14 ∧ T 0 14 < T 0 15 ∧ T 0 15 ≤ 30) ∧ (0 ≤ T 0 16 ∧ T 0 16 ≤ 99) ∧ (0 ≤ T 0 17 ∧ T 0 17 ≤ 100) ∧ (0 ≤ T 0 18 ∧ T 0 18 ≤ 99)
/-- places and who lies there go together -/
def WI0 (A : Wd) : Prop :=
  (∀ c, 0 ≤ c → c < 8 → A 3 c = -1 ∨ (0 ≤ A 3 c ∧ A 3 c < 64 ∧ A 4 (A 3 c) = c)) ∧
  (∀ p, 0 ≤ p → p < 64 → A 4 p = -1 ∨ (0 ≤ A 4 p ∧ A 4 p < 8 ∧ A 3 (A 4 p) = p))
/-- the numbers of a world -/
def WN (T : Tn) (A : Wd) : Prop :=
  (0 ≤ A 0 1 ∧ A 0 1 ≤ 1000) ∧ (0 ≤ A 0 2 ∧ A 0 2 < 1024) ∧ (0 ≤ A 0 9 ∧ A 0 9 ≤ 60) ∧
  (∀ c, 0 ≤ c → c < 8 → (0 ≤ A 1 c ∧ A 1 c < 6) ∧ 0 ≤ A 2 c ∧ A 2 c ≤ 999) ∧ (∀ c, 0 ≤ c → c < T 1 1 → A 1 c < T 1 0)
/-- columns without holes, within their walls -/
def WH (T : Tn) (A : Wd) : Prop :=
  (∀ k, 0 ≤ k → k < 16 → 0 ≤ A 5 k ∧ A 5 k ≤ 4 ∧ ∀ j, 0 ≤ j → j < 4 → (A 4 (4 * k + j) = -1 ↔ A 5 k ≤ j)) ∧
  (∀ c, 0 ≤ c → c < 8 → A 3 c ≠ -1 → c < T 1 1 ∧ A 3 c / 16 < T 1 2 ∧ A 3 c / 4 % 4 < T 11 (A 3 c / 16) ∧ A 3 c % 4 < T 12 (A 3 c / 16) ∧ T 0 15 ≤ ageS T A c)
def WOK (T : Tn) (A : Wd) : Prop := WN T A ∧ WI0 A ∧ WH T A
