/-! order: rows of the stones on the shelf; folds, and the class -/
abbrev OS : Type := Int × (Int → Int)
def fldF : Nat → (Nat → OS → OS) → OS → OS
  | 0, _, st => st
  | n + 1, f, st => f n (fldF n f st)
/-- a row r that builds v -/
def lea (v : Int) (r : Int → Int) (st : OS) : OS := if st.1 < v then (v, r) else st
def b1S (T : Tn) (B : Wd) (c : Int) : Int := if bldW T B c = -1 then 0 else 1
/-- all rows of k more stones out of lf, behind d that make the row r and the world B -/
def ordF (T : Tn) : Nat → Nat → (Int → Int) → Wd → (Int → Bool) → Int → OS → OS
  | 0, _, r, _, _, n, st => lea n r st
  | k + 1, d, r, B, lf, n, st => fldF 8 (fun c st => if lf c then ordF T k (d + 1) (snB r d c) (bldA T B c) (fun x => lf x && !(x == (c : Int))) (n + b1S T B c) st else st) st
theorem fldF_congr : ∀ (n : Nat) {f h : Nat → OS → OS} {st : OS}, (∀ k, k < n → ∀ st, f k st = h k st) → fldF n f st = fldF n h st := by
  intro n
  induction n with
  | zero => intros; rfl
  | succ n ih =>
    intro f h st hk
    show f n (fldF n f st) = h n (fldF n h st)
    rw [ih (fun k hk2 => hk k (by omega)), hk n (by omega)]
theorem fldF_id : ∀ (n : Nat) {f : Nat → OS → OS} {st : OS}, (∀ k, k < n → f k st = st) → fldF n f st = st := by
  intro n
  induction n with
  | zero => intros; rfl
  | succ n ih =>
    intro f st hk
    show f n (fldF n f st) = st
    rw [ih (fun k hk2 => hk k (by omega)), hk n (by omega)]
theorem b1S_bd (T : Tn) (B : Wd) (c : Int) : 0 ≤ b1S T B c ∧ b1S T B c ≤ 1 := by unfold b1S; split <;> omega
/-- what can't be more than there is leaves all as it is -/
theorem ord_hi {T : Tn} : ∀ (k d : Nat) (r : Int → Int) (B : Wd) (lf : Int → Bool) (n : Int) (st : OS), n + k ≤ st.1 → ordF T k d r B lf n st = st := by
  intro k
  induction k with
  | zero =>
    intro d r B lf n st h
    show lea n r st = st
    unfold lea
    rw [if_neg (by omega)]
  | succ k ih =>
    intro d r B lf n st h
    refine fldF_id 8 (fun c _ => ?_)
    have := b1S_bd T B c
    by_cases z : lf c = true
    · rw [if_pos z]
      exact ih _ _ _ _ _ _ (by omega)
    · rw [if_neg z]
theorem fld_ge {m : Int} : ∀ (n : Nat) {f : Nat → OS → OS} {st : OS}, (∀ k st, st.1 ≤ (f k st).1) → st.1 ≤ (fldF n f st).1 := by
  intro n
  induction n with
  | zero => intro f st _; exact Int.le_refl _
  | succ n ih =>
    intro f st h
    have := ih (st := st) h
    have h2 := h n (fldF n f st)
    show st.1 ≤ (f n (fldF n f st)).1
    omega
theorem ord_mono {T : Tn} : ∀ (k d : Nat) (r : Int → Int) (B : Wd) (lf : Int → Bool) (n : Int) (st : OS), st.1 ≤ (ordF T k d r B lf n st).1 := by
  intro k
  induction k with
  | zero =>
    intro d r B lf n st
    show st.1 ≤ (lea n r st).1
    unfold lea
    split
    · rename_i h; show st.1 ≤ n; omega
    · exact Int.le_refl _
  | succ k ih =>
    intro d r B lf n st
    refine fld_ge (m := 0) 8 (fun c st => ?_)
    by_cases z : lf c = true
    · rw [if_pos z]; exact ih _ _ _ _ _ _
    · rw [if_neg z]; exact Int.le_refl _
theorem ord_le {T : Tn} : ∀ (k d : Nat) (r : Int → Int) (B : Wd) (lf : Int → Bool) (n m : Int) (st : OS), n + k ≤ m → st.1 ≤ m → (ordF T k d r B lf n st).1 ≤ m := by
  intro k
  induction k with
  | zero =>
    intro d r B lf n m st h1 h2
    show (lea n r st).1 ≤ m
    unfold lea
    split
    · show n ≤ m; omega
    · exact h2
  | succ k ih =>
    intro d r B lf n m st h1 h2
    have key : ∀ (j : Nat), (fldF j (fun c st => if lf c then ordF T k (d + 1) (snB r d c) (bldA T B c) (fun x => lf x && !(x == (c : Int))) (n + b1S T B c) st else st) st).1 ≤ m := by
      intro j
      induction j with
      | zero => exact h2
      | succ j ihj =>
        show (if lf j then ordF T k (d + 1) (snB r d j) (bldA T B j) (fun x => lf x && !(x == (j : Int))) (n + b1S T B j) (fldF j (fun c st => if lf c then ordF T k (d + 1) (snB r d c) (bldA T B c) (fun x => lf x && !(x == (c : Int))) (n + b1S T B c) st else st) st) else _).1 ≤ m
        have := b1S_bd T B j
        split
        · exact ih _ _ _ _ _ _ _ (by omega) ihj
        · exact ihj
    exact key 8
theorem ord_congr {T : Tn} : ∀ (k d : Nat) (r : Int → Int) (B : Wd) (lf lf2 : Int → Bool) (n : Int) (st : OS), (∀ c, 0 ≤ c → c < 8 → lf c = lf2 c) → ordF T k d r B lf n st = ordF T k d r B lf2 n st := by
  intro k
  induction k with
  | zero => intros; rfl
  | succ k ih =>
    intro d r B lf lf2 n st h
    refine fldF_congr 8 (fun c hc st => ?_)
    rw [h c (by omega) (by omega), ih (d + 1) (snB r d c) (bldA T B c) (fun x => lf x && !(x == (c : Int))) (fun x => lf2 x && !(x == (c : Int))) (n + b1S T B c) st (fun x x0 x8 => by rw [h x x0 x8])]
theorem cnt_rem {p : Int → Bool} {c : Nat} (hp : p c = true) : ∀ n : Nat, cntF n (fun x => p x && !(x == (c : Int))) = cntF n p - (if c < n then 1 else 0) := by
  intro n
  induction n with
  | zero => rfl
  | succ n ih =>
    unfold cntF
    rw [ih]
    by_cases z : n = c
    · subst z
      simp [hp]
    · have : ((n : Int) == (c : Int)) = false := by
        apply Bool.eq_false_iff.mpr
        intro y
        rw [beq_iff_eq] at y
        omega
      have e : (fun x => p x && !(x == (c : Int))) (n : Int) = p n := by
        show (p n && !((n : Int) == (c : Int))) = p n
        rw [this]
        simp
      rw [e]
      by_cases y : c < n
      · rw [if_pos y, if_pos (show c < n + 1 by omega)]
        omega
      · rw [if_neg y, if_neg (show ¬ c < n + 1 by omega)]
        omega
/-- there is a row -/
theorem ord_ge {T : Tn} : ∀ (k d : Nat) (r : Int → Int) (B : Wd) (lf : Int → Bool) (n : Int) (st : OS), cntF 8 lf = k → n ≤ (ordF T k d r B lf n st).1 := by
  intro k
  induction k with
  | zero =>
    intro d r B lf n st h
    show n ≤ (lea n r st).1
    unfold lea
    split
    · exact Int.le_refl _
    · omega
  | succ k ih =>
    intro d r B lf n st h
    have key : ∀ j : Nat, j ≤ 8 → (∃ c : Nat, c < j ∧ lf c = true) → n ≤ (fldF j (fun c st => if lf c then ordF T k (d + 1) (snB r d c) (bldA T B c) (fun x => lf x && !(x == (c : Int))) (n + b1S T B c) st else st) st).1 := by
      intro j
      induction j with
      | zero => intro _ h; obtain ⟨c, hc, _⟩ := h; omega
      | succ j ihj =>
        intro hj hx
        show n ≤ (if lf j then ordF T k (d + 1) (snB r d j) (bldA T B j) (fun x => lf x && !(x == (j : Int))) (n + b1S T B j) (fldF j (fun c st => if lf c then ordF T k (d + 1) (snB r d c) (bldA T B c) (fun x => lf x && !(x == (c : Int))) (n + b1S T B c) st else st) st) else _).1
        by_cases z : lf j = true
        · rw [if_pos z]
          have cr := cnt_rem z 8
          rw [if_pos (by omega)] at cr
          have := ih (d + 1) (snB r d j) (bldA T B j) (fun x => lf x && !(x == (j : Int))) (n + b1S T B j) (fldF j (fun c st => if lf c then ordF T k (d + 1) (snB r d c) (bldA T B c) (fun x => lf x && !(x == (c : Int))) (n + b1S T B c) st else st) st) (by omega)
          have := b1S_bd T B j
          omega
        · rw [if_neg z]
          obtain ⟨c, hc, hl⟩ := hx
          exact ihj (by omega) ⟨c, by by_cases y : c = j; subst y; exact absurd hl z; omega, hl⟩
    refine key 8 (Nat.le_refl 8) (Classical.byContradiction (fun z => ?_))
    have : cntF 8 lf = 0 := cntF_0 (fun c hc => by
      cases hl : lf c with
      | false => rfl
      | true => exact absurd ⟨c, hc, hl⟩ z)
    omega
theorem fld_rel {R : OS → OS → Prop} : ∀ (n : Nat) {f : Nat → OS → OS} {st st2 : OS}, R st st2 → (∀ k a b, R a b → R (f k a) (f k b)) → R (fldF n f st) (fldF n f st2) := by
  intro n
  induction n with
  | zero => intro f st st2 h _; exact h
  | succ n ih =>
    intro f st st2 h hk
    exact hk n _ _ (ih h hk)
/-- what was there ahead of the first row goes -/
theorem ord_same {T : Tn} : ∀ (k d : Nat) (r : Int → Int) (B : Wd) (lf : Int → Bool) (n : Int) (st st2 : OS), (st = st2 ∨ (st.1 = -1 ∧ st2.1 = -1)) → 0 ≤ n →
    (ordF T k d r B lf n st = ordF T k d r B lf n st2 ∨ ((ordF T k d r B lf n st).1 = -1 ∧ (ordF T k d r B lf n st2).1 = -1)) := by
  intro k
  induction k with
  | zero =>
    intro d r B lf n st st2 h hn
    show lea n r st = lea n r st2 ∨ _
    left
    rcases h with z | z
    · rw [z]
    · unfold lea
      rw [if_pos (by omega), if_pos (by omega)]
  | succ k ih =>
    intro d r B lf n st st2 h hn
    refine fld_rel (R := fun a b => a = b ∨ (a.1 = -1 ∧ b.1 = -1)) 8 h (fun c a b hab => ?_)
    have := b1S_bd T B c
    by_cases z : lf c = true
    · rw [if_pos z, if_pos z]
      exact ih _ _ _ _ _ _ _ hab (by omega)
    · rw [if_neg z, if_neg z]
      exact hab
section ORDER
variable {g : GT} {e : Nat} {s : Sg} {T : Tn} {A : Wd} {tw : Int}
theorem bldA_3 (hT : TOK T) (c x : Int) (h : x ≠ c) : bldA T A c 3 x = A 3 x := by
  unfold bldA
  split
  · rfl
  · rw [keepA_at _ _ _ _ (by decide) (by decide), putA_3, if_neg h]
theorem lift_bld (hT : TOK T) (hW : WOK T A) {c : Int} (c0 : 0 ≤ c) (c1 : c < T 1 1) (h3 : A 3 c = -1) (hd : T 0 15 ≤ ageS T A c) : WEq A (liftA (bldA T A c) c) := by
  have t8 := hT.2.1
  unfold bldA
  by_cases z : bldW T A c = -1
  · rw [if_pos z]
    unfold liftA
    rw [if_pos h3]
    exact WEq.rf
  · rw [if_neg z]
    obtain ⟨z1, z2, z3⟩ := (bldW_in (A := A) c hT).resolve_left z
    have hf : freS T A (bldW T A c) ≠ -1 := fun y => by unfold tryS at z3; rw [y] at z3; simp at z3
    have po := put_ok (X := (A, 0, 0)) hT hW c0 c1 h3 hd z1 z2 hf
    have pl := (po.2.1.1 c c0 (by omega)).resolve_left (by show putA A c (freS T A (bldW T A c)) 3 c ≠ -1; rw [putA_3, if_pos rfl]; exact hf)
    have e3 : putA A c (freS T A (bldW T A c)) 3 c = freS T A (bldW T A c) := by rw [putA_3, if_pos rfl]
    have e4 : A 4 (freS T A (bldW T A c)) = -1 := by
      have fl : 0 ≤ freS T A (bldW T A c) ∧ freS T A (bldW T A c) < 64 := by rw [← e3]; exact ⟨pl.1, pl.2.1⟩
      have bi := besS_in (A := A) hT z1 z2
      have b4 := hT.2.2.1
      have b11 := hT.2.2.2.2.2.2.2.1 _ z1 z2
      have hh := hW.2.2.1 (besS T A (bldW T A c)) (by omega) (by omega)
      unfold freS at hf fl ⊢
      split at hf
      · exact absurd rfl hf
      · rename_i y
        rw [if_neg y] at fl ⊢
        have := hh.2.2 (A 5 (besS T A (bldW T A c))) hh.1 (by omega)
        exact this.mpr (Int.le_refl _)
    have lp := lift_put (A := A) (c := c) (p := freS T A (bldW T A c)) h3 e4 hf
    have k1 : WEq (putA A c (freS T A (bldW T A c))) (keepA (putA A c (freS T A (bldW T A c))) c (bldW T A c) 1) := by
      refine ⟨keepA_01 _ _ _ _ (by decide), keepA_01 _ _ _ _ (by decide), fun k _ _ => ?_, fun k _ _ => ?_, fun k _ _ => ?_⟩
      · rw [keepA_at _ _ _ _ (show (1 : Int) ≠ 0 by decide) (by decide), keepA_at _ _ _ _ (show (2 : Int) ≠ 0 by decide) (by decide), keepA_at _ _ _ _ (show (3 : Int) ≠ 0 by decide) (by decide)]
        exact ⟨rfl, rfl, rfl⟩
      · rw [keepA_at _ _ _ _ (show (4 : Int) ≠ 0 by decide) (by decide)]
      · rw [keepA_at _ _ _ _ (show (5 : Int) ≠ 0 by decide) (by decide)]
    have k2 := k1.lift c0 (by omega)
    rw [lp] at k2
    exact k2
theorem WEq.tr {B C : Wd} (h : WEq A B) (h2 : WEq B C) : WEq A C :=
  ⟨h2.1.trans h.1, h2.2.1.trans h.2.1, fun k k0 k1 => ⟨(h2.2.2.1 k k0 k1).1.trans (h.2.2.1 k k0 k1).1, (h2.2.2.1 k k0 k1).2.1.trans (h.2.2.1 k k0 k1).2.1, (h2.2.2.1 k k0 k1).2.2.trans (h.2.2.1 k k0 k1).2.2⟩, fun k k0 k1 => (h2.2.2.2.1 k k0 k1).trans (h.2.2.2.1 k k0 k1), fun k k0 k1 => (h2.2.2.2.2 k k0 k1).trans (h.2.2.2.2 k k0 k1)⟩
def Jo (o : Int) : Prop := Jw 58 o ∨ o = 55 ∨ o = 56 ∨ o = 57
/-- stones that can be laid -/
def lfo (T : Tn) (A : Wd) (lf : Int → Bool) : Prop := ∀ c, 0 ≤ c → c < 8 → lf c = true → c < T 1 1 ∧ A 3 c = -1 ∧ T 0 15 ≤ ageS T A c
theorem lfo.bld {lf : Int → Bool} (hT : TOK T) (h : lfo T A lf) (c : Int) : lfo T (bldA T A c) (fun x => lf x && !(x == c)) := by
  intro x x0 x8 hx
  simp only [Bool.and_eq_true, Bool.not_eq_true', beq_eq_false_iff_ne] at hx
  obtain ⟨h1, h2, h3⟩ := h x x0 x8 hx.1
  refine ⟨h1, by rw [bldA_3 hT c x hx.2]; exact h2, ?_⟩
  rw [ageS_eq (bldA_0 (by decide))]
  exact h3
/-- the state of orderFrom -/
def OC (s : Sg) (tw : Int) (T : Tn) (A : Wd) (m d : Nat) (r : Int → Int) (st : OS) : Prop :=
  (∃ X bb, CZ s 58 tw T X bb ∧ WEq A X.1) ∧ s 55 4 = m ∧ s 55 2 = st.1 ∧ (∀ i : Int, 0 ≤ i → i < (m : Int) → s 56 i = st.2 i) ∧ ∀ i : Int, 0 ≤ i → i < (d : Int) → s 57 i = r i
def Fo (s s2 : Sg) : Prop := Fr Jo s s2 ∧ ∀ k, k ≠ 2 → s2 55 k = s 55 k
theorem Fo.rf : Fo s s := ⟨Fr.rf, fun _ _ => rfl⟩
theorem Fo.tr {s2 s3 : Sg} (h : Fo s s2) (h2 : Fo s2 s3) : Fo s s3 := ⟨h.1.tr h2.1, fun k hk => (h2.2 k hk).trans (h.2 k hk)⟩
theorem CZ.fo {s2 : Sg} {X : WX} {bb : Int} (h : CZ s 58 tw T X bb) (hf : Fr (fun o => o = 55 ∨ o = 56 ∨ o = 57) s s2) : CZ s2 58 tw T X bb := by
  obtain ⟨⟨h1, h2, h3, h4, h5, h6, h7⟩, q1, q2, q3⟩ := h
  have e58 : s2 58 = s 58 := hf 58 (by omega)
  refine ⟨⟨h1, h2, by rw [e58]; exact h3, h4.fr hf (fun o o1 o2 o3 => by unfold isT at h2; omega), h5.fr hf (fun o o1 o2 => by omega), h6, h7⟩, by rw [e58]; exact q1, by rw [e58]; exact q2, by rw [e58]; exact q3⟩
theorem fr58 {s2 : Sg} (h : Fr (Jw 58) s s2) : Fo s s2 := ⟨h.wk (fun o z => Or.inl z), fun k _ => by rw [h 55 (by unfold Jw Jk; omega)]⟩
theorem OC.fr {s2 : Sg} {m d : Nat} {r : Int → Int} {st : OS} (h : OC s tw T A m d r st) (hf : Fr (Jw 58) s s2) {B : Wd} (hx : ∃ X bb, CZ s2 58 tw T X bb ∧ WEq B X.1) : OC s2 tw T B m d r st := by
  have e55 : s2 55 = s 55 := hf 55 (by unfold Jw Jk; omega)
  have e56 : s2 56 = s 56 := hf 56 (by unfold Jw Jk; omega)
  have e57 : s2 57 = s 57 := hf 57 (by unfold Jw Jk; omega)
  refine ⟨hx, by rw [e55]; exact h.2.1, by rw [e55]; exact h.2.2.1, by rw [e56]; exact h.2.2.2.1, by rw [e57]; exact h.2.2.2.2⟩
theorem co_all (hF : TF T) (hT : TOK T) {m : Nat} (m6 : m ≤ 6) : ∀ (k d : Nat) (s : Sg) (A : Wd) (r : Int → Int) (lf : Int → Bool) (v2 n : Int) (st : OS), d + k = m → OC s tw T A m d r st → WOK T A → lfo T A lf → 0 ≤ v2 → v2 < 256 → (∀ c : Nat, c < 8 → v2.toNat.testBit c = lf c) →
    (-1 ≤ st.1 ∧ st.1 ≤ 6) → (0 ≤ n ∧ n ≤ d) → Mw g (e + 6 + k) M_X5_orderFrom [(14, 55), (0, d), (0, v2), (0, n)] s (fun _ s' => OC s' tw T A m d r (ordF T k d r A lf n st) ∧ Fo s s') := by
  intro k
  induction k with
  | zero =>
    intro d s A r lf v2 n st hd hO hW hl v0 v1 hb hs hn
    obtain ⟨⟨X, bb, hx, hE⟩, h4, h2, h6, h7⟩ := hO
    refine S_X5_orderFrom (fun _ _ _ => ⟨fun _ => S_X5_orderFrom_14 ?_, fun q => absurd (by omega) q⟩)
    rw [h2]
    show _ ∧ _
    refine ⟨fun q => ⟨?_, Fo.rf⟩, fun q s1 e1 s2 e2 => ?_⟩
    · show OC s tw T A m d r (lea n r st)
      unfold lea
      rw [if_neg (by omega)]
      exact ⟨⟨X, bb, hx, hE⟩, h4, h2, h6, h7⟩
    · have f1 : Fr (fun o => o = 55 ∨ o = 56 ∨ o = 57) s s2 := by
        rw [e2, e1]
        exact (Fr.up (Or.inl rfl)).tr (Fr.cp (Or.inr (Or.inl rfl)))
      refine ⟨⟨⟨X, bb, hx.fo f1, hE⟩, ?_, ?_, fun i i0 i1 => ?_, fun i i0 i1 => ?_⟩, f1.wk (fun o z => Or.inr z), fun j hj => ?_⟩
      · rw [e2, cpy_at _ (by decide), e1, ups_k _ (by decide)]; exact h4
      · show s2 55 2 = (lea n r st).1
        unfold lea
        rw [if_pos (by omega), e2, cpy_at _ (by decide), e1, ups_eq]
      · show s2 56 i = (lea n r st).2 i
        unfold lea
        rw [if_pos (by omega), e2, cpy_in _ i0 (by omega), e1, ups_at _ (by decide)]
        exact h7 i i0 (by omega)
      · rw [e2, cpy_at _ (by decide), e1, ups_at _ (by decide)]; exact h7 i i0 i1
      · rw [e2, cpy_at _ (by decide), e1, ups_k _ hj]
  | succ k ihk =>
    intro d s A r lf v2 n st hd hO hW hl v0 v1 hb hs hn
    have t8 := hT.2.1
    let F : Nat → OS → OS := fun c st => if lf c then ordF T k (d + 1) (snB r d c) (bldA T A c) (fun x => lf x && !(x == (c : Int))) (n + b1S T A c) st else st
    have lp : ∀ (j c : Nat) (s0 : Sg), c + j = 8 → OC s0 tw T A m d r (fldF c F st) → Fo s s0 → (-1 ≤ (fldF c F st).1 ∧ (fldF c F st).1 ≤ 6) →
        P_X5_orderFrom_46 g (e + 6 + k) (fun _ s' => OC s' tw T A m d r (ordF T (k + 1) d r A lf n st) ∧ Fo s s') s0 d v2 n c := by
      intro j
      induction j with
      | zero =>
        intro c s0 hc hO0 hf hb0
        have : c = 8 := by omega
        subst this
        exact S_X5_orderFrom_46 ⟨fun _ => ⟨hO0, hf⟩, fun q => absurd (by omega) q⟩
      | succ j ih =>
        intro c s0 hc hO0 hf hb0
        have bc := hb c (by omega)
        have n1 := b1S_bd T A c
        have skip : F c (fldF c F st) = fldF c F st → P_X5_orderFrom_46 g (e + 6 + k) (fun _ s' => OC s' tw T A m d r (ordF T (k + 1) d r A lf n st) ∧ Fo s s') s0 d v2 n (w32 ((c : Int) + 1)) := fun z => by
          rw [w32_of (by omega) (by omega)]
          refine ih (c + 1) s0 (by omega) ?_ hf ?_
          · show OC s0 tw T A m d r (F c (fldF c F st)); rw [z]; exact hO0
          · show -1 ≤ (F c (fldF c F st)).1 ∧ (F c (fldF c F st)).1 ≤ 6; rw [z]; exact hb0
        have bz : bAnd v2 (bShl 1 c) = 0 ↔ lf c = false := by rw [bAnd_bit v0 (by omega) (by omega) (by omega), Int.toNat_natCast, bc]
        refine S_X5_orderFrom_46 ⟨fun q => absurd q (by omega), fun _ => ?_⟩
        rw [hO0.2.1, hO0.2.2.1, w32_of (show _ ≤ n + (m : Int) by omega) (by omega), w32_of (show _ ≤ n + (m : Int) - d by omega) (by omega)]
        refine ⟨fun q => S_X5_orderFrom_73 ⟨fun y => skip ?_, fun y => ⟨fun _ => skip ?_, fun x => absurd rfl x⟩⟩, fun q => S_X5_orderFrom_73 ⟨fun y => skip ?_, fun y => ⟨fun x => by omega, fun _ => ⟨⟨by omega, by omega⟩, fun s1 e1 => ?_⟩⟩⟩⟩
        · show (if lf c then _ else _) = _; rw [bz.mp y, if_neg (by decide)]
        · show (if lf c then ordF T k (d + 1) (snB r d c) (bldA T A c) (fun x => lf x && !(x == (c : Int))) (n + b1S T A c) (fldF c F st) else _) = _
          split
          · exact ord_hi _ _ _ _ _ _ _ (by omega)
          · rfl
        · show (if lf c then _ else _) = _; rw [bz.mp y, if_neg (by decide)]
        · have lc : lf c = true := by
            cases z : lf c with
            | true => rfl
            | false => exact absurd (bz.mpr z) y
          obtain ⟨c1, c3, cd⟩ := hl c (by omega) (by omega) lc
          obtain ⟨⟨X, bb, hx, hE⟩, h4, h2, h6, h7⟩ := hO0
          have f1 : Fr (fun o => o = 55 ∨ o = 56 ∨ o = 57) s0 s1 := by rw [e1]; exact Fr.up (Or.inr (Or.inr rfl))
          have hXW : WOK T X.1 := hW.weq hE hx.1.n.2.2.1 t8.2
          have x3 : X.1 3 c = -1 := by rw [hE.h3 (by omega) (by omega)]; exact c3
          have xd : T 0 15 ≤ ageS T X.1 c := by rw [hE.age]; exact cd
          have o1 : OC s1 tw T A m (d + 1) (snB r d c) (fldF c F st) := by
            refine ⟨⟨X, bb, hx.fo f1, hE⟩, by rw [e1, ups_at _ (by decide)]; exact h4, by rw [e1, ups_at _ (by decide)]; exact h2, by rw [e1, ups_at _ (by decide)]; exact h6, fun i i0 i1 => ?_⟩
            unfold snB
            by_cases z : i = d
            · rw [if_pos z, e1, z, ups_eq]
            · rw [if_neg z, e1, ups_k _ z]; exact h7 i i0 (by omega)
          rw [show e + 6 + k = e + 1 + k + 5 by omega]
          refine (C_buildIn (hx.fo f1) hF hXW (by omega) c1 x3 xd).imp (fun r2 s3 h3 => ?_)
          obtain ⟨hr, hx3, hf3⟩ := h3
          have eW := hE.bW hT hW (by omega) c1 c3 cd
          have eb : (if bldW T X.1 c = -1 then X.1 else keepA (putA X.1 c (freS T X.1 (bldW T X.1 c))) c (bldW T X.1 c) 1) = bldA T X.1 c := rfl
          rw [eb] at hx3
          have hE3 : WEq (bldA T A c) (bldA T X.1 c) := hE.bld hT hW (by omega) c1 c3 cd
          have o3 : OC s3 tw T (bldA T A c) m (d + 1) (snB r d c) (fldF c F st) := o1.fr hf3 ⟨_, _, hx3, hE3⟩
          have hWb : WOK T (bldA T A c) := bldA_ok hT hW (by omega) c1 c3 cd
          have er : r2 = b1S T A c := by rw [hr, eW]; rfl
          have f13 : Fo s s3 := (hf.tr ⟨f1.wk (fun o z => Or.inr z), fun j hj => by rw [e1, ups_at _ (by decide)]⟩).tr (fr58 hf3)
          have nb : (0 ≤ bAnd v2 (bXor (bShl 1 c) (-1)) ∧ bAnd v2 (bXor (bShl 1 c) (-1)) ≤ v2) ∧ ∀ j : Nat, (bAnd v2 (bXor (bShl 1 c) (-1))).toNat.testBit j = (v2.toNat.testBit j && !(bShl 1 (c : Int)).toNat.testBit j) := bAndN_bit v0 (by omega) (bShl_8 (k := (c : Int)) (by omega) (by omega)).1 (by have := bShl_8 (k := (c : Int)) (by omega) (by omega); omega)
          have go : ∀ x : Int, x = b1S T A c → P_X5_orderFrom_131 g (e + 1 + k + 5) (fun _ s' => OC s' tw T A m d r (ordF T (k + 1) d r A lf n st) ∧ Fo s s') s3 d v2 n c (w32 ((d : Int) + 1)) (bAnd v2 (bXor (bShl 1 c) (-1))) x := fun x hxx => by
            refine S_X5_orderFrom_131 ?_
            rw [w32_of (show _ ≤ (d : Int) + 1 by omega) (by omega), hxx, w32_of (show _ ≤ n + b1S T A c by omega) (by omega), show (d : Int) + 1 = ((d + 1 : Nat) : Int) by omega, show e + 1 + k + 5 = e + 6 + k by omega]
            refine (ihk (d + 1) s3 (bldA T A c) (snB r d c) (fun x => lf x && !(x == (c : Int))) _ _ (fldF c F st) (by omega) o3 hWb (hl.bld hT c) nb.1.1 (by omega) (fun i hi => ?_) hb0 (by omega)).imp (fun _ s5 h5 => ?_)
            · rw [nb.2 i, hb i hi, bShl1_bit (by omega) (by omega)]
              congr 2
            · obtain ⟨o5, f5⟩ := h5
              obtain ⟨⟨Y, cc, hy, hEy⟩, g4, g2, g6, g7⟩ := o5
              have hYW : WOK T Y.1 := hWb.weq hEy hy.1.n.2.2.1 t8.2
              rw [show e + 6 + k = e + 5 + k + 1 by omega]
              refine (C_lift hy hYW.2.1 (by omega) (by omega) (fun z => ?_)).imp (fun _ s7 h7' => ?_)
              · have pl := (hYW.2.1.1 c (by omega) (by omega)).resolve_left z
                have := hYW.2.2.1 (Y.1 3 c / 4) (by omega) (by omega)
                exact ⟨this.1, this.2.1⟩
              · rw [w32_of (show _ ≤ (c : Int) + 1 by omega) (by omega), show e + 5 + k + 1 = e + 6 + k by omega]
                have eF : F c (fldF c F st) = ordF T k (d + 1) (snB r d c) (bldA T A c) (fun x => lf x && !(x == (c : Int))) (n + b1S T A c) (fldF c F st) := by
                  show (if lf c then _ else _) = _; rw [lc, if_pos rfl]
                have hE7 : WEq A (liftA Y.1 c) := (lift_bld hT hW (by omega) c1 c3 cd).tr (hEy.lift (by omega) (by omega))
                refine ih (c + 1) s7 (by omega) ?_ ((f13.tr f5).tr (fr58 h7'.2)) ?_
                · show OC s7 tw T A m d r (F c (fldF c F st))
                  rw [eF]
                  have e55 : s7 55 = s5 55 := h7'.2 55 (by unfold Jw Jk; omega)
                  have e56 : s7 56 = s5 56 := h7'.2 56 (by unfold Jw Jk; omega)
                  have e57 : s7 57 = s5 57 := h7'.2 57 (by unfold Jw Jk; omega)
                  refine ⟨⟨_, _, h7'.1, hE7⟩, by rw [e55]; exact g4, by rw [e55]; exact g2, by rw [e56]; exact g6, fun i i0 i1 => ?_⟩
                  rw [e57, g7 i i0 (by omega)]
                  unfold snB
                  rw [if_neg (by omega)]
                · show -1 ≤ (F c (fldF c F st)).1 ∧ (F c (fldF c F st)).1 ≤ 6
                  rw [eF]
                  have om := ord_mono (T := T) k (d + 1) (snB r d c) (bldA T A c) (fun x => lf x && !(x == (c : Int))) (n + b1S T A c) (fldF c F st)
                  have ol := ord_le (T := T) k (d + 1) (snB r d c) (bldA T A c) (fun x => lf x && !(x == (c : Int))) (n + b1S T A c) 6 (fldF c F st) (by omega) hb0.2
                  omega
          refine ⟨fun z => go 0 (by rw [← er, z]), fun z => go 1 (by omega)⟩
    rw [show e + 6 + (k + 1) = e + 6 + k + 1 by omega]
    refine S_X5_orderFrom (fun _ _ _ => ?_)
    rw [hO.2.1]
    exact ⟨fun q => absurd q (by omega), fun _ => ⟨fun _ => lp 8 0 s (by omega) hO Fo.rf hs, fun q => absurd (by omega) q⟩⟩
end ORDER
