/-! formulas as a descent over the tokens -/
abbrev PR1 : Type := Option ((Int × Int) × List Int)
def pB (r : PR1) (f : Int → PR1) : PR1 := match r with
  | none => none
  | some (st, L) => if st.1 = 0 then (match f st.2 with
    | none => none
    | some (st2, L2) => some (st2, L ++ L2)) else some (st, L)
/-- in every state -/
def pH (f : Int → PR1) (st : Int × Int) : PR1 := if st.1 = 0 then f st.2 else some (st, [])
def pN (a : Int) : PR1 := some ((0, a), [])
def pV (t : Tp) (a : Int) : PR1 := some (avT t a, [])
def pE (c a : Int) : PR1 := some ((0, a), [c])
def pX (k a : Int) : PR1 := some ((k, a), [])
def pM (t : Tp) (c a : Int) : PR1 := if kdT t a = 3 ∧ vlT t a = c then pV t a else pX 1 a
def pD (t : Tp) (o a : Int) : PR1 := if 7 ≤ o then pX 5 a else pV t a
def cmT (t : Tp) (a : Int) : Int := if kdT t a = 3 ∧ vlT t a = 60 then 8 else if kdT t a = 3 ∧ vlT t a = 62 then 9 else if kdT t a = 3 ∧ vlT t a = 61 then 10 else -1
def muT (t : Tp) (a : Int) : Int := if kdT t a = 3 ∧ vlT t a = 42 then 3 else if kdT t a = 3 ∧ vlT t a = 47 then 4 else if kdT t a = 3 ∧ vlT t a = 37 then 5 else -1
def adT (t : Tp) (a : Int) : Int := if kdT t a = 3 ∧ vlT t a = 43 then 1 else if kdT t a = 3 ∧ vlT t a = 45 then 2 else -1
def fcT (t : Tp) (mb a : Int) : Int := if mb = 0 ∧ 5 ≤ enF.getD (wdT t a).toNat 0 then -1 else enF.getD (wdT t a).toNat 0
def chC (i : Nat) : Int := if i = 0 then 6 else if i = 1 then 7 else 14
/-- 0 test, 1 its rest, 2 both, 3 its rest, 4 fact, 5 compare, 6 sum, 7 its rest, 8 product, 9 its rest, 10 single, 11 to 13 min, max, if, 14 and on what is alike in them -/
def pF (t : Tp) (mb : Int) : Nat → Nat → Int → Int → PR1
  | 0, _, _, _ => none
  | k + 1, nt, o, a => match nt with
    | 0 => pB (pF t mb k 2 o a) (fun x => pF t mb k 1 o x)
    | 1 => if wdT t a = 25 then pB (pV t a) (fun x => pB (pF t mb k 2 o x) (fun y => pB (pE 12 y) (fun z => pF t mb k 1 o z))) else pN a
    | 2 => pB (pF t mb k 4 o a) (fun x => pF t mb k 3 o x)
    | 3 => if wdT t a = 26 then pB (pV t a) (fun x => pB (pF t mb k 4 o x) (fun y => pB (pE 11 y) (fun z => pF t mb k 3 o z))) else pN a
    | 4 => if wdT t a = 27 then pB (pD t o a) (fun x => pB (pF t mb k 4 (o + 1) x) (fun y => pE 13 y)) else if kdT t a = 3 ∧ vlT t a = 91 then pB (pD t o a) (fun x => pB (pF t mb k 0 (o + 1) x) (fun y => pM t 93 y)) else if wdT t a = 28 then pB (pV t a) (fun x => pE 41 x) else pF t mb k 5 o a
    | 5 => pB (pF t mb k 6 o a) (fun x => if cmT t x = -1 then pX 1 x else pB (pV t x) (fun y => pB (pF t mb k 6 o y) (fun z => pE (cmT t x) z)))
    | 6 => pB (pF t mb k 8 o a) (fun x => pF t mb k 7 o x)
    | 7 => if adT t a = -1 then pN a else pB (pV t a) (fun x => pB (pF t mb k 8 o x) (fun y => pB (pE (adT t a) y) (fun z => pF t mb k 7 o z)))
    | 8 => pB (pF t mb k 10 o a) (fun x => pF t mb k 9 o x)
    | 9 => if muT t a = -1 then pN a else pB (pV t a) (fun x => pB (pF t mb k 10 o x) (fun y => pB (pE (muT t a) y) (fun z => pF t mb k 9 o z)))
    | 10 => if kdT t a = 2 then pB (pE (40 + vlT t a) a) (fun x => pV t x) else if kdT t a = 3 ∧ vlT t a = 40 then pB (pD t o a) (fun x => pB (pF t mb k 6 (o + 1) x) (fun y => pM t 41 y)) else if wdT t a = 29 then pF t mb k 11 o a else if wdT t a = 30 then pF t mb k 12 o a else if wdT t a = 24 then pF t mb k 13 o a else if fcT t mb a = -1 then pX 1 a else pB (pE (20 + fcT t mb a) a) (fun x => pV t x)
    | 11 => pB (pV t a) (fun x => if kdT t x = 3 ∧ vlT t x = 40 then pB (pD t o x) (fun y => pF t mb k 14 (o + 1) y) else pX 1 x)
    | 12 => pB (pV t a) (fun x => if kdT t x = 3 ∧ vlT t x = 40 then pB (pD t o x) (fun y => pF t mb k 15 (o + 1) y) else pX 1 x)
    | 13 => pB (pV t a) (fun x => if kdT t x = 3 ∧ vlT t x = 40 then pB (pD t o x) (fun y => pB (pF t mb k 0 (o + 1) y) (fun z => pB (pM t 44 z) (fun u => pF t mb k 16 (o + 1) u))) else pX 1 x)
    | i + 14 => pB (pF t mb k 6 o a) (fun x => pB (pM t 44 x) (fun y => pB (pF t mb k 6 o y) (fun z => pB (pM t 41 z) (fun u => pE (chC i) u))))
theorem pB_some {r : PR1} {f : Int → PR1} {st : Int × Int} {M : List Int} (h : pB r f = some (st, M)) : ∃ st1 L1 L2, r = some (st1, L1) ∧ pH f st1 = some (st, L2) ∧ M = L1 ++ L2 := by
  unfold pB at h
  cases r with
  | none => cases h
  | some q =>
    obtain ⟨st1, L1⟩ := q
    refine ⟨st1, L1, ?_⟩
    unfold pH
    simp only at h
    by_cases z : st1.1 = 0
    · rw [if_pos z] at h
      cases e : f st1.2 with
      | none => rw [e] at h; cases h
      | some q2 =>
        obtain ⟨st2, L2⟩ := q2
        rw [e] at h
        simp only [Option.some.injEq, Prod.mk.injEq] at h
        refine ⟨L2, rfl, ?_, h.2.symm⟩
        rw [if_pos z, h.1]
    · rw [if_neg z] at h
      simp only [Option.some.injEq, Prod.mk.injEq] at h
      refine ⟨[], rfl, ?_, ?_⟩
      · rw [if_neg z, h.1]
      · rw [List.append_nil]; exact h.2.symm
theorem pH_B {r : Int → PR1} {f : Int → PR1} {st st2 : Int × Int} {M : List Int} (h : pH (fun x => pB (r x) f) st = some (st2, M)) : ∃ st1 L1 L2, pH r st = some (st1, L1) ∧ pH f st1 = some (st2, L2) ∧ M = L1 ++ L2 := by
  unfold pH at h
  by_cases z : st.1 = 0
  · rw [if_pos z] at h
    obtain ⟨st1, L1, L2, h1, h2, h3⟩ := pB_some h
    refine ⟨st1, L1, L2, ?_, h2, h3⟩
    unfold pH
    rw [if_pos z]
    exact h1
  · rw [if_neg z] at h
    simp only [Option.some.injEq, Prod.mk.injEq] at h
    refine ⟨st, [], [], ?_, ?_, ?_⟩
    · unfold pH; rw [if_neg z]
    · unfold pH; rw [if_neg z, h.1]
    · rw [← h.2]; rfl
theorem pH_bad {f : Int → PR1} {st st2 : Int × Int} {M : List Int} (z : st.1 ≠ 0) (h : pH f st = some (st2, M)) : st2 = st ∧ M = [] := by
  unfold pH at h
  rw [if_neg z] at h
  simp only [Option.some.injEq, Prod.mk.injEq] at h
  exact ⟨h.1.symm, h.2.symm⟩
theorem pH_good {f : Int → PR1} {st : Int × Int} (z : st.1 = 0) : pH f st = f st.2 := by unfold pH; rw [if_pos z]
theorem pH_0 {f : Int → PR1} {a : Int} : pH f (0, a) = f a := rfl
theorem some_inj {a b : (Int × Int) × List Int} (h : some a = some b) : a = b := by injection h
theorem some2 {a b : Int × Int} {L M : List Int} (h : some (a, L) = some (b, M)) : b = a ∧ M = L := by
  have e := Prod.mk.inj (some_inj h)
  exact ⟨e.1.symm, e.2.symm⟩
theorem pH_V {t : Tp} {st st2 : Int × Int} {M : List Int} (h : pH (pV t) st = some (st2, M)) : st2 = avS t st ∧ M = [] := by
  unfold avS
  by_cases z : st.1 = 0
  · rw [pH_good z] at h
    have := some_inj h
    rw [if_pos z]
    exact ⟨(congrArg Prod.fst this).symm, (congrArg Prod.snd this).symm⟩
  · rw [if_neg z]
    exact pH_bad z h
theorem pH_E {c : Int} {st st2 : Int × Int} {M : List Int} (h : pH (pE c) st = some (st2, M)) : st2 = st ∧ (st.1 = 0 → M = [c]) ∧ (st.1 ≠ 0 → M = []) := by
  by_cases z : st.1 = 0
  · rw [pH_good z] at h
    have e := some2 h
    refine ⟨?_, fun _ => e.2, fun y => absurd z y⟩
    rw [e.1]
    show (0, st.2) = st
    rw [← z]
  · have := pH_bad z h
    exact ⟨this.1, fun y => absurd y z, fun _ => this.2⟩
def msS (t : Tp) (c : Int) (st : Int × Int) : Int × Int := if st.1 = 0 then (if kdT t st.2 = 3 ∧ vlT t st.2 = c then avT t st.2 else (1, st.2)) else st
theorem pH_M {t : Tp} {c : Int} {st st2 : Int × Int} {M : List Int} (h : pH (pM t c) st = some (st2, M)) : st2 = msS t c st ∧ M = [] := by
  unfold msS
  by_cases z : st.1 = 0
  · rw [pH_good z] at h
    unfold pM at h
    rw [if_pos z]
    by_cases y : kdT t st.2 = 3 ∧ vlT t st.2 = c
    · rw [if_pos y] at h ⊢
      have := some_inj h
      exact ⟨(congrArg Prod.fst this).symm, (congrArg Prod.snd this).symm⟩
    · rw [if_neg y] at h ⊢
      have := some_inj h
      exact ⟨(congrArg Prod.fst this).symm, (congrArg Prod.snd this).symm⟩
  · rw [if_neg z]
    exact pH_bad z h
def dpS (t : Tp) (o : Int) (st : Int × Int) : Int × Int := if st.1 = 0 then (if 7 ≤ o then (5, st.2) else avT t st.2) else st
theorem pH_D {t : Tp} {o : Int} {st st2 : Int × Int} {M : List Int} (h : pH (pD t o) st = some (st2, M)) : st2 = dpS t o st ∧ M = [] := by
  unfold dpS
  by_cases z : st.1 = 0
  · rw [pH_good z] at h
    unfold pD at h
    rw [if_pos z]
    by_cases y : 7 ≤ o
    · rw [if_pos y] at h ⊢
      have := some_inj h
      exact ⟨(congrArg Prod.fst this).symm, (congrArg Prod.snd this).symm⟩
    · rw [if_neg y] at h ⊢
      have := some_inj h
      exact ⟨(congrArg Prod.fst this).symm, (congrArg Prod.snd this).symm⟩
  · rw [if_neg z]
    exact pH_bad z h
/-- places that can be -/
def inT (t : Tp) (st : Int × Int) : Prop := st.1 = 0 → (0 ≤ st.2 ∧ st.2 ≤ t.1) ∧ lxT t st.2 = -1
theorem av_in {t : Tp} {a : Int} (a0 : 0 ≤ a) (a1 : a ≤ t.1) : inT t (avT t a) ∧ 0 ≤ (avT t a).1 ∧ ((avT t a).1 = 0 → a ≤ (avT t a).2 ∧ (kdT t a ≠ 0 → a < (avT t a).2)) := by
  have nd := nd_le a1
  have al := at_le nd.2.1
  unfold avT nxT
  by_cases z : lxT t (atT t (ndT t a)) = -1
  · rw [if_pos z]
    refine ⟨fun _ => ⟨⟨by show 0 ≤ atT t (ndT t a); omega, al.2⟩, z⟩, Int.le_refl 0, fun _ => ⟨by show a ≤ atT t (ndT t a); omega, fun y => ?_⟩⟩
    have := nd.2.2 y
    show a < atT t (ndT t a)
    omega
  · rw [if_neg z]
    exact ⟨fun y => absurd y (by show ¬ ((1 : Int) = 0); decide), by show (0 : Int) ≤ 1; decide, fun y => absurd y (by show ¬ ((1 : Int) = 0); decide)⟩
/-- a step of the descent: where it ends, how many it tells -/
def gdR (t : Tp) (f : Int → PR1) : Prop := ∀ (a : Int) (st : Int × Int) (M : List Int), 0 ≤ a → a ≤ t.1 → lxT t a = -1 → f a = some (st, M) → 0 ≤ st.1 ∧ inT t st ∧ (st.1 = 0 → a + M.length ≤ st.2)
/-- and it has gone on by one at least beyond that -/
def gdS (t : Tp) (f : Int → PR1) : Prop := ∀ (a : Int) (st : Int × Int) (M : List Int), 0 ≤ a → a ≤ t.1 → lxT t a = -1 → f a = some (st, M) → 0 ≤ st.1 ∧ inT t st ∧ (st.1 = 0 → a + M.length + 1 ≤ st.2)
theorem gd_B {t : Tp} {r f : Int → PR1} (hr : gdR t r) (hf : gdR t f) : gdR t (fun x => pB (r x) f) := by
  intro a st M a0 a1 ax h
  obtain ⟨st1, L1, L2, h1, h2, h3⟩ := pB_some h
  have q := hr a st1 L1 a0 a1 ax h1
  by_cases z : st1.1 = 0
  · rw [pH_good z] at h2
    have i := q.2.1 z
    have p := hf st1.2 st L2 i.1.1 i.1.2 i.2 h2
    refine ⟨p.1, p.2.1, fun y => ?_⟩
    have := p.2.2 y
    have := q.2.2 z
    rw [h3, List.length_append]
    omega
  · have := pH_bad z h2
    rw [this.1, h3, this.2, List.append_nil]
    exact q
theorem gd_Bs {t : Tp} {r f : Int → PR1} (hr : gdS t r) (hf : gdR t f) : gdS t (fun x => pB (r x) f) := by
  intro a st M a0 a1 ax h
  obtain ⟨st1, L1, L2, h1, h2, h3⟩ := pB_some h
  have q := hr a st1 L1 a0 a1 ax h1
  by_cases z : st1.1 = 0
  · rw [pH_good z] at h2
    have i := q.2.1 z
    have p := hf st1.2 st L2 i.1.1 i.1.2 i.2 h2
    refine ⟨p.1, p.2.1, fun y => ?_⟩
    have := p.2.2 y
    have := q.2.2 z
    rw [h3, List.length_append]
    omega
  · have := pH_bad z h2
    rw [this.1, h3, this.2, List.append_nil]
    exact q
theorem gd_Br {t : Tp} {r f : Int → PR1} (hr : gdR t r) (hf : gdS t f) : gdS t (fun x => pB (r x) f) := by
  intro a st M a0 a1 ax h
  obtain ⟨st1, L1, L2, h1, h2, h3⟩ := pB_some h
  have q := hr a st1 L1 a0 a1 ax h1
  by_cases z : st1.1 = 0
  · rw [pH_good z] at h2
    have i := q.2.1 z
    have p := hf st1.2 st L2 i.1.1 i.1.2 i.2 h2
    refine ⟨p.1, p.2.1, fun y => ?_⟩
    have := p.2.2 y
    have := q.2.2 z
    rw [h3, List.length_append]
    omega
  · have := pH_bad z h2
    rw [this.1, h3, this.2, List.append_nil]
    refine ⟨q.1, q.2.1, fun y => absurd y z⟩
/-- one more is told behind a step that went on beyond -/
theorem gd_BE {t : Tp} {r : Int → PR1} {c : Int} (hr : gdS t r) : gdR t (fun x => pB (r x) (fun y => pE c y)) := by
  intro a st M a0 a1 ax h
  obtain ⟨st1, L1, L2, h1, h2, h3⟩ := pB_some h
  have q := hr a st1 L1 a0 a1 ax h1
  have p := pH_E h2
  rw [p.1]
  refine ⟨q.1, q.2.1, fun z => ?_⟩
  have := q.2.2 z
  rw [h3, p.2.1 z, List.length_append]
  show a + ((L1.length + 1 : Nat) : Int) ≤ st1.2
  omega
theorem gdS.r {t : Tp} {f : Int → PR1} (h : gdS t f) : gdR t f := fun a st M a0 a1 ax e => by
  have := h a st M a0 a1 ax e
  exact ⟨this.1, this.2.1, fun z => by have := this.2.2 z; omega⟩
theorem gd_X {t : Tp} {k : Int} (hk : 0 < k) : gdS t (pX k) := fun a st M _ _ _ h => by
  have e := some2 h
  rw [e.1]
  refine ⟨by show 0 ≤ k; omega, fun z => ?_, fun z => ?_⟩ <;> (have z : k = 0 := z; omega)
/-- advance over a token that is there -/
theorem gd_V {t : Tp} {a : Int} {st : Int × Int} {M : List Int} (a0 : 0 ≤ a) (a1 : a ≤ t.1) (hk : kdT t a ≠ 0) (h : pV t a = some (st, M)) : 0 ≤ st.1 ∧ inT t st ∧ (st.1 = 0 → a + M.length + 1 ≤ st.2) := by
  have e := some2 h
  have v := av_in a0 a1
  rw [e.1, e.2]
  refine ⟨v.2.1, v.1, fun z => ?_⟩
  have := (v.2.2 z).2 hk
  show a + ((0 : Nat) : Int) + 1 ≤ (avT t a).2
  omega
theorem gd_M {t : Tp} {c : Int} : gdS t (pM t c) := fun a st M a0 a1 ax h => by
  unfold pM at h
  by_cases z : kdT t a = 3 ∧ vlT t a = c
  · rw [if_pos z] at h
    exact gd_V a0 a1 (by omega) h
  · rw [if_neg z] at h
    exact gd_X (by decide) a st M a0 a1 ax h
theorem kd_w {t : Tp} {a : Int} (h : wdT t a ≠ 31) : kdT t a ≠ 0 := by
  unfold wdT at h
  split at h
  · omega
  · exact absurd rfl h
/-- the same from this place alone -/
def gdA (t : Tp) (f : Int → PR1) (a : Int) : Prop := ∀ (st : Int × Int) (M : List Int), f a = some (st, M) → 0 ≤ st.1 ∧ inT t st ∧ (st.1 = 0 → a + M.length + 1 ≤ st.2)
theorem gdA_B {t : Tp} {r f : Int → PR1} {a : Int} (hr : gdA t r a) (hf : gdR t f) : gdA t (fun x => pB (r x) f) a := by
  intro st M h
  obtain ⟨st1, L1, L2, h1, h2, h3⟩ := pB_some h
  have q := hr st1 L1 h1
  by_cases z : st1.1 = 0
  · rw [pH_good z] at h2
    have i := q.2.1 z
    have p := hf st1.2 st L2 i.1.1 i.1.2 i.2 h2
    refine ⟨p.1, p.2.1, fun y => ?_⟩
    have := p.2.2 y
    have := q.2.2 z
    rw [h3, List.length_append]
    omega
  · have := pH_bad z h2
    rw [this.1, h3, this.2, List.append_nil]
    exact q
theorem gdA_D {t : Tp} {o a : Int} (a0 : 0 ≤ a) (a1 : a ≤ t.1) (ax : lxT t a = -1) (hk : kdT t a ≠ 0) : gdA t (pD t o) a := fun st M h => by
  unfold pD at h
  by_cases z : 7 ≤ o
  · rw [if_pos z] at h
    exact gd_X (by decide) a st M a0 a1 ax h
  · rw [if_neg z] at h
    exact gd_V a0 a1 hk h
theorem gdA_V {t : Tp} {a : Int} (a0 : 0 ≤ a) (a1 : a ≤ t.1) (hk : kdT t a ≠ 0) : gdA t (pV t) a := fun _ _ h => gd_V a0 a1 hk h
/-- a step from a place, one more told at its end -/
theorem gdA_E {t : Tp} {r : Int → PR1} {c a : Int} (hr : gdA t r a) {st : Int × Int} {M : List Int} (h : pB (r a) (fun y => pE c y) = some (st, M)) : 0 ≤ st.1 ∧ inT t st ∧ (st.1 = 0 → a + M.length ≤ st.2) := by
  obtain ⟨st1, L1, L2, h1, h2, h3⟩ := pB_some h
  have q := hr st1 L1 h1
  have p := pH_E h2
  rw [p.1]
  refine ⟨q.1, q.2.1, fun z => ?_⟩
  have := q.2.2 z
  rw [h3, p.2.1 z, List.length_append]
  show a + ((L1.length + 1 : Nat) : Int) ≤ st1.2
  omega
theorem pN_gd {t : Tp} {a : Int} {st : Int × Int} {M : List Int} (a0 : 0 ≤ a) (a1 : a ≤ t.1) (hx : lxT t a = -1) (h : pN a = some (st, M)) : 0 ≤ st.1 ∧ inT t st ∧ (st.1 = 0 → a + M.length ≤ st.2) := by
  have e := some2 h
  rw [e.1, e.2]
  exact ⟨Int.le_refl 0, fun _ => ⟨⟨a0, a1⟩, hx⟩, fun _ => by show a + ((0 : Nat) : Int) ≤ a; omega⟩
theorem gdA_r {t : Tp} {f : Int → PR1} (h : ∀ a, 0 ≤ a → a ≤ t.1 → lxT t a = -1 → gdA t f a) : gdS t f := fun a st M a0 a1 ax e => h a a0 a1 ax st M e
/-- the rest of a row: a sign, a part, a step, the rest -/
theorem gd_rest {t : Tp} {r f : Int → PR1} {c a : Int} (a0 : 0 ≤ a) (a1 : a ≤ t.1) (hk : kdT t a ≠ 0) (hr : gdR t r) (hf : gdR t f) {st : Int × Int} {M : List Int} (h : pB (pV t a) (fun x => pB (r x) (fun y => pB (pE c y) f)) = some (st, M)) : 0 ≤ st.1 ∧ inT t st ∧ (st.1 = 0 → a + M.length ≤ st.2) := by
  obtain ⟨st1, L1, L2, h1, h2, h3⟩ := pB_some h
  have q1 := gd_V a0 a1 hk h1
  by_cases z1 : st1.1 = 0
  · rw [pH_good z1] at h2
    obtain ⟨st2, L3, L4, g1, g2, g3⟩ := pB_some h2
    have i1 := q1.2.1 z1
    have q2 := hr st1.2 st2 L3 i1.1.1 i1.1.2 i1.2 g1
    by_cases z2 : st2.1 = 0
    · rw [pH_good z2] at g2
      obtain ⟨st3, L5, L6, m1, m2, m3⟩ := pB_some g2
      have e := some2 m1
      rw [e.1, pH_good (show ((0 : Int), st2.2).1 = 0 from rfl)] at m2
      have i2 := q2.2.1 z2
      have q3 := hf st2.2 st L6 i2.1.1 i2.1.2 i2.2 m2
      refine ⟨q3.1, q3.2.1, fun y => ?_⟩
      have a1 := q1.2.2 z1
      have a2 := q2.2.2 z2
      have a3 := q3.2.2 y
      rw [h3, g3, m3, e.2, List.length_append, List.length_append, List.length_append]
      show a + ((L1.length + (L3.length + (1 + L6.length)) : Nat) : Int) ≤ st.2
      omega
    · have b := pH_bad z2 g2
      rw [b.1]
      exact ⟨q2.1, q2.2.1, fun y => absurd y z2⟩
  · have b := pH_bad z1 h2
    rw [b.1]
    exact ⟨q1.1, q1.2.1, fun y => absurd y z1⟩
theorem cm_kd {t : Tp} {a : Int} (h : cmT t a ≠ -1) : kdT t a = 3 := by
  unfold cmT at h
  split at h
  · rename_i z; exact z.1
  · split at h
    · rename_i z; exact z.1
    · split at h
      · rename_i z; exact z.1
      · exact absurd rfl h
theorem mu_kd {t : Tp} {a : Int} (h : muT t a ≠ -1) : kdT t a = 3 := by
  unfold muT at h
  split at h
  · rename_i z; exact z.1
  · split at h
    · rename_i z; exact z.1
    · split at h
      · rename_i z; exact z.1
      · exact absurd rfl h
theorem ad_kd {t : Tp} {a : Int} (h : adT t a ≠ -1) : kdT t a = 3 := by
  unfold adT at h
  split at h
  · rename_i z; exact z.1
  · split at h
    · rename_i z; exact z.1
    · exact absurd rfl h
theorem fc_kd {t : Tp} {mb a : Int} (h : fcT t mb a ≠ -1) : kdT t a ≠ 0 := by
  apply kd_w
  intro z
  apply h
  unfold fcT
  rw [z]
  split
  · rfl
  · rfl
/-- a word or a number tells one step and goes on -/
theorem gd_EV {t : Tp} {c a : Int} (a0 : 0 ≤ a) (a1 : a ≤ t.1) (hk : kdT t a ≠ 0) {st : Int × Int} {M : List Int} (h : pB (pE c a) (fun x => pV t x) = some (st, M)) : 0 ≤ st.1 ∧ inT t st ∧ (st.1 = 0 → a + M.length ≤ st.2) := by
  obtain ⟨st1, L1, L2, h1, h2, h3⟩ := pB_some h
  have e := some2 h1
  rw [e.1, pH_good (show ((0 : Int), a).1 = 0 from rfl)] at h2
  have q := gd_V a0 a1 hk h2
  refine ⟨q.1, q.2.1, fun z => ?_⟩
  have := q.2.2 z
  rw [h3, e.2, List.length_append]
  show a + ((1 + L2.length : Nat) : Int) ≤ st.2
  omega
theorem pF_ch {t : Tp} {o a : Int} {f : Int → PR1} (a0 : 0 ≤ a) (a1 : a ≤ t.1) (ax : lxT t a = -1) (hf : gdR t f) {st : Int × Int} {M : List Int} (h : pB (pV t a) (fun x => if kdT t x = 3 ∧ vlT t x = 40 then pB (pD t o x) f else pX 1 x) = some (st, M)) : 0 ≤ st.1 ∧ inT t st ∧ (st.1 = 0 → a + M.length ≤ st.2) := by
  obtain ⟨st1, L1, L2, h1, h2, h3⟩ := pB_some h
  have e := some2 h1
  have v := av_in a0 a1
  by_cases z : st1.1 = 0
  · rw [pH_good z] at h2
    rw [e.1] at z h2
    have i := v.1 z
    have le := (v.2.2 z).1
    by_cases y : kdT t (avT t a).2 = 3 ∧ vlT t (avT t a).2 = 40
    · rw [if_pos y] at h2
      have := gdA_B (gdA_D (o := o) i.1.1 i.1.2 i.2 (by omega)) hf st L2 h2
      refine ⟨this.1, this.2.1, fun x => ?_⟩
      have := this.2.2 x
      rw [h3, e.2]
      show a + ((([] : List Int) ++ L2).length : Int) ≤ st.2
      rw [List.nil_append]
      omega
    · rw [if_neg y] at h2
      have := gd_X (t := t) (k := 1) (by decide) (avT t a).2 st L2 i.1.1 i.1.2 i.2 h2
      refine ⟨this.1, this.2.1, fun x => ?_⟩
      have := this.2.2 x
      rw [h3, e.2]
      show a + ((([] : List Int) ++ L2).length : Int) ≤ st.2
      rw [List.nil_append]
      omega
  · have b := pH_bad z h2
    rw [b.1, e.1]
    rw [e.1] at z
    exact ⟨v.2.1, v.1, fun x => absurd x z⟩
theorem pF_gd (t : Tp) (mb : Int) : ∀ (k nt : Nat) (o : Int), gdR t (pF t mb k nt o) := by
  intro k
  induction k with
  | zero => intro nt o a st M _ _ _ h; cases h
  | succ k ih =>
    intro nt o a st M a0 a1 ax h
    have hd := fun (hk : kdT t a ≠ 0) => gdA_D (t := t) (o := o) a0 a1 ax hk
    match nt, h with
    | 0, h => exact gd_B (ih 2 o) (ih 1 o) a st M a0 a1 ax h
    | 1, h =>
      have h : (if wdT t a = 25 then pB (pV t a) (fun x => pB (pF t mb k 2 o x) (fun y => pB (pE 12 y) (fun z => pF t mb k 1 o z))) else pN a) = some (st, M) := h
      by_cases z : wdT t a = 25
      · rw [if_pos z] at h
        exact gd_rest a0 a1 (kd_w (by omega)) (ih 2 o) (ih 1 o) h
      · rw [if_neg z] at h
        exact pN_gd a0 a1 ax h
    | 2, h => exact gd_B (ih 4 o) (ih 3 o) a st M a0 a1 ax h
    | 3, h =>
      have h : (if wdT t a = 26 then pB (pV t a) (fun x => pB (pF t mb k 4 o x) (fun y => pB (pE 11 y) (fun z => pF t mb k 3 o z))) else pN a) = some (st, M) := h
      by_cases z : wdT t a = 26
      · rw [if_pos z] at h
        exact gd_rest a0 a1 (kd_w (by omega)) (ih 4 o) (ih 3 o) h
      · rw [if_neg z] at h
        exact pN_gd a0 a1 ax h
    | 4, h =>
      have h : (if wdT t a = 27 then pB (pD t o a) (fun x => pB (pF t mb k 4 (o + 1) x) (fun y => pE 13 y)) else if kdT t a = 3 ∧ vlT t a = 91 then pB (pD t o a) (fun x => pB (pF t mb k 0 (o + 1) x) (fun y => pM t 93 y)) else if wdT t a = 28 then pB (pV t a) (fun x => pE 41 x) else pF t mb k 5 o a) = some (st, M) := h
      by_cases z : wdT t a = 27
      · rw [if_pos z] at h
        obtain ⟨st1, L1, L2, h1, h2, h3⟩ := pB_some h
        have q := hd (kd_w (by omega)) st1 L1 h1
        by_cases y : st1.1 = 0
        · rw [pH_good y] at h2
          have i := q.2.1 y
          obtain ⟨st2, L3, L4, g1, g2, g3⟩ := pB_some h2
          have q2 := ih 4 (o + 1) st1.2 st2 L3 i.1.1 i.1.2 i.2 g1
          have p := pH_E g2
          rw [p.1]
          refine ⟨q2.1, q2.2.1, fun x => ?_⟩
          have b1 := q.2.2 y
          have b2 := q2.2.2 x
          rw [h3, g3, p.2.1 x, List.length_append, List.length_append]
          show a + ((L1.length + (L3.length + 1) : Nat) : Int) ≤ st2.2
          omega
        · have b := pH_bad y h2
          rw [b.1]
          exact ⟨q.1, q.2.1, fun x => absurd x y⟩
      · rw [if_neg z] at h
        by_cases y : kdT t a = 3 ∧ vlT t a = 91
        · rw [if_pos y] at h
          have := gdA_B (hd (by omega)) (gd_B (ih 0 (o + 1)) (gd_M (c := 93)).r) st M h
          exact ⟨this.1, this.2.1, fun x => by have := this.2.2 x; omega⟩
        · rw [if_neg y] at h
          by_cases x : wdT t a = 28
          · rw [if_pos x] at h
            exact gdA_E (gdA_V a0 a1 (kd_w (by omega))) h
          · rw [if_neg x] at h
            exact ih 5 o a st M a0 a1 ax h
    | 5, h =>
      refine gd_B (ih 6 o) (f := fun x => if cmT t x = -1 then pX 1 x else pB (pV t x) (fun y => pB (pF t mb k 6 o y) (fun z => pE (cmT t x) z))) ?_ a st M a0 a1 ax h
      intro x st2 M2 x0 x1 xx h2
      have h2 : (if cmT t x = -1 then pX 1 x else pB (pV t x) (fun y => pB (pF t mb k 6 o y) (fun z => pE (cmT t x) z))) = some (st2, M2) := h2
      by_cases z : cmT t x = -1
      · rw [if_pos z] at h2
        exact (gd_X (by decide)).r x st2 M2 x0 x1 xx h2
      · rw [if_neg z] at h2
        have hk := cm_kd z
        have h2' : pB (pV t x) (fun y => pB (pF t mb k 6 o y) (fun z => pB (pE (cmT t x) z) (fun u => pN u))) = some (st2, M2) := by
          have ee : ∀ z, pB (pE (cmT t x) z) (fun u => pN u) = pE (cmT t x) z := fun z => rfl
          simp only [ee]
          exact h2
        exact gd_rest x0 x1 (by omega) (ih 6 o) (fun u st3 M3 u0 u1 ux h3 => pN_gd u0 u1 ux h3) h2'
    | 6, h => exact gd_B (ih 8 o) (ih 7 o) a st M a0 a1 ax h
    | 7, h =>
      have h : (if adT t a = -1 then pN a else pB (pV t a) (fun x => pB (pF t mb k 8 o x) (fun y => pB (pE (adT t a) y) (fun z => pF t mb k 7 o z)))) = some (st, M) := h
      by_cases z : adT t a = -1
      · rw [if_pos z] at h
        exact pN_gd a0 a1 ax h
      · rw [if_neg z] at h
        exact gd_rest a0 a1 (by have := ad_kd z; omega) (ih 8 o) (ih 7 o) h
    | 8, h => exact gd_B (ih 10 o) (ih 9 o) a st M a0 a1 ax h
    | 9, h =>
      have h : (if muT t a = -1 then pN a else pB (pV t a) (fun x => pB (pF t mb k 10 o x) (fun y => pB (pE (muT t a) y) (fun z => pF t mb k 9 o z)))) = some (st, M) := h
      by_cases z : muT t a = -1
      · rw [if_pos z] at h
        exact pN_gd a0 a1 ax h
      · rw [if_neg z] at h
        exact gd_rest a0 a1 (by have := mu_kd z; omega) (ih 10 o) (ih 9 o) h
    | 10, h =>
      have h : (if kdT t a = 2 then pB (pE (40 + vlT t a) a) (fun x => pV t x) else if kdT t a = 3 ∧ vlT t a = 40 then pB (pD t o a) (fun x => pB (pF t mb k 6 (o + 1) x) (fun y => pM t 41 y)) else if wdT t a = 29 then pF t mb k 11 o a else if wdT t a = 30 then pF t mb k 12 o a else if wdT t a = 24 then pF t mb k 13 o a else if fcT t mb a = -1 then pX 1 a else pB (pE (20 + fcT t mb a) a) (fun x => pV t x)) = some (st, M) := h
      by_cases z : kdT t a = 2
      · rw [if_pos z] at h
        exact gd_EV a0 a1 (by omega) h
      · rw [if_neg z] at h
        by_cases y : kdT t a = 3 ∧ vlT t a = 40
        · rw [if_pos y] at h
          have := gdA_B (hd (by omega)) (gd_B (ih 6 (o + 1)) (gd_M (c := 41)).r) st M h
          exact ⟨this.1, this.2.1, fun x => by have := this.2.2 x; omega⟩
        · rw [if_neg y] at h
          by_cases x : wdT t a = 29
          · rw [if_pos x] at h; exact ih 11 o a st M a0 a1 ax h
          · rw [if_neg x] at h
            by_cases w : wdT t a = 30
            · rw [if_pos w] at h; exact ih 12 o a st M a0 a1 ax h
            · rw [if_neg w] at h
              by_cases v : wdT t a = 24
              · rw [if_pos v] at h; exact ih 13 o a st M a0 a1 ax h
              · rw [if_neg v] at h
                by_cases u : fcT t mb a = -1
                · rw [if_pos u] at h
                  exact (gd_X (by decide)).r a st M a0 a1 ax h
                · rw [if_neg u] at h
                  exact gd_EV a0 a1 (fc_kd u) h
    | 11, h => exact pF_ch a0 a1 ax (fun y st2 M2 y0 y1 yx h2 => ih 14 (o + 1) y st2 M2 y0 y1 yx h2) h
    | 12, h => exact pF_ch a0 a1 ax (fun y st2 M2 y0 y1 yx h2 => ih 15 (o + 1) y st2 M2 y0 y1 yx h2) h
    | 13, h => exact pF_ch a0 a1 ax (gd_B (ih 0 (o + 1)) (gd_B (gd_M (c := 44)).r (ih 16 (o + 1)))) h
    | i + 14, h =>
      have h : pB (pF t mb k 6 o a) (fun x => pB (pM t 44 x) (fun y => pB (pF t mb k 6 o y) (fun z => pB (pM t 41 z) (fun u => pE (chC i) u)))) = some (st, M) := h
      exact gd_B (ih 6 o) (gd_B (gd_M (c := 44)).r (gd_B (ih 6 o) (gd_BE (gd_M (c := 41))))) a st M a0 a1 ax h
