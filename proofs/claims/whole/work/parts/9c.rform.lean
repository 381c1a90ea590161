/-! formulas: the reference's stacks -/
def rkC (c : Int) : Int := if c = 12 then 1 else if c = 11 then 2 else if c = 13 then 3 else if 8 ≤ c ∧ c ≤ 10 then 4 else if c = 1 ∨ c = 2 then 5 else 6
def opC (c : Int) : Prop := 1 ≤ c ∧ c ≤ 13
/-- how many of them are not -/
def ntN : List Int → Int
  | [] => 0
  | c :: r => (if c = 13 then 1 else 0) + ntN r
theorem ntN_app : ∀ (a b : List Int), ntN (a ++ b) = ntN a + ntN b
  | [], b => by show ntN b = 0 + ntN b; omega
  | c :: r, b => by
    show (if c = 13 then 1 else 0) + ntN (r ++ b) = (if c = 13 then 1 else 0) + ntN r + ntN b
    rw [ntN_app r b]
    omega
theorem ntN_0 : ∀ a : List Int, 0 ≤ ntN a ∧ ntN a ≤ a.length
  | [] => ⟨Int.le_refl 0, Int.le_refl 0⟩
  | c :: r => by
    have := ntN_0 r
    show 0 ≤ (if c = 13 then 1 else 0) + ntN r ∧ (if c = 13 then 1 else 0) + ntN r ≤ ((r.length + 1 : Nat) : Int)
    split <;> omega
theorem ntN_rev : ∀ a : List Int, ntN a.reverse = ntN a
  | [] => rfl
  | c :: r => by
    rw [List.reverse_cons, ntN_app, ntN_rev r]
    show ntN r + ((if c = 13 then 1 else 0) + 0) = (if c = 13 then 1 else 0) + ntN r
    omega
def RCf (s : Sg) (t : Tp) (ib mb c0 : Int) (f : Nat) (kd ph bg bf pr op opn : Int) (st : Int × Int) (O E : List Int) : Prop :=
  RTt s t ∧ RRw s t st ∧ (s 92 36 = ib ∧ (ib = 0 ∨ ib = 1) ∧ s 92 37 = mb ∧ 0 ≤ c0 ∧ 0 ≤ bf) ∧
  (s 92 43 = (f : Int) + 1 ∧ s 115 f = kd ∧ s 116 f = ph ∧ s 117 f = bg ∧ s 119 f = bf ∧ s 118 f = pr) ∧ (s 92 44 = opn ∧ s 92 47 = op) ∧
  (s 92 46 = bf + O.length ∧ ∀ i : Nat, i < O.length → s 120 (bf + i) = O.getD i 0 + 30) ∧
  (s 92 35 = c0 + E.length ∧ ∀ i : Nat, i < E.length → okC (s 110 (1600 * ib + c0 + i)) (s 111 (1600 * ib + c0 + i)) ∧ E.getD i 0 = cdM (s 110 (1600 * ib + c0 + i)) (s 111 (1600 * ib + c0 + i)))
def Fx (ib c0 : Int) (f : Nat) (bf : Int) (s s2 : Sg) : Prop :=
  (∀ o, o ≠ 92 → o ≠ 110 → o ≠ 111 → (o < 115 ∨ 120 < o) → s2 o = s o) ∧ (∀ k, ¬ Ka k → k ≠ 35 → k ≠ 43 → k ≠ 44 → k ≠ 46 → k ≠ 47 → s2 92 k = s 92 k) ∧
  (∀ o i, 115 ≤ o → o ≤ 119 → i < (f : Int) → s2 o i = s o i) ∧ (∀ i, i < bf → s2 120 i = s 120 i) ∧ (∀ o i, (o = 110 ∨ o = 111) → (i < 1600 * ib + c0 ∨ 1600 * ib + 1600 ≤ i) → s2 o i = s o i)
section RFORM2
variable {g : GT} {e : Nat} {s : Sg} {t : Tp} {ib mb c0 kd ph bg bf pr op opn : Int} {f : Nat} {st : Int × Int} {O E : List Int}
theorem Fx.rf : Fx ib c0 f bf s s := ⟨fun _ _ _ _ _ => rfl, fun _ _ _ _ _ _ _ => rfl, fun _ _ _ _ _ => rfl, fun _ _ => rfl, fun _ _ _ _ => rfl⟩
theorem Fx.tr {s2 s3 : Sg} (h : Fx ib c0 f bf s s2) (h2 : Fx ib c0 f bf s2 s3) : Fx ib c0 f bf s s3 :=
  ⟨fun o a b c d => (h2.1 o a b c d).trans (h.1 o a b c d), fun k a b c d e f => (h2.2.1 k a b c d e f).trans (h.2.1 k a b c d e f), fun o i a b c => (h2.2.2.1 o i a b c).trans (h.2.2.1 o i a b c), fun i a => (h2.2.2.2.1 i a).trans (h.2.2.2.1 i a), fun o i a b => (h2.2.2.2.2 o i a b).trans (h.2.2.2.2 o i a b)⟩
theorem Fx.wk {s2 : Sg} {f2 : Nat} {bf2 : Int} (h : Fx ib c0 f2 bf2 s s2) (hf : f ≤ f2) (hb : bf ≤ bf2) : Fx ib c0 f bf s s2 :=
  ⟨h.1, h.2.1, fun o i a b c => h.2.2.1 o i a b (by omega), fun i a => h.2.2.2.1 i (by omega), h.2.2.2.2⟩
theorem Fx.fa {s2 : Sg} (h : Fa s s2) : Fx ib c0 f bf s s2 :=
  ⟨fun o a _ _ _ => h.1 o a, fun k a _ _ _ _ _ => h.2 k a, fun o i a b _ => by rw [h.1 o (by omega)], fun i _ => by rw [h.1 120 (by decide)], fun o i a _ => by rw [h.1 o (by omega)]⟩
theorem Fx.u92 {k v : Int} (h : k = 35 ∨ k = 43 ∨ k = 44 ∨ k = 46 ∨ k = 47) : Fx ib c0 f bf s (ups s 92 k v) :=
  ⟨fun o a _ _ _ => ups_at _ a, fun j _ a b c d e => ups_k _ (by omega), fun o i a b _ => ups_o _ (by omega), fun i _ => ups_o _ (by decide), fun o i a _ => ups_o _ (by omega)⟩
theorem Fx.uF {o i v : Int} (h : 115 ≤ o) (h2 : o ≤ 119) (hi : (f : Int) ≤ i) : Fx ib c0 f bf s (ups s o i v) :=
  ⟨fun p a _ _ d => ups_at _ (by omega), fun k _ _ _ _ _ _ => ups_o _ (by omega), fun p j a b c => by
    by_cases z : p = o
    · rw [z, ups_k _ (by omega)]
    · exact ups_o _ z, fun j _ => ups_o _ (by omega), fun p j a _ => ups_o _ (by omega)⟩
theorem Fx.uO {i v : Int} (hi : bf ≤ i) : Fx ib c0 f bf s (ups s 120 i v) :=
  ⟨fun p a _ _ d => ups_at _ (by omega), fun k _ _ _ _ _ _ => ups_o _ (by omega), fun p j a b c => ups_o _ (by omega), fun j hj => ups_k _ (by omega), fun p j a _ => ups_o _ (by omega)⟩
theorem Fx.uC {o i v : Int} (ho : o = 110 ∨ o = 111) (h1 : 1600 * ib + c0 ≤ i) (h2 : i < 1600 * ib + 1600) : Fx ib c0 f bf s (ups s o i v) :=
  ⟨fun p a b c d => ups_at _ (by omega), fun k _ _ _ _ _ _ => ups_o _ (by omega), fun p j a b c => ups_o _ (by omega), fun j hj => ups_o _ (by omega), fun p j a b => by
    by_cases z : p = o
    · rw [z, ups_k _ (by omega)]
    · exact ups_o _ z⟩
theorem RRw.same {s2 : Sg} (h : RRw s t st) (hk : ∀ k, Ka k → s2 92 k = s 92 k) : RRw s2 t st := by
  have e : ∀ a, RTk s t a → RTk s2 t a := fun a q => by
    unfold RTk
    rw [hk 8 (by unfold Ka; omega), hk 9 (by unfold Ka; omega), hk 4 (by unfold Ka; omega), hk 5 (by unfold Ka; omega), hk 3 (by unfold Ka; omega), hk 12 (by unfold Ka; omega), hk 7 (by unfold Ka; omega), hk 6 (by unfold Ka; omega)]
    exact q
  refine ⟨h.1, fun z => ⟨e _ (h.2.1 z).1, (h.2.1 z).2⟩, fun z => ?_⟩
  rcases h.2.2 z with y | ⟨y0, a, y1, y2, y3⟩
  · left; rw [hk 8 (by unfold Ka; omega), hk 9 (by unfold Ka; omega)]; exact y
  · right; exact ⟨y0, a, e a y1, y2, y3⟩
theorem RTt.same {s2 : Sg} (h : RTt s t) (h2 : s2 92 2 = s 92 2) (h3 : s2 93 = s 93) : RTt s2 t := ⟨by rw [h2]; exact h.1, h.2.1, by rw [h3]; exact h.2.2⟩
theorem getD_app {L : List Int} {c : Int} {i : Nat} (hi : i < L.length + 1) : (L ++ [c]).getD i 0 = if i = L.length then c else L.getD i 0 := by
  by_cases z : i = L.length
  · rw [if_pos z, z]; simp
  · rw [if_neg z, List.getD_eq_getElem?_getD, List.getD_eq_getElem?_getD, List.getElem?_append_left (by omega)]
/-- a code is told -/
theorem R_add2 {c v : Int} (h : RCf s t ib mb c0 f kd ph bg bf pr op opn st O E) (hb : c0 + E.length < 1600) (hc : okC c v) : Mw g (e + 1) M_X13_add [(21, 92), (0, c), (0, v)] s (fun _ s' => RCf s' t ib mb c0 f kd ph bg bf pr op opn st O (E ++ [cdM c v]) ∧ Fx ib c0 f bf s s' ∧ s' 120 = s 120) := by
  obtain ⟨h1, h2, ⟨h36, hib, h37, hc0, hbf⟩, h4, h5, h6, h7, h8⟩ := h
  have ei : w32 (w32 (1600 * s 92 36) + s 92 35) = 1600 * ib + c0 + E.length := by
    rw [h36, h7, w32_of (show _ ≤ 1600 * ib by omega) (by omega), w32_of (by omega) (by omega)]
    omega
  refine S_X13_add (fun _ _ => ?_)
  rw [ei]
  refine ⟨⟨by omega, by omega⟩, fun s1 e1 => ?_⟩
  have e92 : s1 92 = s 92 := by rw [e1, ups_at _ (by decide)]
  rw [e92, ei]
  refine ⟨⟨by omega, by omega⟩, fun s2 e2 s3 e3 => ?_⟩
  have e922 : s2 92 = s 92 := by rw [e2, ups_at _ (by decide), e92]
  rw [e922, h7, w32_of (show _ ≤ c0 + (E.length : Int) + 1 by omega) (by omega)] at e3
  have ek : ∀ k, k ≠ 35 → s3 92 k = s 92 k := fun k hk => by rw [e3, ups_k _ hk, e922]
  have eo : ∀ o, o ≠ 92 → o ≠ 110 → o ≠ 111 → s3 o = s o := fun o a b c => by rw [e3, ups_at _ a, e2, ups_at _ c, e1, ups_at _ b]
  have fx : Fx ib c0 f bf s s3 := by
    rw [e3, e2, e1]
    exact ((Fx.uC (Or.inl rfl) (by omega) (by omega)).tr (Fx.uC (Or.inr rfl) (by omega) (by omega))).tr (Fx.u92 (Or.inl rfl))
  have r : RCf s3 t ib mb c0 f kd ph bg bf pr op opn st O (E ++ [cdM c v]) := by
    refine ⟨h1.same (ek 2 (by decide)) (eo 93 (by decide) (by decide) (by decide)), h2.same (fun k hk => ek k (by unfold Ka at hk; omega)), ⟨by rw [ek 36 (by decide)]; exact h36, hib, by rw [ek 37 (by decide)]; exact h37, hc0, hbf⟩, ?_, ?_, ?_, ?_, ?_⟩
    · rw [ek 43 (by decide), eo 115 (by decide) (by decide) (by decide), eo 116 (by decide) (by decide) (by decide), eo 117 (by decide) (by decide) (by decide), eo 119 (by decide) (by decide) (by decide), eo 118 (by decide) (by decide) (by decide)]; exact h4
    · rw [ek 44 (by decide), ek 47 (by decide)]; exact h5
    · rw [ek 46 (by decide), eo 120 (by decide) (by decide) (by decide)]; exact h6
    · rw [e3, ups_eq, List.length_append]; show c0 + (E.length : Int) + 1 = c0 + ((E.length + 1 : Nat) : Int); omega
    · intro i hi
      rw [List.length_append] at hi
      have hi : i < E.length + 1 := hi
      have v110 : s3 110 (1600 * ib + c0 + i) = if i = E.length then c else s 110 (1600 * ib + c0 + i) := by
        rw [e3, ups_at _ (by decide), e2, ups_at _ (by decide), e1]
        by_cases z : i = E.length
        · rw [if_pos z, z, ups_eq]
        · rw [if_neg z, ups_k _ (by omega)]
      have v111 : s3 111 (1600 * ib + c0 + i) = if i = E.length then v else s 111 (1600 * ib + c0 + i) := by
        rw [e3, ups_at _ (by decide), e2]
        by_cases z : i = E.length
        · rw [if_pos z, z, ups_eq]
        · rw [if_neg z, ups_k _ (by omega), e1, ups_at _ (by decide)]
      rw [v110, v111, getD_app hi]
      by_cases z : i = E.length
      · rw [if_pos z, if_pos z, if_pos z]; exact ⟨hc, rfl⟩
      · rw [if_neg z, if_neg z, if_neg z]; exact h8 i (by omega)
  exact ⟨r, fx, eo 120 (by decide) (by decide) (by decide)⟩
theorem R_rank {c : Int} (hc : opC c) : Mw g (e + 1) M_X13_rank [(0, c + 30)] s (Ex (rkC c) s) := by
  unfold opC at hc
  refine S_X13_rank (fun _ => ?_)
  unfold rkC
  rcases (show c = 1 ∨ c = 2 ∨ c = 3 ∨ c = 4 ∨ c = 5 ∨ c = 6 ∨ c = 7 ∨ c = 8 ∨ c = 9 ∨ c = 10 ∨ c = 11 ∨ c = 12 ∨ c = 13 by omega) with z | z | z | z | z | z | z | z | z | z | z | z | z <;> subst z
  all_goals
    refine ⟨fun q => ⟨fun q2 => ⟨fun q3 => ⟨fun q4 => ?_, fun q4 => ⟨fun q5 => ?_, fun q5 => ⟨fun q6 => ⟨fun q7 => ?_, fun q7 => ⟨fun q8 => ?_, fun q8 => ?_⟩⟩, fun q6 => ?_⟩⟩⟩, fun q3 => ?_⟩, fun q2 => ?_⟩, fun q => ?_⟩
    all_goals first | exact ⟨by decide, rfl⟩ | omega
theorem RCf.pop {c : Int} {s2 : Sg} (h : RCf s t ib mb c0 f kd ph bg bf pr op opn st (O ++ [c]) E) (e2 : s2 = ups s 92 46 (bf + O.length)) : RCf s2 t ib mb c0 f kd ph bg bf pr op opn st O E := by
  obtain ⟨h1, h2, h3, h4, h5, ⟨h6, h6'⟩, h7⟩ := h
  have ek : ∀ k, k ≠ 46 → s2 92 k = s 92 k := fun k hk => by rw [e2, ups_k _ hk]
  have eo : ∀ o, o ≠ 92 → s2 o = s o := fun o a => by rw [e2, ups_at _ a]
  refine ⟨h1.same (ek 2 (by decide)) (eo 93 (by decide)), h2.same (fun k hk => ek k (by unfold Ka at hk; omega)), ?_, ?_, ?_, ⟨by rw [e2, ups_eq], fun i hi => ?_⟩, ?_⟩
  · rw [ek 36 (by decide), ek 37 (by decide)]; exact h3
  · rw [ek 43 (by decide), eo 115 (by decide), eo 116 (by decide), eo 117 (by decide), eo 119 (by decide), eo 118 (by decide)]; exact h4
  · rw [ek 44 (by decide), ek 47 (by decide)]; exact h5
  · have := h6' i (by rw [List.length_append]; show i < O.length + 1; omega)
    rw [getD_app (by omega), if_neg (by omega)] at this
    rw [eo 120 (by decide)]
    exact this
  · rw [ek 35 (by decide), eo 110 (by decide), eo 111 (by decide)]; exact h7
/-- a field of the stacks is written -/
theorem RCf.u44 {x : Int} {s2 : Sg} (h : RCf s t ib mb c0 f kd ph bg bf pr op opn st O E) (e2 : s2 = ups s 92 44 x) : RCf s2 t ib mb c0 f kd ph bg bf pr op x st O E := by
  obtain ⟨h1, h2, h3, h4, h5, h6, h7⟩ := h
  have ek : ∀ k, k ≠ 44 → s2 92 k = s 92 k := fun k hk => by rw [e2, ups_k _ hk]
  have eo : ∀ o, o ≠ 92 → s2 o = s o := fun o a => by rw [e2, ups_at _ a]
  refine ⟨h1.same (ek 2 (by decide)) (eo 93 (by decide)), h2.same (fun k hk => ek k (by unfold Ka at hk; omega)), ?_, ?_, ⟨by rw [e2, ups_eq], by rw [ek 47 (by decide)]; exact h5.2⟩, ?_, ?_⟩
  · rw [ek 36 (by decide), ek 37 (by decide)]; exact h3
  · rw [ek 43 (by decide), eo 115 (by decide), eo 116 (by decide), eo 117 (by decide), eo 119 (by decide), eo 118 (by decide)]; exact h4
  · rw [ek 46 (by decide), eo 120 (by decide)]; exact h6
  · rw [ek 35 (by decide), eo 110 (by decide), eo 111 (by decide)]; exact h7
theorem RCf.u47 {x : Int} {s2 : Sg} (h : RCf s t ib mb c0 f kd ph bg bf pr op opn st O E) (e2 : s2 = ups s 92 47 x) : RCf s2 t ib mb c0 f kd ph bg bf pr x opn st O E := by
  obtain ⟨h1, h2, h3, h4, h5, h6, h7⟩ := h
  have ek : ∀ k, k ≠ 47 → s2 92 k = s 92 k := fun k hk => by rw [e2, ups_k _ hk]
  have eo : ∀ o, o ≠ 92 → s2 o = s o := fun o a => by rw [e2, ups_at _ a]
  refine ⟨h1.same (ek 2 (by decide)) (eo 93 (by decide)), h2.same (fun k hk => ek k (by unfold Ka at hk; omega)), ?_, ?_, ⟨by rw [ek 44 (by decide)]; exact h5.1, by rw [e2, ups_eq]⟩, ?_, ?_⟩
  · rw [ek 36 (by decide), ek 37 (by decide)]; exact h3
  · rw [ek 43 (by decide), eo 115 (by decide), eo 116 (by decide), eo 117 (by decide), eo 119 (by decide), eo 118 (by decide)]; exact h4
  · rw [ek 46 (by decide), eo 120 (by decide)]; exact h6
  · rw [ek 35 (by decide), eo 110 (by decide), eo 111 (by decide)]; exact h7
/-- a frame's field: 115 kind, 116 phase, 117 begins, 118 pair -/
theorem RCf.uF {o x : Int} {s2 : Sg} (h : RCf s t ib mb c0 f kd ph bg bf pr op opn st O E) (ho : o = 115 ∨ o = 116 ∨ o = 117 ∨ o = 118) (e2 : s2 = ups s o f x) : RCf s2 t ib mb c0 f (if o = 115 then x else kd) (if o = 116 then x else ph) (if o = 117 then x else bg) bf (if o = 118 then x else pr) op opn st O E := by
  obtain ⟨h1, h2, h3, ⟨h43, h115, h116, h117, h119, h118⟩, h5, h6, h7⟩ := h
  have e92 : s2 92 = s 92 := by rw [e2, ups_at _ (by omega)]
  have eo : ∀ p, p ≠ o → s2 p = s p := fun p a => by rw [e2, ups_at _ a]
  have ev : ∀ p y, s p f = y → s2 p f = if o = p then x else y := fun p y hy => by
    by_cases z : o = p
    · rw [if_pos z, e2, z, ups_eq]
    · rw [if_neg z, eo p (fun u => z u.symm)]; exact hy
  refine ⟨h1.same (by rw [e92]) (eo 93 (by omega)), h2.same (fun k hk => by rw [e92]), ?_, ⟨by rw [e92]; exact h43, ev 115 _ h115, ev 116 _ h116, ev 117 _ h117, by rw [eo 119 (by omega)]; exact h119, ev 118 _ h118⟩, ?_, ?_, ?_⟩
  · rw [e92]; exact h3
  · rw [e92]; exact h5
  · rw [e92, eo 120 (by omega)]; exact h6
  · rw [e92, eo 110 (by omega), eo 111 (by omega)]; exact h7
theorem RCf.fa {s2 : Sg} {st2 : Int × Int} (h : RCf s t ib mb c0 f kd ph bg bf pr op opn st O E) (hf : Fa s s2) (hr : RRw s2 t st2) : RCf s2 t ib mb c0 f kd ph bg bf pr op opn st2 O E := by
  obtain ⟨h1, h2, h3, h4, h5, h6, h7⟩ := h
  have ek : ∀ k, ¬ Ka k → s2 92 k = s 92 k := hf.2
  have eo : ∀ o, o ≠ 92 → s2 o = s o := hf.1
  refine ⟨h1.fa hf, hr, ?_, ?_, ?_, ?_, ?_⟩
  · rw [ek 36 (by unfold Ka; omega), ek 37 (by unfold Ka; omega)]; exact h3
  · rw [ek 43 (by unfold Ka; omega), eo 115 (by decide), eo 116 (by decide), eo 117 (by decide), eo 119 (by decide), eo 118 (by decide)]; exact h4
  · rw [ek 44 (by unfold Ka; omega), ek 47 (by unfold Ka; omega)]; exact h5
  · rw [ek 46 (by unfold Ka; omega), eo 120 (by decide)]; exact h6
  · rw [ek 35 (by unfold Ka; omega), eo 110 (by decide), eo 111 (by decide)]; exact h7
/-- the ops of this frame whose rank is l at least are told -/
theorem R_joins {l : Int} (hO : ∀ c, c ∈ O → rkC c < l) (hf : f < 20) : ∀ (R E : List Int) (s0 : Sg) (opn : Int), (∀ c, c ∈ R → l ≤ rkC c ∧ opC c) → (∀ c, c ∈ O → opC c) → RCf s0 t ib mb c0 f kd ph bg bf pr op opn st (O ++ R.reverse) E → c0 + E.length + R.length ≤ 1600 → bf + (O ++ R.reverse).length ≤ 500 → (ntN R ≤ opn ∧ opn ≤ 100) → Fx ib c0 f bf s s0 →
    P_X13_joins_0 g (e + 1) (fun _ s' => RCf s' t ib mb c0 f kd ph bg bf pr op (opn - ntN R) st O (E ++ R) ∧ Fx ib c0 f bf s s') s0 l := by
  intro R
  induction R with
  | nil =>
    intro E s0 opn hR hOc hc hb h5 ho hx
    obtain ⟨h1, h2, h3, h4, h5', ⟨h6, h6'⟩, h7⟩ := hc
    rw [List.reverse_nil, List.append_nil] at h6 h6'
    have fin : RCf s0 t ib mb c0 f kd ph bg bf pr op (opn - ntN []) st O (E ++ []) := by
      rw [List.append_nil, show opn - ntN [] = opn by show opn - 0 = opn; omega]
      exact ⟨h1, h2, h3, h4, h5', ⟨h6, h6'⟩, h7⟩
    refine S_X13_joins_0 ?_
    rw [h4.1, w32_of (show _ ≤ (f : Int) + 1 - 1 by omega) (by omega), show (f : Int) + 1 - 1 = (f : Int) by omega, h4.2.2.2.2.1, h6]
    refine ⟨⟨by omega, by omega⟩, fun _ => ⟨fin, hx⟩, fun q => ?_⟩
    have ol : 0 < O.length := by omega
    rw [List.reverse_nil, List.append_nil] at h5
    rw [w32_of (show _ ≤ bf + (O.length : Int) - 1 by omega) (by omega)]
    have top := h6' (O.length - 1) (by omega)
    rw [show bf + ((O.length - 1 : Nat) : Int) = bf + (O.length : Int) - 1 by omega] at top
    have mem : O.getD (O.length - 1) 0 ∈ O := by
      rw [List.getD_eq_getElem?_getD, List.getElem?_eq_getElem (by omega)]
      exact List.getElem_mem _
    rw [top]
    refine ⟨⟨by omega, by omega⟩, Mw.ex (R_rank (hOc _ mem)) ⟨fun _ => ⟨fin, hx⟩, fun z => absurd (hO _ mem) z⟩⟩
  | cons c R ih =>
    intro E s0 opn hR hOc hc hb h5 ho hx
    rw [List.reverse_cons, ← List.append_assoc] at hc h5
    have hcc := hc
    obtain ⟨h1, h2, h3, h4, h5', ⟨h6, h6'⟩, h7⟩ := hc
    rw [List.length_append] at h5 h6
    have h5 : bf + (((O ++ R.reverse).length + 1 : Nat) : Int) ≤ 500 := h5
    have h6 : s0 92 46 = bf + (((O ++ R.reverse).length + 1 : Nat) : Int) := h6
    have b0 := h3.2.2.2.2
    have rc := hR c List.mem_cons_self
    have top := h6' (O ++ R.reverse).length (by simp)
    rw [getD_app (by omega), if_pos rfl] at top
    have hb : c0 + (E.length : Int) + ((R.length + 1 : Nat) : Int) ≤ 1600 := hb
    refine S_X13_joins_0 ?_
    rw [h4.1, w32_of (show _ ≤ (f : Int) + 1 - 1 by omega) (by omega), show (f : Int) + 1 - 1 = (f : Int) by omega, h4.2.2.2.2.1, h6, w32_of (show _ ≤ bf + (((O ++ R.reverse).length + 1 : Nat) : Int) - 1 by omega) (by omega), show bf + (((O ++ R.reverse).length + 1 : Nat) : Int) - 1 = bf + ((O ++ R.reverse).length : Int) by omega, top]
    refine ⟨⟨by omega, by omega⟩, fun q => absurd q (by omega), fun _ => ⟨⟨by omega, by omega⟩, Mw.ex (R_rank rc.2) ⟨fun q => absurd rc.1 (by omega), fun _ s3 e3 => ?_⟩⟩⟩
    rw [h6, w32_of (by omega) (by omega), show bf + (((O ++ R.reverse).length + 1 : Nat) : Int) - 1 = bf + ((O ++ R.reverse).length : Int) by omega] at e3
    have c3 := hcc.pop e3
    have x3 : Fx ib c0 f bf s0 s3 := by rw [e3]; exact Fx.u92 (by omega)
    have v46 : s3 92 46 = bf + ((O ++ R.reverse).length : Int) := by rw [e3, ups_eq]
    have v120 : s3 120 (bf + ((O ++ R.reverse).length : Int)) = c + 30 := by rw [e3, ups_at _ (by decide)]; exact top
    have oc := rc.2
    unfold opC at oc
    rw [v46, v120]
    refine ⟨⟨by omega, by omega⟩, (R_add2 c3 (by omega) (Or.inr (Or.inr (Or.inr ⟨by omega, by omega⟩)))).imp (fun _ s5 n => ?_)⟩
    have ecd : cdM (c + 30) 0 = c := by
      unfold cdM
      rw [if_neg (by omega), if_neg (by omega), if_neg (by omega)]
      omega
    rw [ecd] at n
    have v465 : s5 92 46 = bf + ((O ++ R.reverse).length : Int) := n.1.2.2.2.2.2.1.1
    have v1205 : s5 120 (bf + ((O ++ R.reverse).length : Int)) = c + 30 := by rw [n.2.2]; exact v120
    have nt0 := ntN_0 R
    have ho : (if c = 13 then 1 else 0) + ntN R ≤ opn ∧ opn ≤ 100 := ho
    rw [v465, v1205]
    have go : ∀ (s6 : Sg) (o6 : Int), RCf s6 t ib mb c0 f kd ph bg bf pr op o6 st (O ++ R.reverse) (E ++ [c]) → Fx ib c0 f bf s s6 → o6 = opn - (if c = 13 then 1 else 0) → P_X13_joins_0 g (e + 1) (fun _ s' => RCf s' t ib mb c0 f kd ph bg bf pr op (opn - ntN (c :: R)) st O (E ++ c :: R) ∧ Fx ib c0 f bf s s') s6 l := fun s6 o6 c6 x6 ho6 => by
      have := ih (E ++ [c]) s6 o6 (fun d hd => hR d (List.mem_cons_of_mem _ hd)) hOc c6 (by rw [List.length_append]; show c0 + ((E.length + 1 : Nat) : Int) + (R.length : Int) ≤ 1600; omega) (by omega) (by rw [ho6]; omega) x6
      rw [List.append_assoc] at this
      have en : o6 - ntN R = opn - ntN (c :: R) := by
        rw [ho6]
        show opn - (if c = 13 then 1 else 0) - ntN R = opn - ((if c = 13 then 1 else 0) + ntN R)
        omega
      rw [en] at this
      exact this
    refine ⟨⟨by omega, by omega⟩, fun q => go s5 opn n.1 ((hx.tr x3).tr n.2.1) (by rw [if_neg (by omega)]; omega), fun q s6 e6 => ?_⟩
    have v44 : s5 92 44 = opn := n.1.2.2.2.2.1.1
    rw [if_pos (show c = 13 by omega)] at ho
    rw [v44, w32_of (by omega) (by omega)] at e6
    exact go s6 (opn - 1) (n.1.u44 e6) (((hx.tr x3).tr n.2.1).tr (by rw [e6]; exact Fx.u92 (by omega))) (by rw [if_pos (by omega)])
end RFORM2
