/-! the judgements: a method at a place (Wp), a method's contract (Mw) -/
abbrev MI : Type := MethodName × ByteArray × Nat × Option FieldType
def rmD (d : Nat) : Room := { frames := d, cells := 0, slots := 0, locals := 40 * d }
def rV (ret : Option FieldType) (r : Int) : Option Value := match ret with
  | none => none
  | some .long => some (.long (i6 r))
  | some _ => some (.int (i3 r))
def rT (ret : Option FieldType) : Nat := match ret with
  | some .long => 2
  | _ => 0
def Qz (g : GT) (M : MI) (Q : Int → Sg → Prop) : Array Value → State → Outcome → State → Prop := fun _ st oc t =>
  (∃ (r : Int) (σ' : Sg), oc = .returned (rV M.2.2.2 r) ∧ vld g (rT M.2.2.2, r) ∧ Q r σ' ∧ Rp g σ' t.heap) ∧ va_F (gAd g) st t
def wsM (M : MI) : List Cond := .code M.1 M.2.1 M.2.2.1 M.2.2.2 :: lwG
def Pz (g : GT) (args : List AV) (σ : Sg) : Array Value → State → Prop := va_Pc (args.map (conc g)) (fun U => Rp g σ U.heap ∧ Kx g U ∧ Sx g U U.heap)
def Mw (g : GT) (d : Nat) (M : MI) (args : List AV) (σ : Sg) (Q : Int → Sg → Prop) : Prop :=
  Cl g → (∀ x ∈ args, vld g x) → Met (gl g) M.1 (wsM M) (rmD d) (Pz g args σ) (Qz g M Q) 0 0 (gAd g)
def Cx (g : GT) (M : MI) (p : Program) (s : State) (m : MethodId) (args : Array Value) (meth : Method) (c : Code) : Prop :=
  p.tables.exec = Jvm.exec ∧ c.code = M.2.1 ∧ c.maxLocals = M.2.2.1 ∧ s.vm.findClass M.1.cls = some m.cls ∧ (∀ w ∈ lwG, w.before args s = true) ∧ meth.sig.returnType = M.2.2.2 ∧ meth.locks = false ∧ Kx g s ∧ Sx g s s.heap ∧ Cl g
def LH (g : GT) (lsA : Array Slot) (nL : Nat) (ls : List AV) : Prop := lsA.size = nL ∧ lv_wf lsA ∧ ∀ (i t : Nat) (v : Int), ls[i]? = some (t, v) → t ≠ 9 → lsA[i]? = some (.val (conc g (t, v)))
def Wp (g : GT) (d : Nat) (M : MI) (Q : Int → Sg → Prop) (pc : Nat) (ls st : List AV) (σ : Sg) : Prop :=
  ∀ (p : Program) (e : Env) (s : State) (m : MethodId) (args : Array Value) (below : List Frame) (meth : Method) (c : Code) (H : Heap) (locs : List Loc) (lsA : Array Slot),
    Cx g M p s m args meth c → va_S (gAd g) s.heap H locs → Rp g σ H → LH g lsA M.2.2.1 ls → (∀ x ∈ ls, vld g x) → (∀ x ∈ st, vld g x) →
    W p (gl g) e (rmD d) s m args below meth c H locs 0 0 (MQ below (Qz g M Q) args s 0 0 (gAd g)) (F0 m pc lsA (st.map (conc g)))
-- locals
def asc (g : GT) : Nat → List AV → List (Nat × Value)
  | _, [] => []
  | k, x :: r => if x.1 = 9 then asc g (k + 1) r else (k, conc g x) :: asc g (k + 1) r
theorem asc_mem (g : GT) : ∀ (ls : List AV) (k i : Nat) (v : Value), (i, v) ∈ asc g k ls ↔ ∃ (j : Nat) (x : AV), i = k + j ∧ ls[j]? = some x ∧ x.1 ≠ 9 ∧ v = conc g x
  | [], k, i, v => by simp [asc]
  | y :: r, k, i, v => by
    have ih := asc_mem g r (k + 1) i v
    unfold asc
    constructor
    · intro h
      by_cases hy : y.1 = 9
      · rw [if_pos hy] at h
        obtain ⟨j, x, h1, h2, h3, h4⟩ := ih.mp h
        exact ⟨j + 1, x, by omega, by simpa using h2, h3, h4⟩
      · rw [if_neg hy] at h
        rcases List.mem_cons.mp h with h | h
        · cases h
          exact ⟨0, y, rfl, rfl, hy, rfl⟩
        · obtain ⟨j, x, h1, h2, h3, h4⟩ := ih.mp h
          exact ⟨j + 1, x, by omega, by simpa using h2, h3, h4⟩
    · rintro ⟨j, x, h1, h2, h3, h4⟩
      cases j with
      | zero =>
        simp only [List.getElem?_cons_zero, Option.some.injEq] at h2
        subst h2
        rw [if_neg h3]
        exact List.mem_cons.mpr (Or.inl (by rw [h1, h4]; rfl))
      | succ j =>
        have hm : (i, v) ∈ asc g (k + 1) r := ih.mpr ⟨j, x, by omega, by simpa using h2, h3, h4⟩
        by_cases hy : y.1 = 9
        · rw [if_pos hy]; exact hm
        · rw [if_neg hy]; exact List.mem_cons_of_mem _ hm
theorem LH.has {g : GT} {lsA : Array Slot} {nL : Nat} {ls : List AV} (h : LH g lsA nL ls) : lv_has lsA nL (asc g 0 ls) := by
  refine ⟨h.1, h.2.1, fun q hq => ?_⟩
  obtain ⟨j, x, h1, h2, h3, h4⟩ := (asc_mem g ls 0 q.1 q.2).mp hq
  rw [h4, h1, Nat.zero_add]
  exact h.2.2 j x.1 x.2 h2 h3
def killP (ls : List AV) (i : Nat) : List AV := match i with
  | 0 => ls
  | k + 1 => match ls[k]? with
    | some (2, _) => ls.set k (9, 0)
    | _ => ls
def stI (ls : List AV) (i : Nat) (x : AV) : List AV := (killP ls i).set i x
def stJ (ls : List AV) (i : Nat) (x : AV) : List AV := ((killP ls i).set i x).set (i + 1) (9, 0)
theorem killP_len (ls : List AV) (i : Nat) : (killP ls i).length = ls.length := by
  unfold killP
  split
  · rfl
  · split
    · simp
    · rfl
theorem killP_at {ls : List AV} {i j : Nat} {x : AV} (h : (killP ls i)[j]? = some x) (hx : x.1 ≠ 9) : ls[j]? = some x ∧ ¬ (j + 1 = i ∧ x.1 = 2) := by
  cases i with
  | zero => exact ⟨h, by omega⟩
  | succ k =>
    by_cases ej : j = k
    · subst ej
      cases hj : ls[j]? with
      | none =>
        unfold killP at h
        simp only [hj] at h
        cases h
      | some y =>
        obtain ⟨ty, vy⟩ := y
        by_cases e2 : ty = 2
        · subst e2
          unfold killP at h
          simp only [hj] at h
          rw [List.getElem?_set] at h
          simp only [if_true] at h
          split at h
          · cases h; exact absurd rfl hx
          · cases h
        · have hk : killP ls (j + 1) = ls := by
            unfold killP
            simp only [hj]
            split
            next h1 => simp only [Option.some.injEq, Prod.mk.injEq] at h1; exact absurd h1.1 e2
            next => rfl
          rw [hk, hj] at h
          cases h
          exact ⟨rfl, fun q => e2 q.2⟩
    · refine ⟨?_, by omega⟩
      unfold killP at h
      simp only at h
      split at h
      · rw [List.getElem?_set, if_neg (fun q => ej q.symm)] at h
        exact h
      · exact h
theorem conc_cat {g : GT} {x : AV} (h : x.1 ≠ 2) : (conc g x).category = 1 := by
  obtain ⟨t, v⟩ := x
  unfold conc
  split <;> first | rfl | (rename_i e; exact absurd e h)
theorem LH.stI {g : GT} {lsA : Array Slot} {nL i : Nat} {ls : List AV} {x : AV} {V : Value} (hV : V = conc g x)
    (h : lv_has lsA nL ((i, V) :: (asc g 0 ls).filter (fun q => !(q.1 == i) && !(q.1 + 1 == i && q.2.category == 2)))) : LH g lsA nL (stI ls i x) := by
  refine ⟨h.1, h.2.1, fun j t v hj ht => ?_⟩
  unfold Jvm.Pilot.CStoneRaisedLaw_law_r9909_766940.stI at hj
  rw [List.getElem?_set] at hj
  by_cases e : i = j
  · subst e
    rw [if_pos rfl] at hj
    split at hj
    · cases hj
      rw [← hV]
      exact h.2.2 (i, V) List.mem_cons_self
    · cases hj
  · rw [if_neg e] at hj
    obtain ⟨h1, h2⟩ := killP_at hj ht
    refine h.2.2 (j, conc g (t, v)) (List.mem_cons_of_mem _ (List.mem_filter.mpr ⟨(asc_mem g ls 0 j _).mpr ⟨j, (t, v), by omega, h1, ht, rfl⟩, ?_⟩))
    simp only [Bool.and_eq_true, Bool.not_eq_true', beq_eq_false_iff_ne, Bool.and_eq_false_iff]
    refine ⟨fun q => e q.symm, ?_⟩
    by_cases e2 : t = 2
    · exact Or.inl (fun q => h2 ⟨q, e2⟩)
    · right
      rw [conc_cat (x := (t, v)) e2]
      decide
theorem LH.stJ {g : GT} {lsA : Array Slot} {nL i : Nat} {ls : List AV} {x : AV} {V : Value} (hV : V = conc g x)
    (h : lv_has lsA nL ((i, V) :: (asc g 0 ls).filter (fun q => !(q.1 == i) && (!(q.1 == i + 1) && !(q.1 + 1 == i && q.2.category == 2))))) : LH g lsA nL (stJ ls i x) := by
  refine ⟨h.1, h.2.1, fun j t v hj ht => ?_⟩
  unfold Jvm.Pilot.CStoneRaisedLaw_law_r9909_766940.stJ at hj
  rw [List.getElem?_set] at hj
  by_cases e1 : i + 1 = j
  · rw [if_pos e1] at hj
    split at hj
    · cases hj; exact absurd rfl ht
    · cases hj
  · rw [if_neg e1, List.getElem?_set] at hj
    by_cases e : i = j
    · subst e
      rw [if_pos rfl] at hj
      split at hj
      · cases hj
        rw [← hV]
        exact h.2.2 (i, V) List.mem_cons_self
      · cases hj
    · rw [if_neg e] at hj
      obtain ⟨h1, h2⟩ := killP_at hj ht
      refine h.2.2 (j, conc g (t, v)) (List.mem_cons_of_mem _ (List.mem_filter.mpr ⟨(asc_mem g ls 0 j _).mpr ⟨j, (t, v), by omega, h1, ht, rfl⟩, ?_⟩))
      simp only [Bool.and_eq_true, Bool.not_eq_true', beq_eq_false_iff_ne, Bool.and_eq_false_iff]
      refine ⟨fun q => e q.symm, fun q => e1 q.symm, ?_⟩
      by_cases e2 : t = 2
      · exact Or.inl (fun q => h2 ⟨q, e2⟩)
      · right
        rw [conc_cat (x := (t, v)) e2]
        decide
theorem vld_set {g : GT} {ls : List AV} {i : Nat} {x : AV} (h : ∀ y ∈ ls, vld g y) (hx : vld g x) : ∀ y ∈ ls.set i x, vld g y := by
  intro y hy
  rcases List.mem_or_eq_of_mem_set hy with h1 | h1
  · exact h y h1
  · rw [h1]; exact hx
theorem vld_kill {g : GT} {ls : List AV} {i : Nat} (h : ∀ y ∈ ls, vld g y) : ∀ y ∈ killP ls i, vld g y := by
  unfold killP
  split
  · exact h
  · split
    · exact vld_set h trivial
    · exact h
theorem vld_stI {g : GT} {ls : List AV} {i : Nat} {x : AV} (h : ∀ y ∈ ls, vld g y) (hx : vld g x) : ∀ y ∈ stI ls i x, vld g y := vld_set (vld_kill h) hx
theorem vld_stJ {g : GT} {ls : List AV} {i : Nat} {x : AV} (h : ∀ y ∈ ls, vld g y) (hx : vld g x) : ∀ y ∈ stJ ls i x, vld g y := vld_set (vld_set (vld_kill h) hx) trivial
/-- the locals at a method's entry -/
def enL : List AV → List AV
  | [] => []
  | x :: r => if x.1 = 2 then x :: (9, 0) :: enL r else x :: enL r
def entL (args : List AV) (n : Nat) : List AV := enL args ++ List.replicate (n - (enL args).length) (9, 0)
theorem conc_cat2 {g : GT} {x : AV} : (conc g x).category = 2 ↔ x.1 = 2 := by
  constructor
  · intro h
    apply Classical.byContradiction
    intro hn
    rw [conc_cat hn] at h
    cases h
  · intro h
    obtain ⟨t, v⟩ := x
    cases h
    rfl
theorem enL_len (g : GT) : ∀ args : List AV, (lg_sl (args.map (conc g))).length = (enL args).length
  | [] => rfl
  | x :: r => by
    have ih := enL_len g r
    unfold lg_sl at ih ⊢
    unfold enL
    rw [List.map_cons, List.flatMap_cons, List.length_append, ih]
    by_cases h : x.1 = 2
    · rw [if_pos h, if_pos (conc_cat2.mpr h)]
      simp only [List.length_cons, List.length_nil]
      omega
    · rw [if_neg h, if_neg (fun q => h (conc_cat2.mp q))]
      simp only [List.length_cons, List.length_nil]
      omega
theorem enL_at (g : GT) : ∀ (args : List AV) (k j : Nat) (x : AV), (enL args)[j]? = some x → x.1 ≠ 9 → (k + j, conc g x) ∈ lv_args k (args.map (conc g))
  | [], k, j, x, h, _ => by simp [enL] at h
  | y :: r, k, j, x, h, hx => by
    unfold enL at h
    rw [List.map_cons]
    unfold lv_args
    by_cases hy : y.1 = 2
    · rw [if_pos hy] at h
      rw [if_pos (conc_cat2.mpr hy)]
      match j, h with
      | 0, h =>
        simp only [List.getElem?_cons_zero, Option.some.injEq] at h
        subst h
        exact List.mem_cons_self
      | 1, h =>
        simp only [List.getElem?_cons_succ, List.getElem?_cons_zero, Option.some.injEq] at h
        subst h
        exact absurd rfl hx
      | j + 2, h =>
        simp only [List.getElem?_cons_succ] at h
        have := enL_at g r (k + 2) j x h hx
        rw [show k + (j + 2) = k + 2 + j by omega]
        exact List.mem_cons_of_mem _ this
    · rw [if_neg hy] at h
      rw [if_neg (fun q => hy (conc_cat2.mp q))]
      match j, h with
      | 0, h =>
        simp only [List.getElem?_cons_zero, Option.some.injEq] at h
        subst h
        exact List.mem_cons_self
      | j + 1, h =>
        simp only [List.getElem?_cons_succ] at h
        have := enL_at g r (k + 1) j x h hx
        rw [show k + (j + 1) = k + 1 + j by omega]
        exact List.mem_cons_of_mem _ this
theorem enL_vld {g : GT} : ∀ {args : List AV}, (∀ x ∈ args, vld g x) → ∀ x ∈ enL args, vld g x
  | [], _, x, h => by simp [enL] at h
  | y :: r, hv, x, h => by
    have ih := enL_vld (g := g) (args := r) (fun x hx => hv x (List.mem_cons_of_mem _ hx))
    unfold enL at h
    by_cases hy : y.1 = 2
    · rw [if_pos hy] at h
      rcases List.mem_cons.mp h with h | h
      · rw [h]; exact hv y List.mem_cons_self
      · rcases List.mem_cons.mp h with h | h
        · rw [h]; trivial
        · exact ih x h
    · rw [if_neg hy] at h
      rcases List.mem_cons.mp h with h | h
      · rw [h]; exact hv y List.mem_cons_self
      · exact ih x h
/-- a contract out of a walk from the entry -/
theorem Mw.of {g : GT} {d : Nat} {M : MI} {args ls : List AV} {σ : Sg} {Q : Int → Sg → Prop} (hy : plainFor M.1 = true) (hn : (enL args).length ≤ M.2.2.1) (hl : entL args M.2.2.1 = ls)
    (h : (∀ x ∈ args, vld g x) → Wp g d M Q 0 ls [] σ) : Mw g d M args σ Q := by
  intro hC hv
  refine va_MetF (cc := M.2.1) (maxL := M.2.2.1) (ret := M.2.2.2) hy rfl ?_
  intro p e s m a below meth c s₁ B hml hP
  obtain ⟨rfl, hR, hK, hX⟩ := hP
  have hts := atoms_spec (ws := wsM M) B.pre
  have hcx : Cx g M p s m (args.map (conc g)).toArray meth c := ⟨B.exec, B.bytes, hml, findClass_of_methodNamed B.named, fun w hw => hts w (List.mem_cons_of_mem _ hw), B.returns, B.notSynchronized, hK, hX, hC⟩
  have hlv := lv_entry (args.map (conc g)) (n := M.2.2.1) (by rw [enL_len]; exact hn)
  rw [lg_entry_eq]
  have hL : LH g ((lg_sl (args.map (conc g)) ++ List.replicate (M.2.2.1 - (lg_sl (args.map (conc g))).length) Slot.unset).toArray) M.2.2.1 ls := by
    refine ⟨hlv.1, hlv.2.1, fun i t v hi ht => ?_⟩
    rw [← hl] at hi
    unfold entL at hi
    by_cases hlt : i < (enL args).length
    · rw [List.getElem?_append_left hlt] at hi
      have := enL_at g args 0 i (t, v) hi ht
      rw [Nat.zero_add] at this
      exact hlv.2.2 _ this
    · rw [List.getElem?_append_right (by omega)] at hi
      have := List.mem_of_getElem? hi
      rw [List.mem_replicate] at this
      exact absurd (congrArg Prod.fst this.2) ht
  have hvl : ∀ x ∈ ls, vld g x := by
    intro x hx
    rw [← hl] at hx
    rcases List.mem_append.mp hx with h1 | h1
    · exact enL_vld hv x h1
    · rw [(List.mem_replicate.mp h1).2]; trivial
  exact h hv p e s m _ below meth c s.heap [] _ hcx va_S.rf hR hL hvl (fun x hx => by cases hx)
