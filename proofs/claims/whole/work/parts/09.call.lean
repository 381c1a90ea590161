/-! rows of the abstract machine: calls -/
theorem Mw.imp {g : GT} {d : Nat} {M : MI} {args : List AV} {σ : Sg} {Q Q2 : Int → Sg → Prop} (h : Mw g d M args σ Q) (hq : ∀ r σ2, Q r σ2 → Q2 r σ2) : Mw g d M args σ Q2 := by
  intro hC hv
  refine MetFree.mono (h hC hv) (fun _ _ q => q) (fun _ _ _ _ _ q => q) (fun a st o t _ q => ?_)
  obtain ⟨⟨⟨r, σ2, h1, h2, h3, h4⟩, h5⟩, h6⟩ := q
  exact ⟨⟨⟨r, σ2, h1, h2, hq r σ2 h3, h4⟩, h5⟩, h6⟩
def rS (ret : Option FieldType) (r : Int) : List AV := match ret with
  | none => []
  | some .long => [(2, r)]
  | some _ => [(0, r)]
theorem rS_c (g : GT) (ret : Option FieldType) (r : Int) : (rS ret r).map (conc g) = (rV ret r).toList := by
  cases ret with
  | none => rfl
  | some ty => cases ty <;> rfl
theorem rS_v {g : GT} {ret : Option FieldType} {r : Int} (h : vld g (rT ret, r)) : ∀ x ∈ rS ret r, vld g x := by
  cases ret with
  | none => intro x hx; cases hx
  | some ty =>
    intro x hx
    cases ty <;> (rw [List.mem_singleton.mp hx]; exact h)
def catS (st : List AV) : Nat := (st.map (fun x => if x.1 = 2 then 2 else 1)).sum
theorem catS_c (g : GT) (st : List AV) : ((st.map (conc g)).map fun v => v.category).sum = catS st := by
  unfold catS
  rw [List.map_map]
  congr 1
  apply List.map_congr_left
  intro x _
  show (conc g x).category = _
  by_cases h : x.1 = 2
  · rw [if_pos h]; exact conc_cat2.mpr h
  · rw [if_neg h]; exact conc_cat h
theorem Pz_blind (g : GT) (args : List AV) (σ : Sg) : FrameBlind (Pz g args σ) := by
  intro a U f mk q
  obtain ⟨q1, q2, q3, q4⟩ := q
  exact ⟨q1, q2, va_K.moved (u := U) (U := U.calling f mk a) (Vm.Alike.refl U.vm) q3, Sx.moved (u := U) (U := U.calling f mk a) (Vm.Alike.refl U.vm) (va_Nw.same (U := U.calling f mk a) rfl rfl) q4⟩
theorem Pz_at {g : GT} {args : List AV} {σ : Sg} {s U : State} {H : Heap} {locs : List Loc} (hK : Kx g s) (hX : Sx g s s.heap) (S : va_S (gAd g) s.heap H locs) (R : Rp g σ H) (hU : U.heap = H) (hW : s.WarmedH U.vm) : Pz g args σ (args.map (conc g)).toArray U :=
  ⟨rfl, by rw [hU]; exact R, va_K.moved hW.alike hK, by rw [hU]; exact Sx.moved hW.alike (va_Nw.warmF hW) (hX.kept S.2.1)⟩
theorem good_app {a : List Cond} {M : MI} (ha : ∀ w ∈ a, w ∈ lwG) (hM : Cond.code M.1 M.2.1 M.2.2.1 M.2.2.2 ∈ lwG) : GoodIn lwG (a ++ wsM M) := by
  intro w hw
  apply lwG_in
  rcases List.mem_append.mp hw with h | h
  · exact ha w h
  · rcases List.mem_cons.mp h with h | h
    · rw [h]; exact hM
    · exact h
theorem va_S.call {g : GT} {s st0 t T2 : State} {H : Heap} {locs L : List Loc} (S : va_S (gAd g) s.heap H locs) (h0 : st0.heap = H) (e1 : T2.heap = t.heap) (hF : va_F (gAd g) st0 t) (hL : ∀ q ∈ L, gAd g q.base) : va_S (gAd g) s.heap T2.heap (locs ++ L) := by
  obtain ⟨hz, hk⟩ := hF
  rw [h0] at hz hk
  refine ⟨Nat.le_trans S.1 (by rw [e1]; exact hz), fun q h1 h2 => ?_, fun q hq => ?_⟩
  · rw [e1, hk q (Nat.lt_of_lt_of_le h1 S.1) h2]
    exact S.2.1 q h1 h2
  · rcases List.mem_append.mp hq with h | h
    · exact S.2.2 q h
    · exact hL q h
/-- what a call needs of the tables -/
def okV (own : String) (idx : Nat) (C : String) (M2 : MI) (n : Nat) : Prop :=
  (Cond.methodLink own idx M2.1 ∈ lwG ∧ Cond.instanceMethod M2.1 ∈ lwG ∧ Cond.selects C M2.1 M2.1 ∈ lwG ∧ Cond.initialized C ∈ lwG ∧ Cond.code M2.1 M2.2.1 M2.2.2.1 M2.2.2.2 ∈ lwG) ∧
  (M2.1.cls = C ∧ M2.1.cls ≠ "java/lang/invoke/MethodHandle" ∧ M2.1.cls ≠ "java/lang/invoke/VarHandle" ∧ (parseMethodDescriptor M2.1.desc).map (fun d => d.parameters.length) = some n) ∧ M2.2.2.1 ≤ 21
def okS (own : String) (idx : Nat) (M2 : MI) (n : Nat) : Prop :=
  (Cond.methodLink own idx M2.1 ∈ lwG ∧ Cond.static M2.1 ∈ lwG ∧ Cond.initialized M2.1.cls ∈ lwG ∧ Cond.code M2.1 M2.2.1 M2.2.2.1 M2.2.2.2 ∈ lwG) ∧
  (M2.1.cls ≠ "java/lang/invoke/MethodHandle" ∧ M2.1.cls ≠ "java/lang/invoke/VarHandle" ∧ (parseMethodDescriptor M2.1.desc).map (fun d => d.parameters.length) = some n) ∧ M2.2.2.1 ≤ 21
section CALL
variable {g : GT} {d : Nat} {M : MI} {Q : Int → Sg → Prop} {pc : Nat} {ls st : List AV} {σ : Sg}
theorem r_callV {M2 : MI} {ci idx n : Nat} {o : Int} {As stk : List AV} {K : Int → Sg → Prop} (hci : ci < 12) (hw : okV M.1.cls idx (cNm ci) M2 n) (hn : As.length = n) (hs : As.reverse ++ (10 + ci, o) :: st = stk) (hc : catS st ≤ 8)
    (hd : decode M.2.1 pc = .ok (.invokevirtual idx, 3)) (hM : Mw g d M2 ((10 + ci, o) :: As) σ K)
    (kk : ∀ (r : Int) (σ2 : Sg), vld g (rT M2.2.2.2, r) → K r σ2 → Wp g (d + 1) M Q (pc + 3) ls (rS M2.2.2.2 r ++ st) σ2) : Wp g (d + 1) M Q pc ls stk σ := by
  subst hs
  intro p e s m args below meth c H locs lsA C S R L vl vs
  obtain ⟨c1, c2, c3, c4, c5, c6, c7, c8, c9, c10⟩ := id C
  obtain ⟨⟨w1, w2, w3, w4, w5⟩, w6, w7⟩ := hw
  have va : ∀ x ∈ (10 + ci, o) :: As, vld g x := fun x hx => vs x (by
    rcases List.mem_cons.mp hx with h | h
    · rw [h]; exact List.mem_append_right _ List.mem_cons_self
    · exact List.mem_append_left _ (List.mem_reverse.mpr h))
  have vt : ∀ x ∈ st, vld g x := fun x hx => vs x (List.mem_append_right _ (List.mem_cons_of_mem _ hx))
  have vo : gr g o ∧ tg o = 10 + ci := vld_o (by omega) (va _ List.mem_cons_self)
  have hMet := hM c10 va
  have hG : GoodIn lwG (wsV M.1.cls idx (cNm ci) M2.1 (wsM M2)) := good_app (fun w hw => by
    simp only [List.mem_cons, List.not_mem_nil, or_false] at hw
    rcases hw with rfl | rfl | rfl | rfl
    · exact w1
    · exact w2
    · exact w3
    · exact w4) w5
  have hcw : CallW (rmD (d + 1)) s args M.1.cls (cNm ci) idx M2.1 M2.2.1 M2.2.2.1 M2.2.2.2 (wsM M2) (rmD d) 0 0 n :=
    cwV n c5 hG rfl rfl rfl w6 ⟨Nat.le_refl _, by show 8 + (M2.2.2.1 + 11) + 40 * d ≤ 40 * (d + 1); omega⟩
  obtain ⟨cell, q1, q2, q3, q4⟩ := cel_ob hci R vo
  obtain ⟨hS, hfc, kC, hkC, hkind⟩ := c8.1 ci _ (cl_at hci)
  have hrun := va_runV (p := p) (l := gl g) (e := e) (R := rmD (d + 1)) (below := below) (meth := meth) (locs := locs) (cells := 0) (slots := 0) (b := adr g o) (As := As.map (conc g)) (rest := st.map (conc g)) (g := F0 m pc lsA ((As.reverse ++ (10 + ci, o) :: st).map (conc g))) (H := H)
    ⟨c1, c2, c3, c4, c5⟩ hMet hcw
    ⟨Pz_blind _ _ _, ⟨cell, q1, by rw [q3]; rfl, by rw [q2]; exact hfc⟩, fun U hU hW => by
      have := Pz_at (args := (10 + ci, o) :: As) c8 c9 S R hU hW
      rw [List.map_cons, conc_o (by omega)] at this
      exact this⟩
    rfl (by rw [List.length_map]; exact hn) L.1 (by
      show (As.reverse ++ (10 + ci, o) :: st).map (conc g) = _
      rw [List.map_append, List.map_cons, List.map_reverse, conc_o (t := 10 + ci) (by omega)])
    (by rw [catS_c]; show 2 * 0 + _ ≤ 8; omega) hd ⟨Nat.le_refl _, Nat.le_refl _⟩
  intro T hT X
  obtain ⟨v, st0, t, T2, L2, h0, X2, hL, e1, e2, ⟨⟨r, σ2, hv, hvr, hK, hRp⟩, hF⟩, stp⟩ := hrun T hT X
  cases hv
  obtain ⟨t2, a1, b1⟩ := kk r σ2 hvr hK p e s m args below meth c T2.heap (locs ++ L2) lsA C (S.call h0 e1 hF hL) (by rw [e1]; exact hRp) L vl (fun x hx => (List.mem_append.mp hx).elim (rS_v hvr x) (vt x)) T2 rfl X2
  refine ⟨t2, stp t2 ?_, b1⟩
  rw [List.map_append, rS_c] at a1
  exact a1
theorem r_callS {M2 : MI} {idx n : Nat} {As stk : List AV} {K : Int → Sg → Prop} (hw : okS M.1.cls idx M2 n) (hn : As.length = n) (hs : As.reverse ++ st = stk) (hc : catS st ≤ 8)
    (hd : decode M.2.1 pc = .ok (.invokestatic idx, 3)) (hM : Mw g d M2 As σ K)
    (kk : ∀ (r : Int) (σ2 : Sg), vld g (rT M2.2.2.2, r) → K r σ2 → Wp g (d + 1) M Q (pc + 3) ls (rS M2.2.2.2 r ++ st) σ2) : Wp g (d + 1) M Q pc ls stk σ := by
  subst hs
  intro p e s m args below meth c H locs lsA C S R L vl vs
  obtain ⟨c1, c2, c3, c4, c5, c6, c7, c8, c9, c10⟩ := id C
  obtain ⟨⟨w1, w2, w3, w4⟩, w6, w7⟩ := hw
  have va : ∀ x ∈ As, vld g x := fun x hx => vs x (List.mem_append_left _ (List.mem_reverse.mpr hx))
  have vt : ∀ x ∈ st, vld g x := fun x hx => vs x (List.mem_append_right _ hx)
  have hMet := hM c10 va
  have hG : GoodIn lwG (va_wsS M.1.cls idx M2.1 (wsM M2)) := good_app (fun w hw => by
    simp only [List.mem_cons, List.not_mem_nil, or_false] at hw
    rcases hw with rfl | rfl | rfl
    · exact w1
    · exact w2
    · exact w3) w4
  have hcw : CallB (rmD (d + 1)) s args M.1.cls idx M2.1 M2.2.1 M2.2.2.1 M2.2.2.2 (wsM M2) (rmD d) 0 0 n ∧ (Cond.static M2.1).before args s = true :=
    va_cwS n c5 hG rfl rfl rfl w6 ⟨Nat.le_refl _, by show 8 + (M2.2.2.1 + 11) + 40 * d ≤ 40 * (d + 1); omega⟩
  have hrun := va_runS (p := p) (l := gl g) (e := e) (R := rmD (d + 1)) (below := below) (meth := meth) (locs := locs) (cells := 0) (slots := 0) (As := As.map (conc g)) (rest := st.map (conc g)) (g := F0 m pc lsA ((As.reverse ++ st).map (conc g))) (H := H)
    ⟨c1, c2, c3, c4, c5⟩ hMet hcw
    ⟨Pz_blind _ _ _, fun U hU hW => Pz_at (args := As) c8 c9 S R hU hW⟩
    rfl (by rw [List.length_map]; exact hn) L.1 (by
      show (As.reverse ++ st).map (conc g) = _
      rw [List.map_append, List.map_reverse])
    (by rw [catS_c]; show 2 * 0 + _ ≤ 8; omega) hd ⟨Nat.le_refl _, Nat.le_refl _⟩
  intro T hT X
  obtain ⟨v, st0, t, T2, L2, h0, X2, hL, e1, e2, ⟨⟨r, σ2, hv, hvr, hK, hRp⟩, hF⟩, stp⟩ := hrun T hT X
  cases hv
  obtain ⟨t2, a1, b1⟩ := kk r σ2 hvr hK p e s m args below meth c T2.heap (locs ++ L2) lsA C (S.call h0 e1 hF hL) (by rw [e1]; exact hRp) L vl (fun x hx => (List.mem_append.mp hx).elim (rS_v hvr x) (vt x)) T2 rfl X2
  refine ⟨t2, stp t2 ?_, b1⟩
  rw [List.map_append, rS_c] at a1
  exact a1
end CALL
