/-! the world at the law's entry, put together -/
def bk141 : List Int := (List.range 141).map fun i : Nat => (1 : Int) + i
theorem bk141_iff {o : Int} : o ∈ bk141 ↔ 1 ≤ o ∧ o ≤ 141 := by
  unfold bk141
  rw [List.mem_map]
  constructor
  · rintro ⟨i, hi, rfl⟩
    have := List.mem_range.mp hi
    omega
  · intro h
    exact ⟨(o - 1).toNat, List.mem_range.mpr (by omega), by omega⟩
theorem zNot {args : Array Value} {s : State} {t u : Term} {a b : Nat} (ht : t.eval args s none [] s = some (.ref a)) (hu : u.eval args s none [] s = some (.ref b)) (h : a ≠ b) : (Cond.not (.eq t u)).before args s = true := by
  simp [Cond.before, Cond.holds, Cond.value, ht, hu, h]
theorem zAr {args : Array Value} {s : State} {ty : FieldType} (h : (Cond.arrayClass ty).before args s = true) : ∃ c, ArrOfT s c ty ∧ s.vm.findClass ("[" ++ ty.toString) = some c := by
  obtain ⟨c, k, comp, h1, h2, h3⟩ := Cond.arrayClass_spec h
  exact ⟨c, fun n z => ⟨fun k h => (by cases h), k, h2, comp, h3⟩, h1⟩
theorem zEnum {args : Array Value} {s : State} (hts : ∀ w ∈ lw_tbl, w.before args s = true) (hs : ∀ w ∈ zFl, w.before args s = true) : ∃ ad : Nat → Nat, va_En RX10 "LStoneRaised$Word;" enN enT ad (fun q => s.heap.size ≤ q) s s.heap ∧ ∀ i, i < 32 → (Term.static RX10 (enN.getD i "") "LStoneRaised$Word;").eval args s none [] s = some (.ref (ad i)) := by
  have hf : ∀ q ∈ enT, ∀ i, i < 32 → (Cond.eq (.field (.static RX10 (enN.getD i "") "LStoneRaised$Word;") q.1 q.2.1 q.2.2.1) (.int (q.2.2.2.getD i 0))).before args s = true := by
    intro q hq i hi
    have h3 : q = enT.getD 0 ("", "", "", []) ∨ q = enT.getD 1 ("", "", "", []) ∨ q = enT.getD 2 ("", "", "", []) := by
      unfold enT at hq
      simp only [List.mem_cons, List.not_mem_nil, or_false] at hq
      exact hq
    rcases h3 with rfl | rfl | rfl
    · exact hs _ (zf_o i hi)
    · exact hs _ (zf_c i hi)
    · exact hs _ (zf_f i hi)
  refine va_Enof2 (A := fun q => s.heap.size ≤ q) (E := RX10) (d := "LStoneRaised$Word;") (nm := enN) (F := enT) (fun i hi => hts _ (zt_ls i hi)) (hts _ zt_i10) (fun i hi => hs _ (zf_ex i hi)) (fun q hq i hi => hf q hq i hi) (fun i j hi hj hij => Or.inl ?_) (fun a h => Nat.not_le.mpr h)
  obtain ⟨a, -, -, -, q1, -⟩ := Cond.exactly_spec (hs _ (zf_ex i hi))
  obtain ⟨b, -, -, -, q2, -⟩ := Cond.exactly_spec (hs _ (zf_ex j hj))
  refine zNot q1 q2 (fun e => hij ?_)
  subst e
  have o1 := va_eqt (hs _ (zf_o i hi))
  have o2 := va_eqt (hs _ (zf_o j hj))
  rw [va_fe q1] at o1
  rw [va_fe q2, o1] at o2
  have o3 : (enT.getD 0 ("", "", "", [])).2.2.2.getD i 0 = (enT.getD 0 ("", "", "", [])).2.2.2.getD j 0 := Value.int.inj (Option.some.inj o2)
  rw [← enT_o i hi, ← enT_o j hj] at o3
  have := (i3_inj (a := (i : Int)) (b := (j : Int)) (by have : i < 32 := hi; unfold inR; omega) (by have : j < 32 := hj; unfold inR; omega)).mp o3
  omega
theorem zCls {args : Array Value} {s : State} (hts : ∀ w ∈ lw_tbl, w.before args s = true) : ∃ G : va_G, ∀ (c : Nat) (q : vw_C), vwCl[c]? = some q → u_Kn s q.1 q.2.1 q.2.2 (G.1 c) (G.2 c) := by
  have hin : ∀ w ∈ lwG, w.before args s = true := fun w hw => hts w (List.mem_filter.mp hw).1
  have cls : ∀ ci, ∃ (cC : ClassId) (iS : Nat → Nat), ci < 12 → u_Kn s (cNm ci) (cT ci) (nF ci) cC iS := by
    intro ci
    by_cases h : ci < 12
    · obtain ⟨cC, iS, k⟩ := u_known hin (cl_in h) (hin _ (zt_in ci h))
      exact ⟨cC, iS, fun _ => k⟩
    · obtain ⟨cC, iS, k⟩ := u_known hin (cl_in (show 0 < 12 by decide)) (hin _ (zt_in 0 (by decide)))
      exact ⟨cC, iS, fun q => absurd q h⟩
  refine ⟨(fun ci => Classical.choose (cls ci), fun ci => Classical.choose (Classical.choose_spec (cls ci))), fun c q hq => ?_⟩
  have hc : c < 12 := (List.getElem?_eq_some_iff.mp hq).1
  cases (cl_at hc).symm.trans hq
  exact Classical.choose_spec (Classical.choose_spec (cls c)) hc
theorem zWorld {args : Array Value} {s : State} (l : Launch) (hts : ∀ w ∈ lw_tbl, w.before args s = true) (hgv : (Jvm.Cond.and given_1 narrow_1).before args s = true) : ∃ g : GT, gl g = l ∧ gz g = s.heap.size ∧ gr g = zLs bk141 ∧ Kx g s ∧ Sx g s s.heap ∧ zWx s := by
  have hs : ∀ w ∈ zFl, w.before args s = true := flat_of_before _ hgv
  have hA0 : ∀ a : Nat, a < s.heap.size → ¬ (fun q => s.heap.size ≤ q) a := fun a h => Nat.not_le.mpr h
  obtain ⟨G, hG⟩ := zCls hts
  obtain ⟨ad, hEn, hev⟩ := zEnum hts hs
  obtain ⟨cI, aI1, aI2⟩ := zAr (hts _ zt_aint)
  obtain ⟨cZ, aZ1, aZ2⟩ := zAr (hts _ zt_aboolean)
  obtain ⟨cJ, aJ1, aJ2⟩ := zAr (hts _ zt_along)
  obtain ⟨cB, aB1, aB2⟩ := zAr (hts _ zt_abyte)
  obtain ⟨comp, cA, kA, hc, hi, hk, hkind, hn⟩ := arrayOverA_spec (hts _ zt_ao)
  have aA1 : ArrOfT s cA (.array .int) := fun n z => ⟨fun k h => (by cases h), kA, hk, comp, hkind⟩
  obtain ⟨gw, wv, hT⟩ := va_Tof (args := args) (s := s) (tm := .static RX12 "WORDS" "[LStoneRaised$Word;") (ty := .object RX10) (N := 32) (f := fun i => .ref (ad i)) (A := fun q => s.heap.size ≤ q) (by decide) (hs _ zf_wa) (va_eqt (hs _ zf_wl)) (fun j hj => va_eqv (hs _ (zf_we j hj)) (hev j hj)) hA0
  obtain ⟨gs, mv, hM⟩ := va_Tof (args := args) (s := s) (tm := .static RX0 "$SwitchMap$StoneRaised$Word" "[I") (ty := .int) (N := 32) (f := fun j => .int (i3 (enS.getD j 0))) (A := fun q => s.heap.size ≤ q) (by decide) (hs _ zf_ma) (va_eqt (hs _ zf_ml)) (fun j hj => va_eqt (hs _ (zf_me j hj))) hA0
  have zW : va_Z RX12 "WORDS" "[LStoneRaised$Word;" (.ref gw) (fun q => s.heap.size ≤ q) s s.heap := va_Zref (hts _ zt_lw) (hts _ zt_i12) wv hA0
  have zM : va_Z RX0 "$SwitchMap$StoneRaised$Word" "[I" (.ref gs) (fun q => s.heap.size ≤ q) s s.heap := va_Zref (hts _ zt_lm) (hts _ zt_i0) mv hA0
  let gA9 : Nat → ClassId := fun e => match e with
    | 0 => cI
    | 1 => cZ
    | 2 => cJ
    | 6 => cB
    | _ => cA
  let g9 : GT := (l, G, gA9, s.heap.size, ad, gw, gs, zLs bk141)
  have ha : ∀ q, gAd g9 q → s.heap.size ≤ q := fun q ⟨o, _, e⟩ => by rw [e]; exact Nat.le_add_right _ _
  refine ⟨g9, rfl, rfl, rfl, ⟨hG, fun k q hq => ?_⟩, ⟨hEn.narrow ha, zW.narrow ha, hT.narrow ha, zM.narrow ha, ?_, va_Nw.of rfl (hts _ zt_nw)⟩, over_moved (Vm.Alike.refl s.vm) (hts _ zt_ao), fun q hq => va_Nw.of rfl (hts _ (zt_ns q hq))⟩
  · have hq2 : [(cI, FieldType.int), (cZ, FieldType.boolean), (cJ, FieldType.long), (cB, FieldType.byte), (cA, FieldType.array .int)][k]? = some q := hq
    clear hq
    rcases k with _ | _ | _ | _ | _ | k
    · cases hq2; exact ⟨aI1, aI2⟩
    · cases hq2; exact ⟨aZ1, aZ2⟩
    · cases hq2; exact ⟨aJ1, aJ2⟩
    · cases hq2; exact ⟨aB1, aB2⟩
    · cases hq2; exact ⟨aA1, hn⟩
    · simp at hq2
  · obtain ⟨cell, t1, t2, t3, t4, t5, t6, t7⟩ := hM
    exact ⟨cell, t1, t2, t3, t6, fun q => t7 (ha _ q)⟩
