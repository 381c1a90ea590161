/-! rows that make objects -/
section MAKE
variable {p : Program} {l : Launch} {e : Env} {R : Room} {s : State} {m : MethodId} {args : Array Value} {below : List Frame} {meth : Method} {c : Code} {H : Heap} {locs : List Loc} {cells slots : Nat} {Q : State → Prop}
variable {cc : ByteArray} {pc : Nat} {ls : Array Slot} {rest : List Value} {A : Nat → Prop} {H0 : Heap} {g : GT} {N : Nat} {Z : Zt} {own : String}
theorem adr_n : adr g ((N : Int) + 1) = gz g + N := by unfold adr; omega
theorem k_newa {atype : ArrayType} {ty : FieldType} {t i n : Nat} {x : Int32} (hexec : p.tables.exec = Jvm.exec) (hb : c.code = cc) (hts : ∀ w ∈ lwG, w.before args s = true) (hK : Kx g s) (hB : Br g N Z H) (hS : va_S A H0 H locs)
    (hw : Cond.arrayClass ty ∈ lwG) (hty : newarray.typeOf atype = ty) (hi : (gty g)[i]? = some (gA g (aE t), ty)) (hp : ∀ C, ty ≠ .object C) (ht : tg ((N : Int) + 1) = t) (t30 : 30 ≤ t) (hn : aN t = n) (hx : ¬ x < 0) (hxn : x.toNatClampNeg = n) (hby : n * componentBytes ty ≤ 536870912) (hc : cells + 1 ≤ R.cells) (hs : slots + n ≤ R.slots)
    (hd : decode cc pc = .ok (.newarray atype, 2))
    (kk : ∀ H1 : Heap, Br g (N + 1) (zSe Z ((N : Int) + 1) (fun _ => defaultValue ty)) H1 → va_S A H0 H1 locs → W p l e R s m args below meth c H1 locs (cells + 1) (slots + n) Q (F0 m (pc + 2) ls (.ref (adr g ((N : Int) + 1)) :: rest))) :
    W p l e R s m args below meth c H locs cells slots Q (F0 m pc ls (.int x :: rest)) := by
  subst hty
  refine va_newaK hexec hb (hts _ hw) rfl hd rfl hx hxn hby hc hs rfl fun H1 cA e1 z1 o1 hAr hNm => ?_
  have sz := hB.1
  have hra := (hK.2 i _ hi).2
  have ec : gA g (aE t) = cA := by
    have : s.vm.findClass ("[" ++ (newarray.typeOf atype).toString) = some (gA g (aE t)) := by
      cases atype <;> exact hra
    exact Option.some.inj (this.symm.trans hNm)
  have hb1 : Br g (N + 1) (zSe Z ((N : Int) + 1) (fun _ => defaultValue (newarray.typeOf atype))) H1 := by
    refine hB.push (by rw [z1, sz]) (fun q hq => o1 q (by rw [sz]; exact hq)) ⟨fun u => absurd u (by rw [ht]; omega), fun _ => ?_⟩
    rw [zSe_eq, adr_n, ht, ec, hn, ← sz]
    exact e1
  have := kk H1 hb1 ⟨Nat.le_trans hS.1 (by omega), fun q h1 h2 => (o1 q (Nat.lt_of_lt_of_le h1 hS.1)).trans (hS.2.1 q h1 h2), hS.2.2⟩
  rw [adr_n, ← sz] at this
  exact this
theorem k_new {ci index : Nat} (hci : ci < 12) (hexec : p.tables.exec = Jvm.exec) (hb : c.code = cc) (hts : ∀ w ∈ lwG, w.before args s = true) (hown : s.vm.findClass own = some m.cls) (hK : Kx g s) (hB : Br g N Z H) (hS : va_S A H0 H locs)
    (ht : tg ((N : Int) + 1) = 10 + ci) (hw : Cond.classLink own index (cNm ci) ∈ lwG ∧ Cond.instantiable (cNm ci) (nF ci) ∈ lwG ∧ Cond.initialized (cNm ci) ∈ lwG) (hc : cells + 1 ≤ R.cells) (hs : slots + nF ci ≤ R.slots)
    (hd : decode cc pc = .ok (.new index, 3))
    (kk : ∀ H1 : Heap, Br g (N + 1) (zSe Z ((N : Int) + 1) (fun k => defaultValue (cTy ci k))) H1 → va_S A H0 H1 locs → W p l e R s m args below meth c H1 locs (cells + 1) (slots + nF ci) Q (F0 m (pc + 3) ls (.ref (adr g ((N : Int) + 1)) :: rest))) :
    W p l e R s m args below meth c H locs cells slots Q (F0 m pc ls rest) := by
  have hKn := hK.1 ci _ (cl_at hci)
  have sz := hB.1
  refine W.newcK hexec hb hown (hts _ hw.1) (hts _ hw.2.1) (hts _ hw.2.2) rfl hd hc hs hKn.2.1 rfl fun H1 kC hkC e1 z1 o1 => ?_
  have hb1 : Br g (N + 1) (zSe Z ((N : Int) + 1) (fun k => defaultValue (cTy ci k))) H1 := by
    refine hB.push (by rw [z1, sz]) (fun q hq => o1 q (by rw [sz]; exact hq)) ⟨fun _ => ?_, fun u => absurd u (by rw [ht]; omega)⟩
    rw [zSe_eq, adr_n, ht, show 10 + ci - 10 = ci by omega, ← sz]
    exact u_born (cTy ci) hts (cl_in hci) hKn hkC e1 (cl_ty hci)
  have := kk H1 hb1 ⟨Nat.le_trans hS.1 (by omega), fun q h1 h2 => (o1 q (Nat.lt_of_lt_of_le h1 hS.1)).trans (hS.2.1 q h1 h2), hS.2.2⟩
  rw [adr_n, ← sz] at this
  exact this
end MAKE
