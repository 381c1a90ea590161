/-! fields of objects in the making -/
section MFLD
variable {p : Program} {l : Launch} {e : Env} {R : Room} {s : State} {m : MethodId} {args : Array Value} {below : List Frame} {meth : Method} {c : Code} {H : Heap} {locs : List Loc} {cells slots : Nat} {Q : State → Prop}
variable {cc : ByteArray} {pc : Nat} {ls : Array Slot} {rest : List Value} {A : Nat → Prop} {H0 : Heap} {g : GT} {N : Nat} {Z : Zt} {own : String}
theorem Br.ob {ci : Nat} {o : Int} (hB : Br g N Z H) (hci : ci < 12) (ho : 1 ≤ o ∧ o ≤ N) (ht : tg o = 10 + ci) : t_OB (adr g o) ((gD g).1 ci) (nF ci) ((gD g).2 ci) H (Z o) := by
  have := (hB.2 o ho.1 ho.2).1 (by rw [ht]; omega)
  rw [ht, show 10 + ci - 10 = ci by omega] at this
  exact this
theorem k_putF {ci k index : Nat} {o : Int} {v : Value} (hci : ci < 12) (hk : k < nF ci) (hexec : p.tables.exec = Jvm.exec) (hb : c.code = cc) (hts : ∀ w ∈ lwG, w.before args s = true) (hown : s.vm.findClass own = some m.cls) (hK : Kx g s) (hB : Br g N Z H) (hS : va_S A H0 H locs)
    (ho : 1 ≤ o ∧ o ≤ N) (ht : tg o = 10 + ci) (hA : A (adr g o)) (hw : Cond.fieldLink own index (cT ci k).1 (cT ci k).2.1 (cT ci k).2.2.1 ∈ lwG) (hfin : (cT ci k).2.2.2 = true) (hin2 : meth.name = "<init>") (hdecl : (cT ci k).1 = own) (hn : narrow (cTy ci k) v = v) (hf : fits (cTy ci k) v = true)
    (hd : decode cc pc = .ok (.putfield index, 3))
    (kk : ∀ (H1 : Heap) (locs1 : List Loc), Br g N (zSe Z o (updV (Z o) k v)) H1 → va_S A H0 H1 locs1 → W p l e R s m args below meth c H1 locs1 cells slots Q (F0 m (pc + 3) ls rest)) :
    W p l e R s m args below meth c H locs cells slots Q (F0 m pc ls (v :: .ref (adr g o) :: rest)) := by
  have hap := va_apart (own := own) hts (cl_in hci) (cTy ci) (cl_ty hci) (cl_nm hci) hK (cl_at hci)
  obtain ⟨cell, q1, q2, q3, q4⟩ := hB.ob hci ho ht
  obtain ⟨hSl, hfc, kC, hkC, hkind⟩ := hK.1 ci _ (cl_at hci)
  obtain ⟨cf, kf, fi, f, hi, hsl⟩ := hSl k hk
  have hlay := hts _ (cl_in hci _ (u_in_lay hk))
  unfold u_lay at hlay
  rw [if_pos hfin] at hlay
  have hst := (u_facts hfc hkC (u_lays hts (cl_in hci) hk) hi).1
  have hcf : m.cls = cf := by
    obtain ⟨_, _, c', _, _, _, -, -, hf', -, -, -, hown2, -⟩ := Cond.laysFinal_spec hlay
    have e1 : c' = cf := by have := hi.symm.trans hf'; simp at this; exact this.1.symm
    rw [hdecl] at hown2
    rw [← e1]; exact Option.some.inj (hown.symm.trans hown2)
  have h6 := u_fits hfc hkC hkind (Or.inr hlay) hi (cl_ty hci k hk) hn hf
  refine W.putFinK hexec hb hown (hts _ hw) hi hst hcf hin2 (by rw [q2]; exact h6) q1 q3 (by rw [hsl]; exact k2_hasslot (q4 k hk)) rfl rfl hd fun H1 e1 e2 e3 => ?_
  rw [hsl] at e1 ⊢
  refine kk H1 _ (hB.put ho.1 e2 e3 ⟨fun _ => ?_, fun u => absurd u (by rw [ht]; omega)⟩) (hS.put e2 e3 hA)
  rw [zSe_eq, ht, show 10 + ci - 10 = ci by omega]
  exact ⟨_, e1, q2, q3, t_set q4 hap hk v⟩
theorem k_put {ci k index : Nat} {o : Int} {v : Value} (hci : ci < 12) (hk : k < nF ci) (hexec : p.tables.exec = Jvm.exec) (hb : c.code = cc) (hts : ∀ w ∈ lwG, w.before args s = true) (hown : s.vm.findClass own = some m.cls) (hK : Kx g s) (hB : Br g N Z H) (hS : va_S A H0 H locs)
    (ho : 1 ≤ o ∧ o ≤ N) (ht : tg o = 10 + ci) (hA : A (adr g o)) (hw : Cond.fieldLink own index (cT ci k).1 (cT ci k).2.1 (cT ci k).2.2.1 ∈ lwG) (hfin : (cT ci k).2.2.2 = false) (hn : narrow (cTy ci k) v = v) (hf : fits (cTy ci k) v = true)
    (hd : decode cc pc = .ok (.putfield index, 3))
    (kk : ∀ (H1 : Heap) (locs1 : List Loc), Br g N (zSe Z o (updV (Z o) k v)) H1 → va_S A H0 H1 locs1 → W p l e R s m args below meth c H1 locs1 cells slots Q (F0 m (pc + 3) ls rest)) :
    W p l e R s m args below meth c H locs cells slots Q (F0 m pc ls (v :: .ref (adr g o) :: rest)) := by
  have hap := va_apart (own := own) hts (cl_in hci) (cTy ci) (cl_ty hci) (cl_nm hci) hK (cl_at hci)
  obtain ⟨cell, q1, q2, q3, q4⟩ := hB.ob hci ho ht
  obtain ⟨hSl, hfc, kC, hkC, hkind⟩ := hK.1 ci _ (cl_at hci)
  obtain ⟨cf, kf, fi, f, hi, hsl⟩ := hSl k hk
  have hlay := hts _ (cl_in hci _ (u_in_lay hk))
  unfold u_lay at hlay
  rw [if_neg (by rw [hfin]; decide)] at hlay
  have hst := (u_facts hfc hkC (u_lays hts (cl_in hci) hk) hi).1
  have h6 := u_store hfc hkC hkind hlay hi (cl_ty hci k hk) hn hf
  refine W.putK hexec hb (f := f) ⟨hown, hts _ hw, ⟨_, _, _, hi⟩, hst⟩ (by rw [q2]; exact h6) q1 q3 (by rw [hsl]; exact k2_hasslot (q4 k hk)) rfl rfl hd fun H1 e1 e2 e3 => ?_
  rw [hsl] at e1 ⊢
  refine kk H1 _ (hB.put ho.1 e2 e3 ⟨fun _ => ?_, fun u => absurd u (by rw [ht]; omega)⟩) (hS.put e2 e3 hA)
  rw [zSe_eq, ht, show 10 + ci - 10 = ci by omega]
  exact ⟨_, e1, q2, q3, t_set q4 hap hk v⟩
theorem k_get {ci k index : Nat} {o : Int} {v : Value} (hci : ci < 12) (hk : k < nF ci) (hexec : p.tables.exec = Jvm.exec) (hb : c.code = cc) (hts : ∀ w ∈ lwG, w.before args s = true) (hown : s.vm.findClass own = some m.cls) (hK : Kx g s) (hB : Br g N Z H)
    (ho : 1 ≤ o ∧ o ≤ N) (ht : tg o = 10 + ci) (hv : Z o k = v) (hw : Cond.fieldLink own index (cT ci k).1 (cT ci k).2.1 (cT ci k).2.2.1 ∈ lwG)
    (hd : decode cc pc = .ok (.getfield index, 3))
    (kk : W p l e R s m args below meth c H locs cells slots Q (F0 m (pc + 3) ls (v :: rest))) :
    W p l e R s m args below meth c H locs cells slots Q (F0 m pc ls (.ref (adr g o) :: rest)) := by
  have hP : va_P (gD g) vwCl [(adr g o, .inr (ci, (List.range (nF ci)).map (Z o)))] H := by
    intro j x hx
    have hz : j < 1 := (List.getElem?_eq_some_iff.mp hx).1
    rw [show j = 0 by omega] at hx
    cases hx
    refine ⟨_, cl_at hci, (hB.ob hci ho ht).to (fun i hi => ?_)⟩
    show Z o i = vp_V _ i
    simp [vp_V, hi]
  refine va_get hexec hb hts (cl_in hci) hown hK hP 0 rfl (cl_at hci) k hk (hts _ hw) (fun _ q => q) (v := v) ?_ hd kk
  rw [List.getElem?_map, List.getElem?_range hk, ← hv]
  rfl
end MFLD
