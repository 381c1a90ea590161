/-! rows of the abstract machine: fields and arrays -/
section HEAP
variable {g : GT} {d : Nat} {M : MI} {Q : Int → Sg → Prop} {pc : Nat} {ls st : List AV} {σ : Sg}
def fsL (g : GT) (σ : Sg) (o : Int) (ci : Nat) : List Value := (List.range (nF ci)).map (fun k => conc g (fkT ci k, fW σ o ci k))
theorem fsL_at {g : GT} {σ : Sg} {o : Int} {ci k : Nat} (hk : k < nF ci) : (fsL g σ o ci)[k]? = some (conc g (fkT ci k, fW σ o ci k)) := by
  unfold fsL
  rw [List.getElem?_map, List.getElem?_range hk]
  rfl
theorem cel_ob {g : GT} {σ : Sg} {H : Heap} {o : Int} {ci : Nat} (hci : ci < 12) (R : Rp g σ H) (vo : gr g o ∧ tg o = 10 + ci) : t_OB (adr g o) ((gD g).1 ci) (nF ci) ((gD g).2 ci) H (fun k => conc g (fkT ci k, fW σ o ci k)) := by
  have h := (R o vo.1).1.1 (by omega)
  rw [show tg o - 10 = ci by omega] at h
  exact h
theorem fsP {g : GT} {σ : Sg} {H : Heap} {o : Int} {ci : Nat} (hci : ci < 12) (R : Rp g σ H) (vo : gr g o ∧ tg o = 10 + ci) : va_P (gD g) vwCl [(adr g o, .inr (ci, fsL g σ o ci))] H := by
  intro k q hq
  match k, hq with
  | 0, hq =>
    cases hq
    refine ⟨_, cl_at hci, (cel_ob hci R vo).to (fun j hj => ?_)⟩
    show _ = (fsL g σ o ci).getD j .null
    rw [List.getD_eq_getElem?_getD, fsL_at hj]
    rfl
  | k + 1, hq => simp at hq
theorem vld_f {g : GT} {σ : Sg} {H : Heap} {o : Int} {ci k : Nat} (hC : Cl g) (hci : ci < 12) (hk : k < nF ci) (R : Rp g σ H) (vo : gr g o ∧ tg o = 10 + ci) : vld g (fkT ci k, fW σ o ci k) := by
  have e : tg o - 10 = ci := by omega
  have h1 := (R o vo.1).2.1 (by omega)
  have h2 := ((hC o vo.1).2.2.1 (by omega)).2
  rw [e] at h1 h2
  cases hf : fkO ci k with
  | none => rw [fW_n hf]; exact h1 k hk hf
  | some off =>
    have h3 := h2 k off hk hf
    have e2 : fW σ o ci k = o + off := by unfold fW; rw [hf]
    rw [e2]
    refine vld_of ?_ h3
    rw [← h3.2]
    exact (hC _ h3.1).2.1
theorem r_getf {ci k idx : Nat} {o : Int} (hci : ci < 12) (hk : k < nF ci) (hw : Cond.fieldLink M.1.cls idx (cT ci k).1 (cT ci k).2.1 (cT ci k).2.2.1 ∈ lwG) (hd : decode M.2.1 pc = .ok (.getfield idx, 3))
    (h : Wp g d M Q (pc + 3) ls ((fkT ci k, fW σ o ci k) :: st) σ) : Wp g d M Q pc ls ((10 + ci, o) :: st) σ := by
  intro p e s m args below meth c H locs lsA C S R L vl vs
  have vo : gr g o ∧ tg o = 10 + ci := vld_o (by omega) (vhd vs)
  obtain ⟨c1, c2, c3, c4, c5, c6, c7, c8, c9, c10⟩ := id C
  rw [List.map_cons, conc_o (by omega)]
  exact va_get c1 c2 c5 (cl_in hci) c4 c8 (fsP hci R vo) 0 rfl (cl_at hci) k hk (c5 _ hw) (fun _ q => q) (fsL_at hk) hd (h p e s m args below meth c H locs lsA C S R L vl (vcons (vld_f c10 hci hk R vo) (vtl vs)))
theorem r_putf {ci k idx : Nat} {o v : Int} (hci : ci < 12) (hk : k < nF ci) (hw : Cond.fieldLink M.1.cls idx (cT ci k).1 (cT ci k).2.1 (cT ci k).2.2.1 ∈ lwG) (hfo : fkO ci k = none) (hfin : (cT ci k).2.2.2 = false)
    (hn : narrow (cTy ci k) (conc g (fkT ci k, v)) = conc g (fkT ci k, v)) (hf : fits (cTy ci k) (conc g (fkT ci k, v)) = true) (hd : decode M.2.1 pc = .ok (.putfield idx, 3))
    (h : Wp g d M Q (pc + 3) ls st (ups σ o k v)) : Wp g d M Q pc ls ((fkT ci k, v) :: (10 + ci, o) :: st) σ := by
  intro p e s m args below meth c H locs lsA C S R L vl vs
  have vo : gr g o ∧ tg o = 10 + ci := vld_o (by omega) (vhd (vtl vs))
  obtain ⟨c1, c2, c3, c4, c5, c6, c7, c8, c9, c10⟩ := id C
  rw [List.map_cons, List.map_cons, conc_o (t := 10 + ci) (by omega)]
  have hap := va_apart (own := M.1.cls) c5 (cl_in hci) (cTy ci) (cl_ty hci) (cl_nm hci) c8 (cl_at hci)
  obtain ⟨cell, q1, q2, q3, q4⟩ := cel_ob hci R vo
  obtain ⟨hS, hfc, kC, hkC, hkind⟩ := c8.1 ci _ (cl_at hci)
  obtain ⟨cf, kf, fi, f, hi, hsl⟩ := hS k hk
  have hlay := c5 _ (cl_in hci _ (u_in_lay hk))
  unfold u_lay at hlay
  rw [if_neg (by rw [hfin]; decide)] at hlay
  have hst := (u_facts hfc hkC (u_lays c5 (cl_in hci) hk) hi).1
  have h6 := u_store hfc hkC hkind hlay hi (cl_ty hci k hk) hn hf
  refine W.putK c1 c2 (f := f) ⟨c4, c5 _ hw, ⟨_, _, _, hi⟩, hst⟩ (by rw [q2]; exact h6) q1 q3 (by rw [hsl]; exact k2_hasslot (q4 k hk)) rfl rfl hd fun H' e1 e2 e3 => ?_
  rw [hsl] at e1 ⊢
  refine h p e s m args below meth c H' _ lsA C (S.put e2 e3 ⟨o, vo.1, rfl⟩) ?_ L vl (vtl (vtl vs))
  exact R.putf c10 vo.1 vo.2 hci hk hfo (vhd vs) ⟨_, e1, q2, q3, t_set q4 hap hk _⟩ e3
theorem cel_ar {g : GT} {σ : Sg} {H : Heap} {o : Int} {t : Nat} (ht : 30 ≤ t) (R : Rp g σ H) (vo : gr g o ∧ tg o = t) : H[adr g o]? = some (arrV (gA g (aE t)) (aN t) (fun i => eV g o t i (σ o i))) := by
  have h := (R o vo.1).1.2 (by omega)
  rw [vo.2] at h
  exact h
theorem ar_ok {g : GT} {σ : Sg} {H : Heap} {o i : Int} {t : Nat} (ht : 30 ≤ t) (R : Rp g σ H) (vo : gr g o ∧ tg o = t) (h0 : 0 ≤ i) (h1 : i < (aN t : Int)) : inL (σ o i) ∧ (aE t ≠ 2 → inR (σ o i)) := by
  have h := (R o vo.1).2.2 (by omega) i.toNat (by rw [vo.2]; omega)
  rw [vo.2, show ((i.toNat : Nat) : Int) = i by omega] at h
  exact h
theorem ar_in {cA : ClassId} {N : Nat} {f : Nat → Value} {i : Int} (h0 : 0 ≤ i) (h1 : i < (N : Int)) (hi : inR i) : ¬ (i3 i < 0 ∨ (arrV cA N f).slots.size ≤ (i3 i).toNatClampNeg) := by
  rw [arrV_size]
  exact i3_vin h0 h1 hi
theorem ar_rd {cA : ClassId} {N : Nat} {f : Nat → Value} {i : Int} (h0 : 0 ≤ i) (h1 : i < (N : Int)) (hi : inR i) : (arrV cA N f).slots[(i3 i).toNatClampNeg]? = some (f i.toNat) := by
  rw [i3_idx h0 hi, arrV_read _ _ (by omega)]
theorem r_iald {t : Nat} {o i : Int} {n : Int} (he : (aE t, (aN t : Int)) = (0, n)) (ht : 30 ≤ t) (hd : decode M.2.1 pc = .ok (.iaload, 1)) (hb : 0 ≤ i ∧ i < n)
    (h : Wp g d M Q (pc + 1) ls ((0, σ o i) :: st) σ) : Wp g d M Q pc ls ((0, i) :: (t, o) :: st) σ := by
  intro p e s m args below meth c H locs lsA C S R L vl vs
  have hE : aE t = 0 := congrArg Prod.fst he
  have hN : (aN t : Int) = n := congrArg Prod.snd he
  subst hN
  have vo : gr g o ∧ tg o = t := vld_o (by omega) (vhd (vtl vs))
  have hi : inR i := vhd vs
  rw [List.map_cons, List.map_cons, conc_o (t := t) (by omega)]
  have hA := (C.2.2.2.2.2.2.2.1.2 0 (gA g 0, .int) rfl).1 (aN t) (fun j => eV g o t j (σ o j))
  rw [← hE] at hA
  refine W.iald (v := conc g (0, σ o i)) C.1 C.2.1 (cel_ar ht R vo) hA (fun q => by cases q) (ar_in hb.1 hb.2 hi) ?_ rfl rfl hd (h p e s m args below meth c H locs lsA C S R L vl (vcons (x := (0, σ o i)) ((ar_ok ht R vo hb.1 hb.2).2 (by rw [hE]; decide)) (vtl (vtl vs))))
  rw [ar_rd hb.1 hb.2 hi]
  unfold eV
  rw [hE, show ((i.toNat : Nat) : Int) = i by omega]
  rfl
theorem r_lald {t : Nat} {o i : Int} {n : Int} (he : (aE t, (aN t : Int)) = (2, n)) (ht : 30 ≤ t) (hd : decode M.2.1 pc = .ok (.laload, 1)) (hb : 0 ≤ i ∧ i < n)
    (h : Wp g d M Q (pc + 1) ls ((2, σ o i) :: st) σ) : Wp g d M Q pc ls ((0, i) :: (t, o) :: st) σ := by
  intro p e s m args below meth c H locs lsA C S R L vl vs
  have hE : aE t = 2 := congrArg Prod.fst he
  have hN : (aN t : Int) = n := congrArg Prod.snd he
  subst hN
  have vo : gr g o ∧ tg o = t := vld_o (by omega) (vhd (vtl vs))
  have hi : inR i := vhd vs
  rw [List.map_cons, List.map_cons, conc_o (t := t) (by omega)]
  have hA := (C.2.2.2.2.2.2.2.1.2 2 (gA g 2, .long) rfl).1 (aN t) (fun j => eV g o t j (σ o j))
  rw [← hE] at hA
  refine W.lald (v := conc g (2, σ o i)) C.1 C.2.1 (cel_ar ht R vo) hA (fun q => by cases q) (ar_in hb.1 hb.2 hi) ?_ rfl rfl hd (h p e s m args below meth c H locs lsA C S R L vl (vcons (x := (2, σ o i)) ((ar_ok ht R vo hb.1 hb.2).1) (vtl (vtl vs))))
  rw [ar_rd hb.1 hb.2 hi]
  unfold eV
  rw [hE, show ((i.toNat : Nat) : Int) = i by omega]
  rfl
theorem r_bald {t : Nat} {o i : Int} {n : Int} (he : (aE t, (aN t : Int)) = (6, n)) (ht : 30 ≤ t) (hd : decode M.2.1 pc = .ok (.baload, 1)) (hb : 0 ≤ i ∧ i < n)
    (h : Wp g d M Q (pc + 1) ls ((0, σ o i) :: st) σ) : Wp g d M Q pc ls ((0, i) :: (t, o) :: st) σ := by
  intro p e s m args below meth c H locs lsA C S R L vl vs
  have hE : aE t = 6 := congrArg Prod.fst he
  have hN : (aN t : Int) = n := congrArg Prod.snd he
  subst hN
  have vo : gr g o ∧ tg o = t := vld_o (by omega) (vhd (vtl vs))
  have hi : inR i := vhd vs
  rw [List.map_cons, List.map_cons, conc_o (t := t) (by omega)]
  have hA := (C.2.2.2.2.2.2.2.1.2 3 (gA g 6, .byte) rfl).1 (aN t) (fun j => eV g o t j (σ o j))
  rw [← hE] at hA
  refine W.bald (v := conc g (0, σ o i)) C.1 C.2.1 (cel_ar ht R vo) hA (fun q => by cases q) (ar_in hb.1 hb.2 hi) ?_ rfl rfl hd (h p e s m args below meth c H locs lsA C S R L vl (vcons (x := (0, σ o i)) ((ar_ok ht R vo hb.1 hb.2).2 (by rw [hE]; decide)) (vtl (vtl vs))))
  rw [ar_rd hb.1 hb.2 hi]
  unfold eV
  rw [hE, show ((i.toNat : Nat) : Int) = i by omega]
  rfl
theorem r_zald {t : Nat} {o i : Int} {n : Int} (he : (aE t, (aN t : Int)) = (1, n)) (ht : 30 ≤ t) (hd : decode M.2.1 pc = .ok (.baload, 1)) (hb : 0 ≤ i ∧ i < n)
    (h : Wp g d M Q (pc + 1) ls ((0, σ o i) :: st) σ) : Wp g d M Q pc ls ((0, i) :: (t, o) :: st) σ := by
  intro p e s m args below meth c H locs lsA C S R L vl vs
  have hE : aE t = 1 := congrArg Prod.fst he
  have hN : (aN t : Int) = n := congrArg Prod.snd he
  subst hN
  have vo : gr g o ∧ tg o = t := vld_o (by omega) (vhd (vtl vs))
  have hi : inR i := vhd vs
  rw [List.map_cons, List.map_cons, conc_o (t := t) (by omega)]
  have hA := (C.2.2.2.2.2.2.2.1.2 1 (gA g 1, .boolean) rfl).1 (aN t) (fun j => eV g o t j (σ o j))
  rw [← hE] at hA
  refine W.zald (v := conc g (0, σ o i)) C.1 C.2.1 (cel_ar ht R vo) hA (fun q => by cases q) (ar_in hb.1 hb.2 hi) ?_ rfl rfl hd (h p e s m args below meth c H locs lsA C S R L vl (vcons (x := (0, σ o i)) ((ar_ok ht R vo hb.1 hb.2).2 (by rw [hE]; decide)) (vtl (vtl vs))))
  rw [ar_rd hb.1 hb.2 hi]
  unfold eV
  rw [hE, show ((i.toNat : Nat) : Int) = i by omega]
  rfl
theorem r_aald {t : Nat} {o i : Int} {n : Int} {t2 : Nat} (he : (aE t, (aN t : Int)) = (7, n)) (ht : 30 ≤ t) (h2 : aI t = t2) (hd : decode M.2.1 pc = .ok (.aaload, 1)) (hb : 0 ≤ i ∧ i < n)
    (h : Wp g d M Q (pc + 1) ls ((t2, o + 1 + i) :: st) σ) : Wp g d M Q pc ls ((0, i) :: (t, o) :: st) σ := by
  intro p e s m args below meth c H locs lsA C S R L vl vs
  subst h2
  have hE : aE t = 7 := congrArg Prod.fst he
  have hN : (aN t : Int) = n := congrArg Prod.snd he
  subst hN
  have vo : gr g o ∧ tg o = t := vld_o (by omega) (vhd (vtl vs))
  have hi : inR i := vhd vs
  rw [List.map_cons, List.map_cons, conc_o (t := t) (by omega)]
  have hA := (C.2.2.2.2.2.2.2.1.2 4 (gA g 7, .array .int) rfl).1 (aN t) (fun j => eV g o t j (σ o j))
  rw [← hE] at hA
  have hcl := C.2.2.2.2.2.2.2.2.2
  have hin := (hcl o vo.1).2.2.2 (by omega) (by rw [vo.2]; exact hE) i.toNat (by rw [vo.2]; omega)
  rw [vo.2, show ((i.toNat : Nat) : Int) = i by omega] at hin
  have h10 : 10 ≤ aI t := by rw [← hin.2]; exact (hcl _ hin.1).2.1
  refine W.aald (ty := .array .int) (v := conc g (aI t, o + 1 + i)) C.1 C.2.1 (cel_ar ht R vo) hA rfl (fun q => by cases q) (ar_in hb.1 hb.2 hi) ?_ rfl rfl hd (h p e s m args below meth c H locs lsA C S R L vl (vcons (x := (aI t, o + 1 + i)) (vld_of h10 hin) (vtl (vtl vs))))
  rw [ar_rd hb.1 hb.2 hi, conc_o h10]
  unfold eV
  rw [hE, show ((i.toNat : Nat) : Int) = i by omega]
  rfl
theorem r_alen {t : Nat} {o : Int} {n : Int} (he : (aE t, (aN t : Int)) = (0, n)) (ht : 30 ≤ t) (hn : n ≤ 2147483647) (hd : decode M.2.1 pc = .ok (.arraylength, 1))
    (h : Wp g d M Q (pc + 1) ls ((0, n) :: st) σ) : Wp g d M Q pc ls ((t, o) :: st) σ := by
  intro p e s m args below meth c H locs lsA C S R L vl vs
  have hE : aE t = 0 := congrArg Prod.fst he
  have hN : (aN t : Int) = n := congrArg Prod.snd he
  subst hN
  have vo : gr g o ∧ tg o = t := vld_o (by omega) (vhd vs)
  rw [List.map_cons, conc_o (t := t) (by omega)]
  have hA := (C.2.2.2.2.2.2.2.1.2 0 (gA g 0, .int) rfl).1 (aN t) (fun j => eV g o t j (σ o j))
  rw [← hE] at hA
  refine W.alen C.1 C.2.1 (cel_ar ht R vo) hA (by rw [arrV_size]; rfl) rfl rfl hd (h p e s m args below meth c H locs lsA C S R L vl (vcons (x := (0, (aN t : Int))) (by show inR _; unfold inR; omega) (vtl vs)))
theorem ar_st {g : GT} {σ : Sg} {o i v : Int} {t : Nat} {V : Value} (hV : eV g o t i.toNat v = V) (h0 : 0 ≤ i) (hi : inR i) : (arrV (gA g (aE t)) (aN t) (fun j => eV g o t j (σ o j))).setSlot (i3 i).toNatClampNeg V = arrV (gA g (aE t)) (aN t) (updV (fun j => eV g o t j (σ o j)) i.toNat (eV g o t i.toNat v)) := by
  rw [i3_idx h0 hi, arrV_store, hV]
theorem r_iast {t : Nat} {o i v : Int} {n : Int} (he : (aE t, (aN t : Int)) = (0, n)) (ht : 30 ≤ t) (hd : decode M.2.1 pc = .ok (.iastore, 1)) (hb : 0 ≤ i ∧ i < n)
    (h : Wp g d M Q (pc + 1) ls st (ups σ o i v)) : Wp g d M Q pc ls ((0, v) :: (0, i) :: (t, o) :: st) σ := by
  intro p e s m args below meth c H locs lsA C S R L vl vs
  have hE : aE t = 0 := congrArg Prod.fst he
  have hN : (aN t : Int) = n := congrArg Prod.snd he
  subst hN
  have vo : gr g o ∧ tg o = t := vld_o (by omega) (vhd (vtl (vtl vs)))
  have hi : inR i := vhd (vtl vs)
  have hv : inR v := vhd vs
  rw [List.map_cons, List.map_cons, List.map_cons, conc_o (t := t) (by omega)]
  have hA := (C.2.2.2.2.2.2.2.1.2 0 (gA g 0, .int) rfl).1 (aN t) (fun j => eV g o t j (σ o j))
  rw [← hE] at hA
  refine W.iast C.1 C.2.1 (cel_ar ht R vo) hA (fun q => by cases q) (ar_in hb.1 hb.2 hi) rfl rfl hd (fun H' e1 e2 e3 => ?_)
  rw [ar_st (g := g) (o := o) (v := v) (by unfold eV; rw [hE]; rfl) hb.1 hi] at e1
  refine h p e s m args below meth c H' _ lsA C (S.put e2 e3 ⟨o, vo.1, rfl⟩) ?_ L vl (vtl (vtl (vtl vs)))
  have := R.puta (k := i.toNat) (v := v) C.2.2.2.2.2.2.2.2.2 vo.1 vo.2 ht (by rw [hE]; decide) (by omega) ⟨inR_L hv, fun _ => hv⟩ e1 e3
  rw [show ((i.toNat : Nat) : Int) = i by omega] at this
  exact this
theorem r_last {t : Nat} {o i v : Int} {n : Int} (he : (aE t, (aN t : Int)) = (2, n)) (ht : 30 ≤ t) (hd : decode M.2.1 pc = .ok (.lastore, 1)) (hb : 0 ≤ i ∧ i < n)
    (h : Wp g d M Q (pc + 1) ls st (ups σ o i v)) : Wp g d M Q pc ls ((2, v) :: (0, i) :: (t, o) :: st) σ := by
  intro p e s m args below meth c H locs lsA C S R L vl vs
  have hE : aE t = 2 := congrArg Prod.fst he
  have hN : (aN t : Int) = n := congrArg Prod.snd he
  subst hN
  have vo : gr g o ∧ tg o = t := vld_o (by omega) (vhd (vtl (vtl vs)))
  have hi : inR i := vhd (vtl vs)
  have hv : inL v := vhd vs
  rw [List.map_cons, List.map_cons, List.map_cons, conc_o (t := t) (by omega)]
  have hA := (C.2.2.2.2.2.2.2.1.2 2 (gA g 2, .long) rfl).1 (aN t) (fun j => eV g o t j (σ o j))
  rw [← hE] at hA
  refine W.last C.1 C.2.1 (cel_ar ht R vo) hA (fun q => by cases q) (ar_in hb.1 hb.2 hi) rfl rfl hd (fun H' e1 e2 e3 => ?_)
  rw [ar_st (g := g) (o := o) (v := v) (by unfold eV; rw [hE]; rfl) hb.1 hi] at e1
  refine h p e s m args below meth c H' _ lsA C (S.put e2 e3 ⟨o, vo.1, rfl⟩) ?_ L vl (vtl (vtl (vtl vs)))
  have := R.puta (k := i.toNat) (v := v) C.2.2.2.2.2.2.2.2.2 vo.1 vo.2 ht (by rw [hE]; decide) (by omega) ⟨hv, fun q => absurd hE q⟩ e1 e3
  rw [show ((i.toNat : Nat) : Int) = i by omega] at this
  exact this
theorem r_bast {t : Nat} {o i v : Int} {n : Int} (he : (aE t, (aN t : Int)) = (6, n)) (ht : 30 ≤ t) (hd : decode M.2.1 pc = .ok (.bastore, 1)) (hb : 0 ≤ i ∧ i < n)
    (h : Wp g d M Q (pc + 1) ls st (ups σ o i (bSb v))) : Wp g d M Q pc ls ((0, v) :: (0, i) :: (t, o) :: st) σ := by
  intro p e s m args below meth c H locs lsA C S R L vl vs
  have hE : aE t = 6 := congrArg Prod.fst he
  have hN : (aN t : Int) = n := congrArg Prod.snd he
  subst hN
  have vo : gr g o ∧ tg o = t := vld_o (by omega) (vhd (vtl (vtl vs)))
  have hi : inR i := vhd (vtl vs)
  have hv : inR (bSb v) := toI_in _
  rw [List.map_cons, List.map_cons, List.map_cons, conc_o (t := t) (by omega)]
  have hA := (C.2.2.2.2.2.2.2.1.2 3 (gA g 6, .byte) rfl).1 (aN t) (fun j => eV g o t j (σ o j))
  rw [← hE] at hA
  refine W.bast C.1 C.2.1 (cel_ar ht R vo) hA (fun q => by cases q) (ar_in hb.1 hb.2 hi) rfl rfl hd (fun H' e1 e2 e3 => ?_)
  rw [ar_st (g := g) (o := o) (v := bSb v) (by unfold eV; rw [hE]; show Value.int (i3 (bSb v)) = .int _; rw [show i3 (bSb v) = (i3 v).toInt8.toInt32 from i3_to _]) hb.1 hi] at e1
  refine h p e s m args below meth c H' _ lsA C (S.put e2 e3 ⟨o, vo.1, rfl⟩) ?_ L vl (vtl (vtl (vtl vs)))
  have := R.puta (k := i.toNat) (v := bSb v) C.2.2.2.2.2.2.2.2.2 vo.1 vo.2 ht (by rw [hE]; decide) (by omega) ⟨inR_L hv, fun _ => hv⟩ e1 e3
  rw [show ((i.toNat : Nat) : Int) = i by omega] at this
  exact this
theorem r_zast {t : Nat} {o i v : Int} {n : Int} (he : (aE t, (aN t : Int)) = (1, n)) (ht : 30 ≤ t) (hd : decode M.2.1 pc = .ok (.bastore, 1)) (hb : 0 ≤ i ∧ i < n) (hz : v = 0 ∨ v = 1)
    (h : Wp g d M Q (pc + 1) ls st (ups σ o i v)) : Wp g d M Q pc ls ((0, v) :: (0, i) :: (t, o) :: st) σ := by
  intro p e s m args below meth c H locs lsA C S R L vl vs
  have hE : aE t = 1 := congrArg Prod.fst he
  have hN : (aN t : Int) = n := congrArg Prod.snd he
  subst hN
  have vo : gr g o ∧ tg o = t := vld_o (by omega) (vhd (vtl (vtl vs)))
  have hi : inR i := vhd (vtl vs)
  have hv : inR v := vhd vs
  rw [List.map_cons, List.map_cons, List.map_cons, conc_o (t := t) (by omega)]
  have hA := (C.2.2.2.2.2.2.2.1.2 1 (gA g 1, .boolean) rfl).1 (aN t) (fun j => eV g o t j (σ o j))
  rw [← hE] at hA
  refine W.zast C.1 C.2.1 (cel_ar ht R vo) hA (fun q => by cases q) (ar_in hb.1 hb.2 hi) rfl rfl hd (fun H' e1 e2 e3 => ?_)
  rw [ar_st (g := g) (o := o) (v := v) (by unfold eV; rw [hE]; exact (bz_nar hz).symm) hb.1 hi] at e1
  refine h p e s m args below meth c H' _ lsA C (S.put e2 e3 ⟨o, vo.1, rfl⟩) ?_ L vl (vtl (vtl (vtl vs)))
  have := R.puta (k := i.toNat) (v := v) C.2.2.2.2.2.2.2.2.2 vo.1 vo.2 ht (by rw [hE]; decide) (by omega) ⟨inR_L hv, fun _ => hv⟩ e1 e3
  rw [show ((i.toNat : Nat) : Int) = i by omega] at this
  exact this
end HEAP
