/-! a constructor's walk: arrays of arrays, stores, calls -/
theorem arrV_eq {cA : ClassId} {n : Nat} {f f2 : Nat → Value} (h : ∀ j : Nat, j < n → f j = f2 j) : arrV cA n f = arrV cA n f2 := by
  unfold arrV
  congr 1
  apply Array.ext
  · simp
  · intro i i1 i2
    simp at i1
    simp [h i i1]
theorem outer_arr (cA : ClassId) (N h0 : Nat) : ∀ i, Jvm.Free.Multi.outerC cA N h0 i = arrV cA N (fun j => if j < i then .ref (h0 + 1 + j) else .null)
  | 0 => by
    show ({ cls := cA, slots := Array.replicate N .null, vm := .none } : Cell) = _
    rw [arrV_new]
    exact arrV_eq (fun j _ => by rw [if_neg (by omega)])
  | i + 1 => by
    show (Jvm.Free.Multi.outerC cA N h0 i).setSlot i (.ref (h0 + 1 + i)) = _
    rw [outer_arr cA N h0 i, arrV_store]
    refine arrV_eq (fun j _ => ?_)
    unfold updV
    by_cases e : j = i
    · subst e
      rw [if_pos rfl, if_pos (by omega)]
    · rw [if_neg e]
      show (if j < i then Value.ref (h0 + 1 + j) else Value.null) = _
      by_cases q : j < i
      · rw [if_pos q, if_pos (by omega)]
      · rw [if_neg q, if_neg (by omega)]
section MULTI2
variable {p : Program} {l : Launch} {e : Env} {R : Room} {s : State} {m : MethodId} {args : Array Value} {below : List Frame} {meth : Method} {c : Code} {H : Heap} {locs : List Loc} {cells slots : Nat} {Q : State → Prop}
variable {cc : ByteArray} {pc : Nat} {ls : Array Slot} {rest : List Value}
theorem w_mult2 (hexec : p.tables.exec = Jvm.exec) (hb : c.code = cc) {own : String} {index : Nat} (hown : s.vm.findClass own = some m.cls)
    (hclink : (Cond.classLink own index "[[I").before args s = true) (hover : (Cond.arrayOver (.array .int)).before args s = true) (harr : (Cond.arrayClass .int).before args s = true)
    {n k : Int32} {N K : Nat} (hN : n.toNatClampNeg = N) (hK : k.toNatClampNeg = K) (hn : ¬ n < 0) (hk : ¬ k < 0) (hb1 : N * 4 ≤ 536870912) (hb2 : K * 4 ≤ 536870912)
    (hcells : cells + (1 + N) ≤ R.cells) (hslots : slots + (N + N * K) ≤ R.slots) (hd : decode cc pc = .ok (.multianewarray index 2, 4))
    (kk : ∀ (H1 : Heap) (cA comp : ClassId), s.vm.findClass "[[I" = some cA → s.vm.findClass "[I" = some comp → H1.size = H.size + 1 + N → (∀ q : Nat, q < H.size → H1[q]? = H[q]?) →
      H1[H.size]? = some (arrV cA N (fun j => .ref (H.size + 1 + j))) → (∀ j : Nat, j < N → H1[H.size + 1 + j]? = some (arrV comp K (fun _ => .int 0))) →
      W p l e R s m args below meth c H1 locs (cells + 1 + N) (slots + N + N * K) Q (F0 m (pc + 4) ls (.ref H.size :: rest))) :
    W p l e R s m args below meth c H locs cells slots Q (F0 m pc ls (.int k :: .int n :: rest)) := by
  subst hN
  subst hK
  intro T hT X
  subst hT
  obtain ⟨vm₁, cA, comp, hW, hfA, hfC, hO, hI, X1, step⟩ := Stand.multianewarray2F X hexec hown (ty := .int) hclink hover harr (g := F0 m pc ls (.int k :: .int n :: rest)) rfl (by rw [hb]; exact hd) (n := n) (k := k) (rest := rest) rfl hn hk hb1 hb2 (by omega) rfl rfl hcells hslots
  obtain ⟨f1, f2, f3, f4⟩ := Jvm.Free.Multi.fill_facts (T.setVm vm₁) cA comp n.toNatClampNeg k.toNatClampNeg (defaultValue .int) n.toNatClampNeg
  rw [outer_arr] at f2
  obtain ⟨t, a1, b1⟩ := kk _ cA comp hfA hfC f1 (fun q hq => Jvm.Free.Multi.fill_old (T.setVm vm₁) cA comp _ _ _ hq _) (f2.trans (congrArg some (arrV_eq (fun j hj => by rw [if_pos hj]; rfl))))
    (fun j hj => (Jvm.Free.Multi.fill_inner (T.setVm vm₁) cA comp _ _ _ _ _ hj).trans (congrArg some (arrV_new comp _ _))) _ rfl X1
  exact ⟨t, step t a1, b1⟩
end MULTI2
theorem vld_dn {g : GT} {R R2 : Int → Prop} {x : AV} (h : vld (gR g R2) x) (hr : x.1 ≠ 0 → x.1 ≠ 2 → x.1 ≠ 3 → R x.2) : vld (gR g R) x := by
  obtain ⟨t, v⟩ := x
  by_cases t10 : 10 ≤ t
  · have q := vld_o t10 h
    exact vld_of t10 ⟨hr (by show t ≠ 0; omega) (by show t ≠ 2; omega) (by show t ≠ 3; omega), q.2⟩
  · match t, h, hr, t10 with
    | 0, h, _, _ => exact h
    | 1, h, hr, _ => exact ⟨hr (show (1 : Nat) ≠ 0 by decide) (show (1 : Nat) ≠ 2 by decide) (show (1 : Nat) ≠ 3 by decide), h.2⟩
    | 2, h, _, _ => exact h
    | 3, h, _, _ => exact h
    | 4, h, _, _ => exact h
    | 5, h, _, _ => exact h
    | 6, h, hr, _ => exact ⟨hr (show (6 : Nat) ≠ 0 by decide) (show (6 : Nat) ≠ 2 by decide) (show (6 : Nat) ≠ 3 by decide), h.2⟩
    | 7, h, hr, _ => exact ⟨hr (show (7 : Nat) ≠ 0 by decide) (show (7 : Nat) ≠ 2 by decide) (show (7 : Nat) ≠ 3 by decide), h.2⟩
    | 8, h, hr, _ => exact ⟨hr (show (8 : Nat) ≠ 0 by decide) (show (8 : Nat) ≠ 2 by decide) (show (8 : Nat) ≠ 3 by decide), h.2⟩
    | 9, h, _, _ => exact h
    | n + 10, _, _, q => exact absurd (Nat.le_add_left 10 n) q
theorem B2.rp {g : GT} {N : Nat} {σ : Sg} {V : Ut} {H : Heap} {R : Int → Prop} (h : B2 g N σ V H) (hN : ∀ o, R o → 1 ≤ o ∧ o ≤ N) (hV : ∀ o, R o → ∀ k, V o k = false)
    (hO : ∀ o, R o → tg o < 30 → ∀ k : Nat, k < nF (tg o - 10) → fkO (tg o - 10) k = none → fkT (tg o - 10) k ≠ 0 → fkT (tg o - 10) k ≠ 2 → fkT (tg o - 10) k ≠ 3 → R (σ o k)) : Rp (gR g R) σ H :=
  h.1.rp (fun o ro => ⟨hN o ro, fun _ k _ => zZ_set (hV o ro k), fun t => zZ_arr t, fun t k hk hf => vld_dn ((h.2.1 o (hN o ro).1 (hN o ro).2).1 t k hk hf (hV o ro k)) (fun a b c => hO o ro t k hk hf a b c), (h.2.1 o (hN o ro).1 (hN o ro).2).2⟩)
theorem B2.back {g : GT} {N : Nat} {σ σ2 : Sg} {V V2 : Ut} {H H1 : Heap} {R : Int → Prop} (h : B2 g N σ V H) (hC : Cl (gR g R)) (hR : Rp (gR g R) σ2 H1) (hz : H1.size = H.size) (hq : ∀ q : Nat, q < H.size → ¬ gAd (gR g R) q → H1[q]? = H[q]?) (hN : ∀ o, R o → 1 ≤ o ∧ o ≤ N) (hV : ∀ o, R o → ∀ k, V2 o k = false) (hVV : ∀ o, ¬ R o → V2 o = V o) (ho : ∀ o, ¬ R o → σ2 o = σ o) : B2 g N σ2 V2 H1 := by
  refine ⟨h.1.back hC hR hz hq (fun o ro => funext fun k => zZ_set (hV o ro k)) (fun o ro => funext fun k => ?_), fun o o1 o2 => ?_, fun o oN k => ?_⟩
  · rw [zZ_c (ho o ro)]
    exact zZ_U (by rw [hVV o ro])
  · by_cases r : R o
    · have := (hR o r).2
      exact ⟨fun t k hk hf _ => vld_up (this.1 t k hk hf) hN, this.2⟩
    · have := h.2.1 o o1 o2
      unfold sO at this ⊢
      rw [ho o r, hVV o r]
      exact this
  · have nr : ¬ R o := fun r => by have := (hN o r).2; omega
    rw [ho o nr]
    exact h.2.2 o oN k
theorem Sx.dn {g : GT} {R : Int → Prop} {s : State} {H : Heap} (hR : ∀ o, R o → gr g o) (h : Sx g s H) : Sx (gR g R) s H := by
  have ha : ∀ q, gAd (gR g R) q → gAd g q := fun q ⟨o, r, e⟩ => ⟨o, hR o r, e⟩
  obtain ⟨h1, h2, h3, h4, ⟨cell, k1, k2, k3, k4, k5⟩, h6⟩ := h
  exact ⟨h1.narrow ha, h2.narrow ha, h3.narrow ha, h4.narrow ha, ⟨cell, k1, k2, k3, k4, fun q => k5 (ha _ q)⟩, h6⟩
/-- the contract of a method that works on the ready objects R alone -/
def Cz (g : GT) (as : List AV) (N : Nat) (V : Ut) (σ : Sg) : Array Value → State → Prop := va_Pc (as.map (conc g)) (fun X => B2 g N σ V X.heap ∧ Kx g X ∧ Sx g X X.heap)
def Kz (g : GT) (R : Int → Prop) (d : Nat) (M : MI) (as : List AV) (N : Nat) (V : Ut) (σ : Sg) (K : Int → Sg → Prop) : Prop := Met (gl g) M.1 (wsM M) (rmD d) (Cz g as N V σ) (Qz (gR g R) M K) 0 0 (gAd (gR g R))
theorem Kz.of {g : GT} {R : Int → Prop} {d : Nat} {M : MI} {as : List AV} {N : Nat} {V : Ut} {σ : Sg} {K : Int → Sg → Prop} (hM : Mw (gR g R) d M as σ K) (hC : Cl (gR g R)) (hva : ∀ x ∈ as, vld (gR g R) x) (hN : ∀ o, R o → 1 ≤ o ∧ o ≤ N) (hV : ∀ o, R o → ∀ k, V o k = false)
    (hO : ∀ o, R o → tg o < 30 → ∀ k : Nat, k < nF (tg o - 10) → fkO (tg o - 10) k = none → fkT (tg o - 10) k ≠ 0 → fkT (tg o - 10) k ≠ 2 → fkT (tg o - 10) k ≠ 3 → R (σ o k)) (hg : ∀ o, R o → gr g o) : Kz g R d M as N V σ K := by
  refine MetFree.mono (hM hC hva) (fun a s q => ?_) (fun _ _ _ _ _ q => q) (fun a st o t _ q => q)
  obtain ⟨q1, q2, q3, q4⟩ := q
  exact ⟨q1, q2.rp hN hV hO, q3, q4.dn hg⟩
theorem Cz_blind (g : GT) (as : List AV) (N : Nat) (V : Ut) (σ : Sg) : FrameBlind (Cz g as N V σ) := by
  intro a U f mk q
  obtain ⟨q1, q2, q3, q4⟩ := q
  exact ⟨q1, q2, va_K.moved (u := U) (U := U.calling f mk a) (Vm.Alike.refl U.vm) q3, Sx.moved (u := U) (U := U.calling f mk a) (Vm.Alike.refl U.vm) (va_Nw.same (U := U.calling f mk a) rfl rfl) q4⟩
def okN (own : String) (idx : Nat) (M2 : MI) (n : Nat) : Prop :=
  ((own, idx, M2.1) ∈ zNl ∧ Cond.instanceMethod M2.1 ∈ lwG ∧ Cond.initialized M2.1.cls ∈ lwG ∧ Cond.code M2.1 M2.2.1 M2.2.2.1 M2.2.2.2 ∈ lwG) ∧
  (M2.1.name = "<init>" ∧ M2.2.2.2 = none ∧ M2.1.cls ≠ "java/lang/invoke/MethodHandle" ∧ M2.1.cls ≠ "java/lang/invoke/VarHandle" ∧ (parseMethodDescriptor M2.1.desc).map (fun d => d.parameters.length) = some n) ∧ M2.2.2.1 ≤ 21
section CCALL
variable {g : GT} {d : Nat} {M : MI} {U V : Ut} {N2 N mc ms cells slots : Nat} {P : Sg → Prop} {pc : Nat} {ls st : List AV} {σ : Sg}
theorem c_iast {t n : Nat} {o i v : Int} (hE : (aE t, aN t) = (0, n)) (t30 : 30 ≤ t) (ho : 1 ≤ o ∧ o ≤ N) (hm : o ≤ 141) (ht : tg o = t) (hb : 0 ≤ i ∧ i < n) (hi : inR i) (hv : inR v) (hd : decode M.2.1 pc = .ok (.iastore, 1))
    (h : Wc g d M U N2 P mc ms (pc + 1) ls st N V (ups σ o i v) cells slots) : Wc g d M U N2 P mc ms pc ls ((0, v) :: (0, i) :: (t, o) :: st) N V σ cells slots := by
  intro p e s m args below meth c H locs lsA C S B hz L
  obtain ⟨c1, c2, c3, c4, c5, c6, c7, c8, c9, c10, c11, c12⟩ := id C
  have e0 : aE t = 0 := congrArg Prod.fst hE
  have e1 : aN t = n := congrArg Prod.snd hE
  subst ht
  subst e1
  rw [List.map_cons, List.map_cons, List.map_cons, conc_o (t := tg o) (by omega)]
  have hcell := (B.1.2 o ho.1 ho.2).2 t30
  rw [zZ_arr t30] at hcell
  have hA := (c8.2 0 (gA g 0, .int) rfl).1 (aN (tg o)) (zV g σ o)
  rw [← e0] at hA
  refine W.iast c1 c2 hcell hA (fun q => by cases q) (ar_in hb.1 hb.2 hi) rfl rfl hd (fun H' q1 q2 q3 => ?_)
  rw [i3_idx hb.1 hi, arrV_store] at q1
  have hB1 : Br g N (zSe (zZ g σ V) o (updV (zV g σ o) i.toNat (.int (i3 v)))) H' := B.1.put ho.1 q2 q3 ⟨fun q => absurd q (by omega), fun _ => by rw [zSe_eq]; exact q1⟩
  have hB2 : B2 g N (ups σ o i v) V H' := by
    refine ⟨hB1.to (fun o2 a1 a2 => ?_), fun o2 a1 a2 => ?_, fun o2 a1 k => ?_⟩
    · by_cases e : o2 = o
      · subst e
        refine ⟨fun q => absurd q (by omega), fun _ => ?_⟩
        rw [zSe_eq, zZ_arr t30]
        funext k
        unfold updV zV
        simp only [if_neg (show ¬ tg o2 < 30 by omega)]
        by_cases ek : k = i.toNat
        · rw [if_pos ek]
          unfold eV
          rw [e0, show ((k : Nat) : Int) = i by omega, ups_eq]
          rfl
        · rw [if_neg ek, ups_k _ (by omega)]
      · rw [zSe_ne e]
        have e2 : zZ g σ V o2 = zZ g (ups σ o i v) V o2 := funext fun k => by rw [zZ_c (ups_at σ e)]
        exact ⟨fun _ k _ => by rw [e2], fun _ => e2⟩
    · by_cases e : o2 = o
      · subst e
        refine ⟨fun q => absurd q (by omega), fun q j hj => ?_⟩
        by_cases ej : (j : Int) = i
        · rw [ej, ups_eq]
          exact ⟨inR_L hv, fun _ => hv⟩
        · rw [ups_k _ ej]
          exact (B.2.1 o2 a1 a2).2 q j hj
      · have := B.2.1 o2 a1 a2
        unfold sO at this ⊢
        rw [ups_at σ e]
        exact this
    · rw [ups_at σ (by omega)]
      exact B.2.2 o2 a1 k
  exact h p e s m args below meth c H' _ lsA C (S.put q2 q3 ⟨o, c12 o ho.1 hm, rfl⟩) hB2 (by rw [q2]; exact hz) L
theorem c_multi {idx t ti n k N' c2 s2 : Nat} {zn zk o : Int} (hN : N + 1 + n = N') (hcs : cells + 1 + n = c2 ∧ slots + n + n * k = s2) (hw : Cond.classLink M.1.cls idx "[[I" ∈ lwG) (hE : (aE t, aN t) = (7, n)) (hI : (aE ti, aN ti) = (0, k)) (t30 : 30 ≤ t ∧ 30 ≤ ti) (hzn : zn = (n : Int) ∧ zk = (k : Int)) (hb : n ≤ 1000 ∧ k ≤ 1000) (ho : (N : Int) + 1 = o) (ht : tg o = t) (hti : ∀ j : Nat, j < n → tg (o + 1 + j) = ti) (hc : c2 ≤ mc ∧ s2 ≤ ms) (hd : decode M.2.1 pc = .ok (.multianewarray idx 2, 4))
    (h : Wc g d M U N2 P mc ms (pc + 4) ls ((t, o) :: st) N' V σ c2 s2) : Wc g d M U N2 P mc ms pc ls ((0, zk) :: (0, zn) :: st) N V σ cells slots := by
  obtain ⟨rfl, rfl⟩ := hcs
  subst hN
  subst ho
  intro p e s m args below meth c H locs lsA C S B hz L
  obtain ⟨c1, c2, c3, c4, c5, c6, c7, c8, c9, c10, c11, c12⟩ := id C
  have nn : ∀ z : Int, 0 ≤ z → inR z → ¬ i3 z < 0 := fun z hz rz q => by have := (i3_lt rz inR0).mp (show i3 z < i3 0 from q); omega
  refine w_mult2 (n := i3 zn) (k := i3 zk) (N := n) (K := k) c1 c2 c4 (c5 _ hw) c10.1 (c5 _ (show Cond.arrayClass .int ∈ lwG from lwc_1 73 (by decide +kernel) (by decide +kernel))) (i3_clamp hzn.1 (by omega)) (i3_clamp hzn.2 (by omega)) (nn zn (by omega) (by unfold inR; omega)) (nn zk (by omega) (by unfold inR; omega)) (by omega) (by omega) (by have := hc.1; show cells + (1 + n) ≤ mc; omega) (by have := hc.2; show slots + (n + n * k) ≤ ms; omega) hd (fun H1 cA comp fA fC z1 q1 r1 r6 => ?_)
  have g7 : cA = gA g 7 := Option.some.inj (fA.symm.trans (c8.2 4 (gA g 7, .array .int) rfl).2)
  have g0 : comp = gA g 0 := Option.some.inj (fC.symm.trans (c8.2 0 (gA g 0, .int) rfl).2)
  have e0 : aE t = 7 := congrArg Prod.fst hE
  have e1 : aN t = n := congrArg Prod.snd hE
  have i0 : aE ti = 0 := congrArg Prod.fst hI
  have i1 : aN ti = k := congrArg Prod.snd hI
  have sz := B.1.1
  have z0 : ∀ (o : Int) (j : Int), (N : Int) < o → σ o j = 0 := fun o j q => B.2.2 o q j
  have hB2 : B2 g (N + 1 + n) σ V H1 := by
    refine ⟨⟨by omega, fun o2 a1 a2 => ?_⟩, fun o2 a1 a2 => ?_, fun o2 a1 j => z0 o2 j (by omega)⟩
    · by_cases l1 : o2 ≤ N
      · obtain ⟨b1, b2⟩ := B.1.2 o2 a1 l1
        have lt : adr g o2 < H.size := by unfold adr; omega
        exact ⟨fun q => (b1 q).kept (q1 _ lt), fun q => by rw [q1 _ lt]; exact b2 q⟩
      · by_cases l2 : o2 = (N : Int) + 1
        · subst l2
          refine ⟨fun q => absurd q (by omega), fun q => ?_⟩
          rw [zZ_arr q, ht, e0, e1, adr_n, ← sz, r1, g7]
          refine congrArg some (arrV_eq (fun j hj => ?_))
          unfold zV eV
          rw [if_neg (show ¬ tg ((N : Int) + 1) < 30 by omega), ht, e0]
          have ea : adr g ((N : Int) + 1 + 1 + j) = H.size + 1 + j := by unfold adr; omega
          show Value.ref (H.size + 1 + j) = Value.ref (adr g ((N : Int) + 1 + 1 + j))
          rw [ea]
        · obtain ⟨j, hj, rfl⟩ : ∃ j : Nat, j < n ∧ o2 = (N : Int) + 1 + 1 + j := ⟨(o2 - (N + 1 + 1)).toNat, by omega, by omega⟩
          have tj := hti j hj
          refine ⟨fun q => absurd q (by omega), fun q => ?_⟩
          have ea : adr g ((N : Int) + 1 + 1 + j) = H.size + 1 + j := by unfold adr; omega
          rw [zZ_arr q, tj, i0, i1, ea, r6 j hj, g0]
          refine congrArg some (arrV_eq (fun y _ => ?_))
          unfold zV eV
          rw [if_neg (show ¬ tg ((N : Int) + 1 + 1 + j) < 30 by omega), tj, i0, z0 _ _ (by omega)]
          rfl
    · by_cases l1 : o2 ≤ N
      · exact (B.2.1 o2 a1 l1).up (by omega) (fun _ => rfl)
      · have t3 : 30 ≤ tg o2 := by
          by_cases l2 : o2 = (N : Int) + 1
          · subst l2; omega
          · obtain ⟨j, hj, rfl⟩ : ∃ j : Nat, j < n ∧ o2 = (N : Int) + 1 + 1 + j := ⟨(o2 - (N + 1 + 1)).toNat, by omega, by omega⟩
            have tj := hti j hj
            omega
        refine ⟨fun q => absurd q (by omega), fun _ i _ => ?_⟩
        rw [z0 _ _ (by omega)]
        exact ⟨inL0, fun _ => inR0⟩
  have h2 := h p e s m args below meth c H1 locs lsA C ⟨Nat.le_trans S.1 (by omega), fun q a1 a2 => (q1 q (Nat.lt_of_lt_of_le a1 S.1)).trans (S.2.1 q a1 a2), S.2.2⟩ hB2 (by omega) L
  rw [List.map_cons, conc_o (by omega), adr_n, ← sz] at h2
  exact h2
theorem c_init {M2 : MI} {ci idx n Nb mc2 ms2 c2 s2 : Nat} {o1 : Int} {As stk : List AV} {V2 : Ut} {P2 : Sg → Prop} (hw : okI M.1.cls idx M2 n) (hn : As.length = n) (hs : As.reverse ++ (10 + ci, o1) :: st = stk) (hcat : catS st ≤ 8) (hN : Nb = N + mc2) (hcs : cells + mc2 = c2 ∧ slots + ms2 = s2) (hc : c2 ≤ mc ∧ s2 ≤ ms) (hd : decode M.2.1 pc = .ok (.invokespecial idx, 3))
    (hM : Kc g d M2 ((10 + ci, o1) :: As) N Nb V V2 σ mc2 ms2 P2) (h : ∀ σ2, P2 σ2 → Wc g (d + 1) M U N2 P mc ms (pc + 3) ls st Nb V2 σ2 c2 s2) : Wc g (d + 1) M U N2 P mc ms pc ls stk N V σ cells slots := by
  obtain ⟨rfl, rfl⟩ := hcs
  subst hs
  intro p e s m args below meth c H locs lsA C S B hz L
  obtain ⟨c1, c2, c3, c4, c5, c6, c7, c8, c9, c10, c11, c12⟩ := id C
  obtain ⟨⟨w1, w2, w3, w4⟩, ⟨w5, w6, w7⟩, w8⟩ := hw
  have hG2 : GoodIn lwG (wsM M2) := good_app (a := []) (fun w hw => by cases hw) w4
  have hcw := cwI (R := rmC (d + 1) mc ms) (own := M.1.cls) (index := idx) (bytes := M2.2.1) (maxL := M2.2.2.1) (y := M2.1) (rm := rmC d mc2 ms2) (mc := mc2) (ms := ms2) (ws' := lwG) n c5 hG2 (by unfold wsM; rw [w6]) rfl rfl (c5 _ w3) (c5 _ w1) (c5 _ w2) w5 w7 ⟨Nat.le_refl _, by show 8 + (M2.2.2.1 + 11) + 40 * d ≤ 40 * (d + 1); omega⟩
  have hrun := va_runI (p := p) (l := gl g) (e := e) (R := rmC (d + 1) mc ms) (below := below) (meth := meth) (locs := locs) (cells := cells) (slots := slots) (b := adr g o1) (As := As.map (conc g)) (rest := st.map (conc g)) (g := F0 m pc lsA ((As.reverse ++ (10 + ci, o1) :: st).map (conc g))) (H := H)
    ⟨c1, c2, c3, c4, c5⟩ hM hcw
    ⟨Cp_blind _ _ _ _ _, fun U hU hW => ⟨by rw [List.map_cons, conc_o (by omega)], by rw [hU]; exact B, va_K.moved hW.alike c8, by rw [hU]; exact Sx.moved hW.alike (va_Nw.warmF hW) (c9.kept S.2.1), c10.warm hW⟩⟩
    rfl (by rw [List.length_map]; exact hn) L.1 (by
      show (As.reverse ++ (10 + ci, o1) :: st).map (conc g) = _
      rw [List.map_append, List.map_cons, List.map_reverse, conc_o (t := 10 + ci) (by omega)])
    (by rw [catS_c]; show 2 * 0 + _ ≤ 8; omega) hd hc
  intro T hT X
  obtain ⟨v, st0, t, T2, L2, h0, X2, hL, e1, e2, ⟨⟨hv, σ2, hp, hb2⟩, hF⟩, stp⟩ := hrun T hT X
  cases hv
  obtain ⟨t2, a1, b1⟩ := h σ2 hp p e s m args below meth c T2.heap (locs ++ L2) lsA C (S.call h0 e1 hF hL) (by rw [e1]; exact hb2) (by rw [e1]; have := hb2.1.1; have := B.1.1; omega) L T2 rfl X2
  exact ⟨t2, stp t2 a1, b1⟩
theorem c_initN {M2 : MI} {ci idx n Nb mc2 ms2 c2 s2 : Nat} {o1 : Int} {As stk : List AV} {V2 : Ut} {P2 : Sg → Prop} (hw : okN M.1.cls idx M2 n) (hn : As.length = n) (hs : As.reverse ++ (10 + ci, o1) :: st = stk) (hcat : catS st ≤ 8) (hN : Nb = N + mc2) (hcs : cells + mc2 = c2 ∧ slots + ms2 = s2) (hc : c2 ≤ mc ∧ s2 ≤ ms) (hd : decode M.2.1 pc = .ok (.invokespecial idx, 3))
    (hM : Kc g d M2 ((10 + ci, o1) :: As) N Nb V V2 σ mc2 ms2 P2) (h : ∀ σ2, P2 σ2 → Wc g (d + 1) M U N2 P mc ms (pc + 3) ls st Nb V2 σ2 c2 s2) : Wc g (d + 1) M U N2 P mc ms pc ls stk N V σ cells slots := by
  obtain ⟨rfl, rfl⟩ := hcs
  subst hs
  intro p e s m args below meth c H locs lsA C S B hz L
  obtain ⟨c1, c2, c3, c4, c5, c6, c7, c8, c9, c10, c11, c12⟩ := id C
  obtain ⟨⟨w1, w2, w3, w4⟩, ⟨w5, w6, w7⟩, w8⟩ := hw
  have hG2 : GoodIn lwG (wsM M2) := good_app (a := []) (fun w hw => by cases hw) w4
  have hcw := va_cnB (args := args) (R := rmC (d + 1) mc ms) (own := M.1.cls) (host := "StoneRaised") (index := idx) (bytes := M2.2.1) (maxL := M2.2.2.1) (y := M2.1) (ret := none) (rm := rmC d mc2 ms2) (mc := mc2) (ms := ms2) (ws' := lwG) n c5 hG2 (by unfold wsM; rw [w6]) rfl rfl (c10.2 _ w1) (c5 _ w3) w7 ⟨Nat.le_refl _, by show 8 + (M2.2.2.1 + 11) + 40 * d ≤ 40 * (d + 1); omega⟩
  have hrun := va_runIN (p := p) (l := gl g) (e := e) (R := rmC (d + 1) mc ms) (below := below) (meth := meth) (locs := locs) (cells := cells) (slots := slots) (b := adr g o1) (As := As.map (conc g)) (rest := st.map (conc g)) (g := F0 m pc lsA ((As.reverse ++ (10 + ci, o1) :: st).map (conc g))) (H := H)
    ⟨c1, c2, c3, c4, c5⟩ hM ⟨hcw, w5, c5 _ w2⟩
    ⟨Cp_blind _ _ _ _ _, fun U hU hW => ⟨by rw [List.map_cons, conc_o (by omega)], by rw [hU]; exact B, va_K.moved hW.alike c8, by rw [hU]; exact Sx.moved hW.alike (va_Nw.warmF hW) (c9.kept S.2.1), c10.warm hW⟩⟩
    rfl (by rw [List.length_map]; exact hn) L.1 (by
      show (As.reverse ++ (10 + ci, o1) :: st).map (conc g) = _
      rw [List.map_append, List.map_cons, List.map_reverse, conc_o (t := 10 + ci) (by omega)])
    (by rw [catS_c]; show 2 * 0 + _ ≤ 8; omega) hd hc
  intro T hT X
  obtain ⟨v, st0, t, T2, L2, h0, X2, hL, e1, e2, ⟨⟨hv, σ2, hp, hb2⟩, hF⟩, stp⟩ := hrun T hT X
  cases hv
  obtain ⟨t2, a1, b1⟩ := h σ2 hp p e s m args below meth c T2.heap (locs ++ L2) lsA C (S.call h0 e1 hF hL) (by rw [e1]; exact hb2) (by rw [e1]; have := hb2.1.1; have := B.1.1; omega) L T2 rfl X2
  exact ⟨t2, stp t2 a1, b1⟩
theorem c_call {M2 : MI} {ci idx n : Nat} {o1 : Int} {R : Int → Prop} {As stk : List AV} {V2 : Ut} {K : Int → Sg → Prop} (hci : ci < 12) (hw : okV M.1.cls idx (cNm ci) M2 n) (hr : M2.2.2.2 = none) (hn : As.length = n) (hs : As.reverse ++ (10 + ci, o1) :: st = stk) (hcat : catS st ≤ 8) (hc : cells ≤ mc ∧ slots ≤ ms) (ho : 1 ≤ o1 ∧ o1 ≤ N) (ht : tg o1 = 10 + ci) (hd : decode M.2.1 pc = .ok (.invokevirtual idx, 3))
    (hM : Kz g R d M2 ((10 + ci, o1) :: As) N V σ K) (hC : Cl (gR g R)) (hN : ∀ o, R o → 1 ≤ o ∧ o ≤ N) (hg : ∀ o, R o → gr g o) (hV : ∀ o, R o → ∀ k, V2 o k = false) (hVV : ∀ o, ¬ R o → V2 o = V o) (hK : ∀ r σ2, K r σ2 → ∀ o, ¬ R o → σ2 o = σ o)
    (h : ∀ r σ2, K r σ2 → Wc g (d + 1) M U N2 P mc ms (pc + 3) ls st N V2 σ2 cells slots) : Wc g (d + 1) M U N2 P mc ms pc ls stk N V σ cells slots := by
  subst hs
  intro p e s m args below meth c H locs lsA C S B hz L
  obtain ⟨c1, c2, c3, c4, c5, c6, c7, c8, c9, c10, c11, c12⟩ := id C
  obtain ⟨⟨w1, w2, w3, w4, w5⟩, w6, w7⟩ := hw
  have hG2 : GoodIn lwG (wsV M.1.cls idx (cNm ci) M2.1 (wsM M2)) := good_app (fun w hw => by
    simp only [List.mem_cons, List.not_mem_nil, or_false] at hw
    rcases hw with rfl | rfl | rfl | rfl
    · exact w1
    · exact w2
    · exact w3
    · exact w4) w5
  have hcw : CallW (rmC (d + 1) mc ms) s args M.1.cls (cNm ci) idx M2.1 M2.2.1 M2.2.2.1 M2.2.2.2 (wsM M2) (rmD d) 0 0 n :=
    cwV n c5 hG2 rfl rfl rfl w6 ⟨Nat.le_refl _, by show 8 + (M2.2.2.1 + 11) + 40 * d ≤ 40 * (d + 1); omega⟩
  obtain ⟨cell, q1, q2, q3, q4⟩ := B.1.ob hci ho ht
  obtain ⟨hS, hfc, kC, hkC, hkind⟩ := c8.1 ci _ (cl_at hci)
  have hrun := va_runV (p := p) (l := gl g) (e := e) (R := rmC (d + 1) mc ms) (below := below) (meth := meth) (locs := locs) (cells := cells) (slots := slots) (b := adr g o1) (As := As.map (conc g)) (rest := st.map (conc g)) (g := F0 m pc lsA ((As.reverse ++ (10 + ci, o1) :: st).map (conc g))) (H := H)
    ⟨c1, c2, c3, c4, c5⟩ hM hcw
    ⟨Cz_blind _ _ _ _ _, ⟨cell, q1, by rw [q3]; rfl, by rw [q2]; exact hfc⟩, fun U hU hW => ⟨by rw [List.map_cons, conc_o (by omega)], by rw [hU]; exact B, va_K.moved hW.alike c8, by rw [hU]; exact Sx.moved hW.alike (va_Nw.warmF hW) (c9.kept S.2.1)⟩⟩
    rfl (by rw [List.length_map]; exact hn) L.1 (by
      show (As.reverse ++ (10 + ci, o1) :: st).map (conc g) = _
      rw [List.map_append, List.map_cons, List.map_reverse, conc_o (t := 10 + ci) (by omega)])
    (by rw [catS_c]; show 2 * 0 + _ ≤ 8; omega) hd hc
  intro T hT X
  obtain ⟨v, st0, t, T2, L2, h0, X2, hL, e1, e2, ⟨⟨r, σ2, hv, hvr, hp, hRp⟩, hF⟩, stp⟩ := hrun T hT X
  rw [hr] at hv
  cases hv
  have ha : ∀ q, gAd (gR g R) q → gAd g q := fun q ⟨o, r, e⟩ => ⟨o, hg o r, e⟩
  have hF2 : va_F (gAd g) st0 t := ⟨hF.1, fun q a1 a2 => hF.2 q a1 (fun z => a2 (ha q z))⟩
  have zs : T2.heap.size = H.size := by
    have y1 := X2.heapSize
    have y2 := hF.1
    rw [h0] at y2
    rw [e1] at y1 ⊢
    omega
  have hb2 : B2 g N σ2 V2 T2.heap := B.back hC (by rw [e1]; exact hRp) zs (fun q a1 a2 => by rw [e1, hF.2 q (by rw [h0]; exact a1) a2, h0]) hN hV hVV (hK r σ2 hp)
  obtain ⟨t2, a1, b1⟩ := h r σ2 hp p e s m args below meth c T2.heap (locs ++ L2) lsA C (S.call h0 e1 hF2 (fun q hq => ha _ (hL q hq))) hb2 (zs.trans hz) L T2 rfl X2
  exact ⟨t2, stp t2 a1, b1⟩
end CCALL
