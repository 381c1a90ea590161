/-! a constructor's walk: N objects are made, the fields of V are not yet set -/
def zNl : List (String × Nat × MethodName) := [(RX12, 9, yX8_init), (RX9, 46, yX2_init), (RX12, 53, yX1_init), (RX12, 60, yX7_init), (RX12, 67, yX3_init)]
def zWx (U : State) : Prop := zAO U ∧ ∀ q ∈ zNl, va_Nw (.methodLinkNest q.1 q.2.1 q.2.2 "StoneRaised") U
theorem zWx.warm {s U : State} (hW : s.WarmedH U.vm) (h : zWx s) : zWx U := ⟨h.1.moved hW.alike, fun q hq => va_Nw.warmM hW (h.2 q hq)⟩
theorem zWx.same {u U : State} (e : u.vm = U.vm) (h : zWx u) : zWx U := ⟨h.1.moved (e ▸ Vm.Alike.refl u.vm), fun q hq => va_Nw.same rfl e (h.2 q hq)⟩
def Cq (g : GT) (N2 : Nat) (U : Ut) (P : Sg → Prop) : Array Value → State → Outcome → State → Prop := fun _ st oc t => (oc = .returned none ∧ ∃ σ2, P σ2 ∧ B2 g N2 σ2 U t.heap) ∧ va_F (gAd g) st t
def Cp (g : GT) (as : List AV) (N : Nat) (V : Ut) (σ : Sg) : Array Value → State → Prop := va_Pc (as.map (conc g)) (fun X => B2 g N σ V X.heap ∧ Kx g X ∧ Sx g X X.heap ∧ zWx X)
def Kc (g : GT) (d : Nat) (M : MI) (as : List AV) (N N2 : Nat) (V U : Ut) (σ : Sg) (mc ms : Nat) (P : Sg → Prop) : Prop := Met (gl g) M.1 (wsM M) (rmC d mc ms) (Cp g as N V σ) (Cq g N2 U P) mc ms (gAd g)
def Gf (g : GT) : Prop := ∀ o : Int, 1 ≤ o → o ≤ 141 → gr g o
def Cn (g : GT) (M : MI) (p : Program) (s : State) (m : MethodId) (args : Array Value) (meth : Method) (c : Code) : Prop :=
  p.tables.exec = Jvm.exec ∧ c.code = M.2.1 ∧ c.maxLocals = M.2.2.1 ∧ s.vm.findClass M.1.cls = some m.cls ∧ (∀ w ∈ lwG, w.before args s = true) ∧ meth.sig.returnType = none ∧ meth.locks = false ∧ Kx g s ∧ Sx g s s.heap ∧ zWx s ∧ meth.name = "<init>" ∧ Gf g
def Wc (g : GT) (d : Nat) (M : MI) (U : Ut) (N2 : Nat) (P : Sg → Prop) (mc ms pc : Nat) (ls st : List AV) (N : Nat) (V : Ut) (σ : Sg) (cells slots : Nat) : Prop :=
  ∀ (p : Program) (e : Env) (s : State) (m : MethodId) (args : Array Value) (below : List Frame) (meth : Method) (c : Code) (H : Heap) (locs : List Loc) (lsA : Array Slot),
    Cn g M p s m args meth c → va_S (gAd g) s.heap H locs → B2 g N σ V H → H.size = s.heap.size + cells → LH g lsA M.2.2.1 ls →
    W p (gl g) e (rmC d mc ms) s m args below meth c H locs cells slots (MQ below (Cq g N2 U P) args s mc ms (gAd g)) (F0 m pc lsA (st.map (conc g)))
theorem LH.ent {g : GT} {as ls : List AV} {n : Nat} (hn : (enL as).length ≤ n) (hl : entL as n = ls) : LH g ((lg_sl (as.map (conc g)) ++ List.replicate (n - (lg_sl (as.map (conc g))).length) Slot.unset).toArray) n ls := by
  have hlv := lv_entry (as.map (conc g)) (n := n) (by rw [enL_len]; exact hn)
  refine ⟨hlv.1, hlv.2.1, fun i t v hi ht => ?_⟩
  rw [← hl] at hi
  unfold entL at hi
  by_cases hlt : i < (enL as).length
  · rw [List.getElem?_append_left hlt] at hi
    have := enL_at g as 0 i (t, v) hi ht
    rw [Nat.zero_add] at this
    exact hlv.2.2 _ this
  · rw [List.getElem?_append_right (by omega)] at hi
    have := List.mem_of_getElem? hi
    rw [List.mem_replicate] at this
    exact absurd (congrArg Prod.fst this.2) ht
theorem Kc.of {g : GT} {d : Nat} {M : MI} {as ls : List AV} {N N2 : Nat} {V U : Ut} {σ : Sg} {mc ms : Nat} {P : Sg → Prop} (hG : Gf g) (hy : plainFor M.1 = true) (hr : M.2.2.2 = none) (hin : M.1.name = "<init>") (hn : (enL as).length ≤ M.2.2.1) (hl : entL as M.2.2.1 = ls)
    (h : Wc g d M U N2 P mc ms 0 ls [] N V σ 0 0) : Kc g d M as N N2 V U σ mc ms P := by
  unfold Kc
  refine va_MetF (cc := M.2.1) (maxL := M.2.2.1) (ret := M.2.2.2) hy rfl ?_
  intro p e s m a below meth c s₁ B hml hP
  obtain ⟨rfl, hB, hK, hX, hW⟩ := hP
  have hts := atoms_spec (ws := wsM M) B.pre
  have hcx : Cn g M p s m (as.map (conc g)).toArray meth c := ⟨B.exec, B.bytes, hml, findClass_of_methodNamed B.named, fun w hw => hts w (List.mem_cons_of_mem _ hw), B.returns.trans hr, B.notSynchronized, hK, hX, hW, (name_of_methodNamed B.named B.method).1.trans hin, hG⟩
  rw [lg_entry_eq]
  exact h p e s m _ below meth c s.heap [] _ hcx va_S.rf hB (Nat.add_zero _).symm (LH.ent hn hl)
theorem Cp_blind (g : GT) (as : List AV) (N : Nat) (V : Ut) (σ : Sg) : FrameBlind (Cp g as N V σ) := by
  intro a U f mk q
  obtain ⟨q1, q2, q3, q4, q5⟩ := q
  exact ⟨q1, q2, va_K.moved (u := U) (U := U.calling f mk a) (Vm.Alike.refl U.vm) q3, Sx.moved (u := U) (U := U.calling f mk a) (Vm.Alike.refl U.vm) (va_Nw.same (U := U.calling f mk a) rfl rfl) q4, zWx.same (u := U) (U := U.calling f mk a) rfl q5⟩
section CWALK
variable {g : GT} {d : Nat} {M : MI} {U V : Ut} {N2 N mc ms cells slots : Nat} {P : Sg → Prop} {pc : Nat} {ls st : List AV} {σ : Sg}
theorem c_aload_n {k : Fin 4} {t : Nat} {v : Int} (hd : decode M.2.1 pc = .ok (.aload_n k, 1)) (hl : ls[(k : Nat)]? = some (t, v)) (ht : isRf t = true) (h : Wc g d M U N2 P mc ms (pc + 1) ls ((t, v) :: st) N V σ cells slots) : Wc g d M U N2 P mc ms pc ls st N V σ cells slots := by
  intro p e s m args below meth c H locs lsA C S B hz L
  obtain ⟨a, ha⟩ := conc_rf (g := g) (v := v) ht
  have h1 := L.2.2 _ t v hl (isRf9 ht)
  have h2 := h p e s m args below meth c H locs lsA C S B hz L
  rw [List.map_cons, ha] at h2
  rw [ha] at h1
  exact lv_aload_n C.1 C.2.1 hd rfl h1 h2
theorem c_iload_n {k : Fin 4} {v : Int} (hd : decode M.2.1 pc = .ok (.iload_n k, 1)) (hl : ls[(k : Nat)]? = some (0, v)) (h : Wc g d M U N2 P mc ms (pc + 1) ls ((0, v) :: st) N V σ cells slots) : Wc g d M U N2 P mc ms pc ls st N V σ cells slots := by
  intro p e s m args below meth c H locs lsA C S B hz L
  exact lv_iload_n C.1 C.2.1 hd rfl (L.2.2 _ 0 v hl (by decide)) (h p e s m args below meth c H locs lsA C S B hz L)
theorem c_iconst {n : Int} (hd : decode M.2.1 pc = .ok (.iconst n, 1)) (h : Wc g d M U N2 P mc ms (pc + 1) ls ((0, n) :: st) N V σ cells slots) : Wc g d M U N2 P mc ms pc ls st N V σ cells slots := by
  intro p e s m args below meth c H locs lsA C S B hz L
  exact lv_iconst (v := i3 n) C.1 C.2.1 hd rfl (h p e s m args below meth c H locs lsA C S B hz L)
theorem c_bipush {n : Int} (hd : decode M.2.1 pc = .ok (.bipush n, 2)) (hv : (Int8.ofInt n).toInt32 = Int32.ofInt n) (h : Wc g d M U N2 P mc ms (pc + 2) ls ((0, n) :: st) N V σ cells slots) : Wc g d M U N2 P mc ms pc ls st N V σ cells slots := by
  intro p e s m args below meth c H locs lsA C S B hz L
  exact lv_bipush (v := i3 n) C.1 C.2.1 hd hv (h p e s m args below meth c H locs lsA C S B hz L)
theorem c_sipush {n : Int} (hd : decode M.2.1 pc = .ok (.sipush n, 3)) (hv : (Int16.ofInt n).toInt32 = Int32.ofInt n) (h : Wc g d M U N2 P mc ms (pc + 3) ls ((0, n) :: st) N V σ cells slots) : Wc g d M U N2 P mc ms pc ls st N V σ cells slots := by
  intro p e s m args below meth c H locs lsA C S B hz L
  exact lv_sipush (v := i3 n) C.1 C.2.1 hd hv (h p e s m args below meth c H locs lsA C S B hz L)
theorem c_lconst {n : Fin 2} {v : Int} (hd : decode M.2.1 pc = .ok (.lconst n, 1)) (hv : Int64.ofNat (n : Nat) = Int64.ofInt v) (h : Wc g d M U N2 P mc ms (pc + 1) ls ((2, v) :: st) N V σ cells slots) : Wc g d M U N2 P mc ms pc ls st N V σ cells slots := by
  intro p e s m args below meth c H locs lsA C S B hz L
  exact lv_lconst (v := i6 v) C.1 C.2.1 hd hv (h p e s m args below meth c H locs lsA C S B hz L)
theorem c_dup {x : AV} (hd : decode M.2.1 pc = .ok (.dup, 1)) (hx : x.1 ≠ 2) (h : Wc g d M U N2 P mc ms (pc + 1) ls (x :: x :: st) N V σ cells slots) : Wc g d M U N2 P mc ms pc ls (x :: st) N V σ cells slots := by
  intro p e s m args below meth c H locs lsA C S B hz L
  exact lv_dup C.1 C.2.1 hd (conc_cat hx) (h p e s m args below meth c H locs lsA C S B hz L)
theorem c_istore_n {k : Fin 4} {v : Int} {ls2 : List AV} (hd : decode M.2.1 pc = .ok (.istore_n k, 1)) (hn : (k : Nat) < M.2.2.1) (hl : stI ls (k : Nat) (0, v) = ls2) (h : Wc g d M U N2 P mc ms (pc + 1) ls2 st N V σ cells slots) : Wc g d M U N2 P mc ms pc ls ((0, v) :: st) N V σ cells slots := by
  intro p e s m args below meth c H locs lsA C S B hz L
  subst hl
  exact lv_istore_n C.1 C.2.1 hd rfl L.has hn rfl (fun lsB hB => h p e s m args below meth c H locs lsB C S B hz (LH.stI (x := (0, v)) rfl hB))
theorem c_iinc {k : Nat} {n v : Int} {ls2 : List AV} (hd : decode M.2.1 pc = .ok (.iinc k n, 3)) (hv : ls[k]? = some (0, v)) (hn : k < M.2.2.1) (hl : stI ls k (0, w32 (v + n)) = ls2) (h : Wc g d M U N2 P mc ms (pc + 3) ls2 st N V σ cells slots) : Wc g d M U N2 P mc ms pc ls st N V σ cells slots := by
  intro p e s m args below meth c H locs lsA C S B hz L
  subst hl
  have hm : (k, Value.int (i3 v)) ∈ asc g 0 ls := (asc_mem g ls 0 k _).mpr ⟨k, (0, v), by omega, hv, (show (0 : Nat) ≠ 9 by decide), rfl⟩
  obtain ⟨kk, hkk⟩ := List.getElem?_of_mem hm
  refine lv_iinc C.1 C.2.1 hd L.has hkk (v := i3 (w32 (v + n))) ?_ hn rfl (fun lsB hB => h p e s m args below meth c H locs lsB C S B hz (LH.stI (x := (0, w32 (v + n))) rfl hB))
  exact i3_add v n
theorem c_goto {off : Int} {tgt : Nat} (hd : decode M.2.1 pc = .ok (.goto off, 3)) (ht : (pc : Int) + off = (tgt : Int)) (h : Wc g d M U N2 P mc ms tgt ls st N V σ cells slots) : Wc g d M U N2 P mc ms pc ls st N V σ cells slots := by
  intro p e s m args below meth c H locs lsA C S B hz L
  exact lv_goto C.1 C.2.1 hd ht (h p e s m args below meth c H locs lsA C S B hz L)
theorem c_ge_t {a b off : Int} {tgt : Nat} (hd : decode M.2.1 pc = .ok (.if_icmp .ge off, 3)) (ht : (pc : Int) + off = (tgt : Int)) (ha : inR a) (hb : inR b) (hab : b ≤ a) (h : Wc g d M U N2 P mc ms tgt ls st N V σ cells slots) : Wc g d M U N2 P mc ms pc ls ((0, b) :: (0, a) :: st) N V σ cells slots := by
  intro p e s m args below meth c H locs lsA C S B hz L
  exact lv_icmp_ge C.1 C.2.1 hd ht (fun _ => h p e s m args below meth c H locs lsA C S B hz L) (fun q => absurd ((i3_le hb ha).mpr hab) q)
theorem c_ge_f {a b off : Int} {tgt : Nat} (hd : decode M.2.1 pc = .ok (.if_icmp .ge off, 3)) (ht : (pc : Int) + off = (tgt : Int)) (ha : inR a) (hb : inR b) (hab : ¬ b ≤ a) (h : Wc g d M U N2 P mc ms (pc + 3) ls st N V σ cells slots) : Wc g d M U N2 P mc ms pc ls ((0, b) :: (0, a) :: st) N V σ cells slots := by
  intro p e s m args below meth c H locs lsA C S B hz L
  exact lv_icmp_ge C.1 C.2.1 hd ht (fun q => absurd ((i3_le hb ha).mp q) hab) (fun _ => h p e s m args below meth c H locs lsA C S B hz L)
theorem c_getsE {i idx : Nat} {v : Int} (hi : i < 32) (hv : v = (i : Int)) (hw : Cond.fieldLink M.1.cls idx RX10 (enN.getD i "") "LStoneRaised$Word;" ∈ lwG) (hd : decode M.2.1 pc = .ok (.getstatic idx, 3)) (h : Wc g d M U N2 P mc ms (pc + 3) ls ((3, v) :: st) N V σ cells slots) : Wc g d M U N2 P mc ms pc ls st N V σ cells slots := by
  subst hv
  intro p e s m args below meth c H locs lsA C S B hz L
  obtain ⟨c1, c2, c3, c4, c5, c6, c7, c8, c9, c10⟩ := id C
  exact va_gets c1 c2 ((c9.1.1 i (by show i < 32; exact hi)).1) S c4 (c5 _ hw) (fun _ q => q) hd (h p e s m args below meth c H locs lsA C S B hz L)
theorem c_objI {idx t : Nat} {o : Int} (hw : Cond.methodLink M.1.cls idx Lib.objectInit ∈ lwG ∧ Cond.instanceMethod Lib.objectInit ∈ lwG ∧ Cond.code Lib.objectInit ⟨#[0xb1]⟩ 1 none ∈ lwG) (ht : isRf t = true) (hcat : catS st ≤ 8) (hd : decode M.2.1 pc = .ok (.invokespecial idx, 3))
    (h : Wc g (d + 1) M U N2 P mc ms (pc + 3) ls st N V σ cells slots) : Wc g (d + 1) M U N2 P mc ms pc ls ((t, o) :: st) N V σ cells slots := by
  intro p e s m args below meth c H locs lsA C S B hz L
  obtain ⟨c1, c2, c3, c4, c5, c6, c7, c8, c9, c10⟩ := id C
  obtain ⟨a, ha⟩ := conc_rf (g := g) (v := o) ht
  rw [List.map_cons, ha]
  exact W.objInit c1 c2 c4 (c5 _ hw.1) (c5 _ hw.2.1) (c5 _ hw.2.2) rfl (L.1.trans c3.symm) rfl hd (by show 1 ≤ d + 1; omega) (by rw [catS_c]; show 2 * 0 + catS st + 12 ≤ 40 * (d + 1); omega) (h p e s m args below meth c H locs lsA C S B hz L)
theorem c_ret (hd : decode M.2.1 pc = .ok (.return_, 1)) (hP : P σ) : Wc g d M V N P cells slots pc ls [] N V σ cells slots := by
  intro p e s m args below meth c H locs lsA C S B hz L
  have hl : meth.locks = false := C.2.2.2.2.2.2.1
  exact W.vret C.1 C.2.1 C.2.2.2.2.2.1 (fun t ht _ => ⟨⟨rfl, σ, hP, by rw [ht]; exact B⟩, S.F ht⟩) (fun q hq => S.2.2 q hq) hd hl
theorem c_done {ci : Nat} {o0 : Int} {L : List Nat} (hV : ∀ o k, V o k = true → o < o0) (ht : tg o0 = 10 + ci) (hL : ∀ k, k < nF ci → 3 ≤ fkT ci k → L.contains k = true) (h : Wc g d M U N2 P mc ms pc ls st N V σ cells slots) : Wc g d M U N2 P mc ms pc ls st N (zUn V o0 L) σ cells slots := by
  intro p e s m args below meth c H locs lsA C S B hz L2
  exact h p e s m args below meth c H locs lsA C S (B.done hV ht hL) hz L2
theorem c_new {ci idx N' c2 s2 : Nat} {o : Int} (hN : N + 1 = N') (hcs : cells + 1 = c2 ∧ slots + nF ci = s2) (hci : ci < 12) (hw : Cond.classLink M.1.cls idx (cNm ci) ∈ lwG ∧ Cond.instantiable (cNm ci) (nF ci) ∈ lwG ∧ Cond.initialized (cNm ci) ∈ lwG) (ho : (N : Int) + 1 = o) (ht : tg o = 10 + ci) (hD : okD ci) (hc : c2 ≤ mc ∧ s2 ≤ ms) (hd : decode M.2.1 pc = .ok (.new idx, 3))
    (h : Wc g d M U N2 P mc ms (pc + 3) ls ((10 + ci, o) :: st) N' (zUn V o []) σ c2 s2) : Wc g d M U N2 P mc ms pc ls st N V σ cells slots := by
  obtain ⟨rfl, rfl⟩ := hcs
  subst hN
  subst ho
  intro p e s m args below meth c H locs lsA C S B hz L
  obtain ⟨c1, c2, c3, c4, c5, c6, c7, c8, c9, c10⟩ := id C
  refine k_new hci c1 c2 c5 c4 c8 B.1 S ht hw hc.1 hc.2 hd (fun H1 hB1 hS1 => ?_)
  have h2 := h p e s m args below meth c H1 locs lsA C hS1 (B2.obj hB1 B.2 ht hci hD) (by have := hB1.1; have := B.1.1; omega) L
  rw [List.map_cons, conc_o (by omega)] at h2
  exact h2
theorem c_newa {atype : ArrayType} {ty : FieldType} {t i n N' c2 s2 : Nat} {z o : Int} (hN : N + 1 = N') (hcs : cells + 1 = c2 ∧ slots + n = s2) (hw : Cond.arrayClass ty ∈ lwG) (hty : newarray.typeOf atype = ty) (hi : (gty g)[i]? = some (gA g (aE t), ty)) (hp : ∀ C, ty ≠ .object C) (hv : ∀ (o : Int) (k : Nat), eV g o t k 0 = defaultValue ty) (hn : aN t = n) (hzn : z = (n : Int)) (hn1 : n ≤ 100000) (hby : n * componentBytes ty ≤ 536870912) (ho : (N : Int) + 1 = o) (ht : tg o = t) (t30 : 30 ≤ t) (hc : c2 ≤ mc ∧ s2 ≤ ms) (hd : decode M.2.1 pc = .ok (.newarray atype, 2))
    (h : Wc g d M U N2 P mc ms (pc + 2) ls ((t, o) :: st) N' V σ c2 s2) : Wc g d M U N2 P mc ms pc ls ((0, z) :: st) N V σ cells slots := by
  obtain ⟨rfl, rfl⟩ := hcs
  subst hN
  subst ho
  intro p e s m args below meth c H locs lsA C S B hz L
  obtain ⟨c1, c2, c3, c4, c5, c6, c7, c8, c9, c10⟩ := id C
  have hx : ¬ i3 z < 0 := fun q => by have := (i3_lt (by unfold inR; omega) inR0).mp (show i3 z < i3 0 from q); omega
  refine k_newa (x := i3 z) c1 c2 c5 c8 B.1 S hw hty hi hp ht t30 hn hx (i3_clamp hzn (by omega)) hby hc.1 hc.2 hd (fun H1 hB1 hS1 => ?_)
  have h2 := h p e s m args below meth c H1 locs lsA C hS1 (B2.arr hB1 B.2 ht t30 hv) (by have := hB1.1; have := B.1.1; omega) L
  rw [List.map_cons, conc_o (by omega)] at h2
  exact h2
theorem c_newI {t n N' c2 s2 : Nat} {z o : Int} (hN : N + 1 = N') (hcs : cells + 1 = c2 ∧ slots + n = s2) (hE : (aE t, aN t) = (0, n)) (hzn : z = (n : Int)) (hn1 : n ≤ 100000) (ho : (N : Int) + 1 = o) (ht : tg o = t) (t30 : 30 ≤ t) (hc : c2 ≤ mc ∧ s2 ≤ ms) (hd : decode M.2.1 pc = .ok (.newarray .int, 2))
    (h : Wc g d M U N2 P mc ms (pc + 2) ls ((t, o) :: st) N' V σ c2 s2) : Wc g d M U N2 P mc ms pc ls ((0, z) :: st) N V σ cells slots := by
  have e1 : aE t = 0 := congrArg Prod.fst hE
  refine c_newa (ty := .int) (i := 0) hN hcs (lwc_1 73 (by decide +kernel) (by decide +kernel)) rfl (by rw [e1]; rfl) (fun C q => by cases q) (fun o k => by unfold eV; rw [e1]; rfl) (congrArg Prod.snd hE) hzn hn1 (by show n * 4 ≤ _; omega) ho ht t30 hc hd h
theorem c_newJ {t n N' c2 s2 : Nat} {z o : Int} (hN : N + 1 = N') (hcs : cells + 1 = c2 ∧ slots + n = s2) (hE : (aE t, aN t) = (2, n)) (hzn : z = (n : Int)) (hn1 : n ≤ 100000) (ho : (N : Int) + 1 = o) (ht : tg o = t) (t30 : 30 ≤ t) (hc : c2 ≤ mc ∧ s2 ≤ ms) (hd : decode M.2.1 pc = .ok (.newarray .long, 2))
    (h : Wc g d M U N2 P mc ms (pc + 2) ls ((t, o) :: st) N' V σ c2 s2) : Wc g d M U N2 P mc ms pc ls ((0, z) :: st) N V σ cells slots := by
  have e1 : aE t = 2 := congrArg Prod.fst hE
  refine c_newa (ty := .long) (i := 2) hN hcs (lwc_7 11 (by decide +kernel) (by decide +kernel)) rfl (by rw [e1]; rfl) (fun C q => by cases q) (fun o k => by unfold eV; rw [e1]; rfl) (congrArg Prod.snd hE) hzn hn1 (by show n * 8 ≤ _; omega) ho ht t30 hc hd h
theorem c_newB {t n N' c2 s2 : Nat} {z o : Int} (hN : N + 1 = N') (hcs : cells + 1 = c2 ∧ slots + n = s2) (hE : (aE t, aN t) = (6, n)) (hzn : z = (n : Int)) (hn1 : n ≤ 100000) (ho : (N : Int) + 1 = o) (ht : tg o = t) (t30 : 30 ≤ t) (hc : c2 ≤ mc ∧ s2 ≤ ms) (hd : decode M.2.1 pc = .ok (.newarray .byte, 2))
    (h : Wc g d M U N2 P mc ms (pc + 2) ls ((t, o) :: st) N' V σ c2 s2) : Wc g d M U N2 P mc ms pc ls ((0, z) :: st) N V σ cells slots := by
  have e1 : aE t = 6 := congrArg Prod.fst hE
  refine c_newa (ty := .byte) (i := 3) hN hcs (lwc_1 45 (by decide +kernel) (by decide +kernel)) rfl (by rw [e1]; rfl) (fun C q => by cases q) (fun o k => by unfold eV; rw [e1]; rfl) (congrArg Prod.snd hE) hzn hn1 (by show n * 1 ≤ _; omega) ho ht t30 hc hd h
theorem c_newZ {t n N' c2 s2 : Nat} {z o : Int} (hN : N + 1 = N') (hcs : cells + 1 = c2 ∧ slots + n = s2) (hE : (aE t, aN t) = (1, n)) (hzn : z = (n : Int)) (hn1 : n ≤ 100000) (ho : (N : Int) + 1 = o) (ht : tg o = t) (t30 : 30 ≤ t) (hc : c2 ≤ mc ∧ s2 ≤ ms) (hd : decode M.2.1 pc = .ok (.newarray .boolean, 2))
    (h : Wc g d M U N2 P mc ms (pc + 2) ls ((t, o) :: st) N' V σ c2 s2) : Wc g d M U N2 P mc ms pc ls ((0, z) :: st) N V σ cells slots := by
  have e1 : aE t = 1 := congrArg Prod.fst hE
  refine c_newa (ty := .boolean) (i := 1) hN hcs (lwc_7 12 (by decide +kernel) (by decide +kernel)) rfl (by rw [e1]; rfl) (fun C q => by cases q) (fun o k => by unfold eV; rw [e1]; rfl) (congrArg Prod.snd hE) hzn hn1 (by show n * 1 ≤ _; omega) ho ht t30 hc hd h
theorem c_getf {ci k idx t : Nat} {o v : Int} (hci : ci < 12) (hk : k < nF ci) (hw : Cond.fieldLink M.1.cls idx (cT ci k).1 (cT ci k).2.1 (cT ci k).2.2.1 ∈ lwG) (hft : fkT ci k = t) (hv : fW σ o ci k = v) (ho : 1 ≤ o ∧ o ≤ N) (ht : tg o = 10 + ci) (hV : V o k = false) (hd : decode M.2.1 pc = .ok (.getfield idx, 3))
    (h : Wc g d M U N2 P mc ms (pc + 3) ls ((t, v) :: st) N V σ cells slots) : Wc g d M U N2 P mc ms pc ls ((10 + ci, o) :: st) N V σ cells slots := by
  subst hft
  subst hv
  intro p e s m args below meth c H locs lsA C S B hz L
  obtain ⟨c1, c2, c3, c4, c5, c6, c7, c8, c9, c10⟩ := id C
  rw [List.map_cons, conc_o (t := 10 + ci) (by omega)]
  have hZ : zZ g σ V o k = conc g (fkT ci k, fW σ o ci k) := by
    rw [zZ_set hV]
    unfold zV
    rw [if_pos (by omega), show tg o - 10 = ci by omega]
  exact k_get hci hk c1 c2 c5 c4 c8 B.1 ho ht hZ hw hd (h p e s m args below meth c H locs lsA C S B hz L)
theorem c_putO {ci k idx t : Nat} {o v off : Int} {L : List Nat} (hci : ci < 12) (hk : k < nF ci) (hw : Cond.fieldLink M.1.cls idx (cT ci k).1 (cT ci k).2.1 (cT ci k).2.2.1 ∈ lwG) (hfin : (cT ci k).2.2.2 = true) (hdecl : (cT ci k).1 = M.1.cls) (hfo : fkO ci k = some off) (hv : v = o + off) (hft : fkT ci k = t) (t10 : 10 ≤ t) (hn : ∀ a : Nat, narrow (cTy ci k) (.ref a) = .ref a) (hf : ∀ a : Nat, fits (cTy ci k) (.ref a) = true) (ho : 1 ≤ o ∧ o ≤ N) (hm : o ≤ 141) (ht : tg o = 10 + ci) (hd : decode M.2.1 pc = .ok (.putfield idx, 3))
    (h : Wc g d M U N2 P mc ms (pc + 3) ls st N (zUn V o (k :: L)) σ cells slots) : Wc g d M U N2 P mc ms pc ls ((t, v) :: (10 + ci, o) :: st) N (zUn V o L) σ cells slots := by
  subst hft
  intro p e s m args below meth c H locs lsA C S B hz L2
  obtain ⟨c1, c2, c3, c4, c5, c6, c7, c8, c9, c10, c11, c12⟩ := id C
  rw [List.map_cons, List.map_cons, conc_o (t := 10 + ci) (by omega)]
  have ec : conc g (fkT ci k, v) = .ref (adr g v) := conc_o t10
  refine k_putF hci hk c1 c2 c5 c4 c8 B.1 S ho ht ⟨o, c12 o ho.1 hm, rfl⟩ hw hfin c11 hdecl (by rw [ec]; exact hn _) (by rw [ec]; exact hf _) hd (fun H1 locs1 hB1 hS1 => ?_)
  exact h p e s m args below meth c H1 locs1 lsA C hS1 (B2.set hB1 B.2 ho ht hci (fun k2 => by by_cases e : k2 = k <;> simp [e, hfo]) (fun f q => by rw [hfo] at q; cases q; exact hv) (fun q => by rw [hfo] at q; cases q) (fun _ _ => rfl)) (by have := hB1.1; have := B.1.1; omega) L2
theorem c_putN {ci k idx t : Nat} {o v : Int} {L : List Nat} {σ2 : Sg} (hci : ci < 12) (hk : k < nF ci) (hw : Cond.fieldLink M.1.cls idx (cT ci k).1 (cT ci k).2.1 (cT ci k).2.2.1 ∈ lwG) (hfin : (cT ci k).2.2.2 = false) (hfo : fkO ci k = none) (hft : fkT ci k = t) (hvl : vld (zGN g N) (t, v)) (hn : narrow (cTy ci k) (conc g (t, v)) = conc g (t, v)) (hf : fits (cTy ci k) (conc g (t, v)) = true) (hs : (∀ k2 : Int, σ2 o k2 = if k2 = k then v else σ o k2) ∧ ∀ o2, o2 ≠ o → σ2 o2 = σ o2) (ho : 1 ≤ o ∧ o ≤ N) (hm : o ≤ 141) (ht : tg o = 10 + ci) (hd : decode M.2.1 pc = .ok (.putfield idx, 3))
    (h : Wc g d M U N2 P mc ms (pc + 3) ls st N (zUn V o (k :: L)) σ2 cells slots) : Wc g d M U N2 P mc ms pc ls ((t, v) :: (10 + ci, o) :: st) N (zUn V o L) σ cells slots := by
  subst hft
  intro p e s m args below meth c H locs lsA C S B hz L2
  obtain ⟨c1, c2, c3, c4, c5, c6, c7, c8, c9, c10, c11, c12⟩ := id C
  rw [List.map_cons, List.map_cons, conc_o (t := 10 + ci) (by omega)]
  refine k_put hci hk c1 c2 c5 c4 c8 B.1 S ho ht ⟨o, c12 o ho.1 hm, rfl⟩ hw hfin hn hf hd (fun H1 locs1 hB1 hS1 => ?_)
  exact h p e s m args below meth c H1 locs1 lsA C hS1 (B2.set hB1 B.2 ho ht hci (fun k2 => by rw [hs.1 k2, hfo]; exact (if e : k2 = k then by subst e; rw [if_pos rfl, if_pos rfl] else by rw [if_neg (fun q => e (by omega)), if_neg e])) (fun f q => by rw [hfo] at q; cases q) (fun _ => hvl) hs.2) (by have := hB1.1; have := B.1.1; omega) L2
theorem zS_up {σ : Sg} {o v : Int} {k : Nat} : (∀ k2 : Int, ups σ o k v o k2 = if k2 = k then v else σ o k2) ∧ ∀ o2, o2 ≠ o → ups σ o k v o2 = σ o2 := ⟨fun k2 => by unfold ups; by_cases e : k2 = k <;> simp [e], fun o2 e => ups_at _ e⟩
theorem zS_same {σ : Sg} {o v : Int} {k : Nat} (h : σ o k = v) : (∀ k2 : Int, σ o k2 = if k2 = k then v else σ o k2) ∧ ∀ o2, o2 ≠ o → σ o2 = σ o2 := ⟨fun k2 => by by_cases e : k2 = k <;> simp [e, h], fun _ _ => rfl⟩
end CWALK
