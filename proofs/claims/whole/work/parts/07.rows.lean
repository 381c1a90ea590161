/-! rows of the abstract machine: locals, stack, numbers, branches (wip/gen/grows.py) -/
section ROWS
variable {g : GT} {d : Nat} {M : MI} {Q : Int → Sg → Prop} {pc : Nat} {ls st : List AV} {σ : Sg}
theorem vcons {g : GT} {x : AV} {st : List AV} (hx : vld g x) (h : ∀ y ∈ st, vld g y) : ∀ y ∈ x :: st, vld g y := fun y hy => (List.mem_cons.mp hy).elim (fun e => e ▸ hx) (h y)
theorem inR0 : inR 0 := by unfold inR; omega
theorem inL0 : inL 0 := by unfold inL; omega
theorem vtl {g : GT} {x : AV} {st : List AV} (h : ∀ y ∈ x :: st, vld g y) : ∀ y ∈ st, vld g y := fun y hy => h y (List.mem_cons_of_mem _ hy)
theorem vhd {g : GT} {x : AV} {st : List AV} (h : ∀ y ∈ x :: st, vld g y) : vld g x := h x List.mem_cons_self
theorem r_iconst {n : Int} (hd : decode M.2.1 pc = .ok (.iconst n, 1)) (hn : -2147483648 ≤ n ∧ n ≤ 2147483647) (h : Wp g d M Q (pc + 1) ls ((0, n) :: st) σ) : Wp g d M Q (pc) ls (st) σ := by
  intro p e s m args below meth c H locs lsA C S R L vl vs
  exact lv_iconst (v := i3 n) C.1 C.2.1 hd rfl (h p e s m args below meth c H locs lsA C S R L vl (vcons (x := (0, n)) hn vs))
theorem r_bipush {n : Int} (hd : decode M.2.1 pc = .ok (.bipush n, 2)) (hn : -2147483648 ≤ n ∧ n ≤ 2147483647) (hv : (Int8.ofInt n).toInt32 = Int32.ofInt n) (h : Wp g d M Q (pc + 2) ls ((0, n) :: st) σ) : Wp g d M Q (pc) ls (st) σ := by
  intro p e s m args below meth c H locs lsA C S R L vl vs
  exact lv_bipush (v := i3 n) C.1 C.2.1 hd hv (h p e s m args below meth c H locs lsA C S R L vl (vcons (x := (0, n)) hn vs))
theorem r_sipush {n : Int} (hd : decode M.2.1 pc = .ok (.sipush n, 3)) (hn : -2147483648 ≤ n ∧ n ≤ 2147483647) (hv : (Int16.ofInt n).toInt32 = Int32.ofInt n) (h : Wp g d M Q (pc + 3) ls ((0, n) :: st) σ) : Wp g d M Q (pc) ls (st) σ := by
  intro p e s m args below meth c H locs lsA C S R L vl vs
  exact lv_sipush (v := i3 n) C.1 C.2.1 hd hv (h p e s m args below meth c H locs lsA C S R L vl (vcons (x := (0, n)) hn vs))
theorem r_lconst {n : Fin 2} {v : Int} (hd : decode M.2.1 pc = .ok (.lconst n, 1)) (hv : Int64.ofNat (n : Nat) = Int64.ofInt v) (hn : -9223372036854775808 ≤ v ∧ v ≤ 9223372036854775807) (h : Wp g d M Q (pc + 1) ls ((2, v) :: st) σ) : Wp g d M Q (pc) ls (st) σ := by
  intro p e s m args below meth c H locs lsA C S R L vl vs
  exact lv_lconst (v := i6 v) C.1 C.2.1 hd hv (h p e s m args below meth c H locs lsA C S R L vl (vcons (x := (2, v)) hn vs))
theorem r_ldc2 {idx : Nat} {v : Int} (hd : decode M.2.1 pc = .ok (.ldc2_w idx, 3)) (hw : Cond.constantLong M.1.cls idx (Int64.ofInt v) ∈ lwG) (hn : -9223372036854775808 ≤ v ∧ v ≤ 9223372036854775807) (h : Wp g d M Q (pc + 3) ls ((2, v) :: st) σ) : Wp g d M Q (pc) ls (st) σ := by
  intro p e s m args below meth c H locs lsA C S R L vl vs
  exact lv_ldc2 (v := i6 v) C.1 C.2.1 C.2.2.2.1 (C.2.2.2.2.1 _ hw) hd (h p e s m args below meth c H locs lsA C S R L vl (vcons (x := (2, v)) hn vs))
theorem r_ldc {idx : Nat} {v : Int} (hd : decode M.2.1 pc = .ok (.ldc idx, 2)) (hw : Cond.constant M.1.cls idx (Int32.ofInt v) ∈ lwG) (hn : -2147483648 ≤ v ∧ v ≤ 2147483647) (h : Wp g d M Q (pc + 2) ls ((0, v) :: st) σ) : Wp g d M Q (pc) ls (st) σ := by
  intro p e s m args below meth c H locs lsA C S R L vl vs
  exact lv_ldc (v := i3 v) C.1 C.2.1 C.2.2.2.1 (C.2.2.2.2.1 _ hw) hd (h p e s m args below meth c H locs lsA C S R L vl (vcons (x := (0, v)) hn vs))
theorem r_ldcw {idx : Nat} {v : Int} (hd : decode M.2.1 pc = .ok (.ldc_w idx, 3)) (hw : Cond.constant M.1.cls idx (Int32.ofInt v) ∈ lwG) (hn : -2147483648 ≤ v ∧ v ≤ 2147483647) (h : Wp g d M Q (pc + 3) ls ((0, v) :: st) σ) : Wp g d M Q (pc) ls (st) σ := by
  intro p e s m args below meth c H locs lsA C S R L vl vs
  exact lv_ldcw (v := i3 v) C.1 C.2.1 C.2.2.2.1 (C.2.2.2.2.1 _ hw) hd (h p e s m args below meth c H locs lsA C S R L vl (vcons (x := (0, v)) hn vs))
theorem vat {g : GT} {ls : List AV} {i : Nat} {x : AV} (h : ∀ y ∈ ls, vld g y) (hi : ls[i]? = some x) : vld g x := h x (List.mem_of_getElem? hi)
theorem r_iload_n {k : Fin 4} {v : Int} (hd : decode M.2.1 pc = .ok (.iload_n k, 1)) (hl : ls[(k : Nat)]? = some (0, v)) (h : Wp g d M Q (pc + 1) ls ((0, v) :: st) σ) : Wp g d M Q (pc) ls (st) σ := by
  intro p e s m args below meth c H locs lsA C S R L vl vs
  exact lv_iload_n C.1 C.2.1 hd rfl (L.2.2 _ 0 v hl (by decide)) (h p e s m args below meth c H locs lsA C S R L vl (vcons (vat vl hl) vs))
theorem r_iload {k : Nat} {v : Int} (hd : decode M.2.1 pc = .ok (.iload k, 2)) (hl : ls[k]? = some (0, v)) (h : Wp g d M Q (pc + 2) ls ((0, v) :: st) σ) : Wp g d M Q (pc) ls (st) σ := by
  intro p e s m args below meth c H locs lsA C S R L vl vs
  exact lv_iload C.1 C.2.1 hd (L.2.2 _ 0 v hl (by decide)) (h p e s m args below meth c H locs lsA C S R L vl (vcons (vat vl hl) vs))
theorem r_lload_n {k : Fin 4} {v : Int} (hd : decode M.2.1 pc = .ok (.lload_n k, 1)) (hl : ls[(k : Nat)]? = some (2, v)) (h : Wp g d M Q (pc + 1) ls ((2, v) :: st) σ) : Wp g d M Q (pc) ls (st) σ := by
  intro p e s m args below meth c H locs lsA C S R L vl vs
  exact lv_lload_n C.1 C.2.1 hd rfl (L.2.2 _ 2 v hl (by decide)) (h p e s m args below meth c H locs lsA C S R L vl (vcons (vat vl hl) vs))
theorem r_lload {k : Nat} {v : Int} (hd : decode M.2.1 pc = .ok (.lload k, 2)) (hl : ls[k]? = some (2, v)) (h : Wp g d M Q (pc + 2) ls ((2, v) :: st) σ) : Wp g d M Q (pc) ls (st) σ := by
  intro p e s m args below meth c H locs lsA C S R L vl vs
  exact lv_lload C.1 C.2.1 hd (L.2.2 _ 2 v hl (by decide)) (h p e s m args below meth c H locs lsA C S R L vl (vcons (vat vl hl) vs))
def isRf (t : Nat) : Bool := !(t == 0 || t == 2 || t == 9)
theorem conc_rf {g : GT} {t : Nat} {v : Int} (h : isRf t = true) : ∃ a : Nat, conc g (t, v) = .ref a := by
  unfold conc
  split
  next e => simp only at e; subst e; cases h
  next e => simp only at e; subst e; cases h
  all_goals exact ⟨_, rfl⟩
theorem isRf9 {t : Nat} (h : isRf t = true) : t ≠ 9 := fun e => by subst e; cases h
theorem isRf2 {t : Nat} (h : isRf t = true) : t ≠ 2 := fun e => by subst e; cases h
theorem r_aload_n {k : Fin 4} {t : Nat} {v : Int} (hd : decode M.2.1 pc = .ok (.aload_n k, 1)) (hl : ls[(k : Nat)]? = some (t, v)) (ht : isRf t = true) (h : Wp g d M Q (pc + 1) ls ((t, v) :: st) σ) : Wp g d M Q (pc) ls (st) σ := by
  intro p e s m args below meth c H locs lsA C S R L vl vs
  obtain ⟨a, ha⟩ := conc_rf (g := g) (v := v) ht
  have h1 := L.2.2 _ t v hl (isRf9 ht)
  have h2 := h p e s m args below meth c H locs lsA C S R L vl (vcons (vat vl hl) vs)
  rw [List.map_cons, ha] at h2
  rw [ha] at h1
  exact lv_aload_n C.1 C.2.1 hd rfl h1 h2
theorem r_aload {k t : Nat} {v : Int} (hd : decode M.2.1 pc = .ok (.aload k, 2)) (hl : ls[k]? = some (t, v)) (ht : isRf t = true) (h : Wp g d M Q (pc + 2) ls ((t, v) :: st) σ) : Wp g d M Q (pc) ls (st) σ := by
  intro p e s m args below meth c H locs lsA C S R L vl vs
  obtain ⟨a, ha⟩ := conc_rf (g := g) (v := v) ht
  have h1 := L.2.2 _ t v hl (isRf9 ht)
  have h2 := h p e s m args below meth c H locs lsA C S R L vl (vcons (vat vl hl) vs)
  rw [List.map_cons, ha] at h2
  rw [ha] at h1
  exact lv_aload C.1 C.2.1 hd h1 h2
theorem nLt {g : GT} {lsA : Array Slot} {nL i : Nat} {ls : List AV} (h : LH g lsA nL ls) (hi : i < nL) : i < nL := hi
theorem r_istore_n {k : Fin 4} {v : Int} {ls2 : List AV} (hd : decode M.2.1 pc = .ok (.istore_n k, 1)) (hn : (k : Nat) < M.2.2.1) (hl : stI ls (k : Nat) (0, v) = ls2) (h : Wp g d M Q (pc + 1) ls2 (st) σ) : Wp g d M Q (pc) ls ((0, v) :: st) σ := by
  intro p e s m args below meth c H locs lsA C S R L vl vs
  subst hl
  exact lv_istore_n C.1 C.2.1 hd rfl L.has hn rfl (fun lsB hB => h p e s m args below meth c H locs lsB C S R (LH.stI (x := (0, v)) rfl hB) (vld_stI vl (vhd vs)) (vtl vs))
theorem r_istore {k : Nat} {v : Int} {ls2 : List AV} (hd : decode M.2.1 pc = .ok (.istore k, 2)) (hn : k < M.2.2.1) (hl : stI ls k (0, v) = ls2) (h : Wp g d M Q (pc + 2) ls2 (st) σ) : Wp g d M Q (pc) ls ((0, v) :: st) σ := by
  intro p e s m args below meth c H locs lsA C S R L vl vs
  subst hl
  exact lv_istore C.1 C.2.1 hd L.has hn rfl (fun lsB hB => h p e s m args below meth c H locs lsB C S R (LH.stI (x := (0, v)) rfl hB) (vld_stI vl (vhd vs)) (vtl vs))
theorem r_lstore_n {k : Fin 4} {v : Int} {ls2 : List AV} (hd : decode M.2.1 pc = .ok (.lstore_n k, 1)) (hn : (k : Nat) + 1 < M.2.2.1) (hl : stJ ls (k : Nat) (2, v) = ls2) (h : Wp g d M Q (pc + 1) ls2 (st) σ) : Wp g d M Q (pc) ls ((2, v) :: st) σ := by
  intro p e s m args below meth c H locs lsA C S R L vl vs
  subst hl
  exact lv_lstore_n C.1 C.2.1 hd rfl L.has hn rfl (fun lsB hB => h p e s m args below meth c H locs lsB C S R (LH.stJ (x := (2, v)) rfl hB) (vld_stJ vl (vhd vs)) (vtl vs))
theorem r_lstore {k : Nat} {v : Int} {ls2 : List AV} (hd : decode M.2.1 pc = .ok (.lstore k, 2)) (hn : k + 1 < M.2.2.1) (hl : stJ ls k (2, v) = ls2) (h : Wp g d M Q (pc + 2) ls2 (st) σ) : Wp g d M Q (pc) ls ((2, v) :: st) σ := by
  intro p e s m args below meth c H locs lsA C S R L vl vs
  subst hl
  exact lv_lstore C.1 C.2.1 hd L.has hn rfl (fun lsB hB => h p e s m args below meth c H locs lsB C S R (LH.stJ (x := (2, v)) rfl hB) (vld_stJ vl (vhd vs)) (vtl vs))
theorem r_astore_n {k : Fin 4} {t : Nat} {v : Int} {ls2 : List AV} (hd : decode M.2.1 pc = .ok (.astore_n k, 1)) (ht : isRf t = true) (hn : (k : Nat) < M.2.2.1) (hl : stI ls (k : Nat) (t, v) = ls2) (h : Wp g d M Q (pc + 1) ls2 (st) σ) : Wp g d M Q (pc) ls ((t, v) :: st) σ := by
  intro p e s m args below meth c H locs lsA C S R L vl vs
  subst hl
  obtain ⟨a, ha⟩ := conc_rf (g := g) (v := v) ht
  rw [List.map_cons, ha]
  exact lv_astore_n C.1 C.2.1 hd rfl L.has hn rfl (fun lsB hB => h p e s m args below meth c H locs lsB C S R (LH.stI (x := (t, v)) ha.symm hB) (vld_stI vl (vhd vs)) (vtl vs))
theorem r_astore {k t : Nat} {v : Int} {ls2 : List AV} (hd : decode M.2.1 pc = .ok (.astore k, 2)) (ht : isRf t = true) (hn : k < M.2.2.1) (hl : stI ls k (t, v) = ls2) (h : Wp g d M Q (pc + 2) ls2 (st) σ) : Wp g d M Q (pc) ls ((t, v) :: st) σ := by
  intro p e s m args below meth c H locs lsA C S R L vl vs
  subst hl
  obtain ⟨a, ha⟩ := conc_rf (g := g) (v := v) ht
  rw [List.map_cons, ha]
  exact lv_astore C.1 C.2.1 hd L.has hn rfl (fun lsB hB => h p e s m args below meth c H locs lsB C S R (LH.stI (x := (t, v)) ha.symm hB) (vld_stI vl (vhd vs)) (vtl vs))
theorem r_iinc {k : Nat} {n v : Int} {ls2 : List AV} (hd : decode M.2.1 pc = .ok (.iinc k n, 3)) (hv : ls[k]? = some (0, v)) (hn : k < M.2.2.1) (hl : stI ls k (0, w32 (v + n)) = ls2) (h : Wp g d M Q (pc + 3) ls2 (st) σ) : Wp g d M Q (pc) ls (st) σ := by
  intro p e s m args below meth c H locs lsA C S R L vl vs
  subst hl
  have hm : (k, Value.int (i3 v)) ∈ asc g 0 ls := (asc_mem g ls 0 k _).mpr ⟨k, (0, v), by omega, hv, (show (0 : Nat) ≠ 9 by decide), rfl⟩
  obtain ⟨kk, hkk⟩ := List.getElem?_of_mem hm
  refine lv_iinc C.1 C.2.1 hd L.has hkk (v := i3 (w32 (v + n))) ?_ hn rfl (fun lsB hB => h p e s m args below meth c H locs lsB C S R (LH.stI (x := (0, w32 (v + n))) rfl hB) (vld_stI vl (w32_in _)) vs)
  exact i3_add v n
theorem r_dup {x : AV} (hd : decode M.2.1 pc = .ok (.dup, 1)) (hx : x.1 ≠ 2) (h : Wp g d M Q (pc + 1) ls (x :: x :: st) σ) : Wp g d M Q (pc) ls (x :: st) σ := by
  intro p e s m args below meth c H locs lsA C S R L vl vs
  exact lv_dup C.1 C.2.1 hd (conc_cat hx) (h p e s m args below meth c H locs lsA C S R L vl (vcons (vhd vs) vs))
theorem r_pop {x : AV} (hd : decode M.2.1 pc = .ok (.pop, 1)) (hx : x.1 ≠ 2) (h : Wp g d M Q (pc + 1) ls (st) σ) : Wp g d M Q (pc) ls (x :: st) σ := by
  intro p e s m args below meth c H locs lsA C S R L vl vs
  exact lv_pop C.1 C.2.1 hd (conc_cat hx) (h p e s m args below meth c H locs lsA C S R L vl (vtl vs))
theorem r_dup2 {x y : AV} (hd : decode M.2.1 pc = .ok (.dup2, 1)) (hx : x.1 ≠ 2) (hy : y.1 ≠ 2) (h : Wp g d M Q (pc + 1) ls (x :: y :: x :: y :: st) σ) : Wp g d M Q (pc) ls (x :: y :: st) σ := by
  intro p e s m args below meth c H locs lsA C S R L vl vs
  exact lv_dup2_11 C.1 C.2.1 hd (conc_cat hx) (conc_cat hy) (h p e s m args below meth c H locs lsA C S R L vl (vcons (vhd vs) (vcons (vhd (vtl vs)) vs)))
theorem r_iadd {a b : Int} (hd : decode M.2.1 pc = .ok (.iadd, 1)) (h : Wp g d M Q (pc + 1) ls ((0, w32 (a + b)) :: st) σ) : Wp g d M Q (pc) ls ((0, b) :: (0, a) :: st) σ := by
  intro p e s m args below meth c H locs lsA C S R L vl vs
  have ra : inR a := vhd (vtl vs)
  have rb : inR b := vhd vs
  have h2 := h p e s m args below meth c H locs lsA C S R L vl (vcons (x := (0, w32 (a + b))) (w32_in _) (vtl (vtl vs)))
  refine lv_iadd C.1 C.2.1 hd ?_
  rw [List.map_cons] at h2
  rw [show conc g (0, w32 (a + b)) = .int (i3 a + i3 b) from congrArg Value.int (i3_add a b).symm] at h2
  exact h2
theorem r_isub {a b : Int} (hd : decode M.2.1 pc = .ok (.isub, 1)) (h : Wp g d M Q (pc + 1) ls ((0, w32 (a - b)) :: st) σ) : Wp g d M Q (pc) ls ((0, b) :: (0, a) :: st) σ := by
  intro p e s m args below meth c H locs lsA C S R L vl vs
  have ra : inR a := vhd (vtl vs)
  have rb : inR b := vhd vs
  have h2 := h p e s m args below meth c H locs lsA C S R L vl (vcons (x := (0, w32 (a - b))) (w32_in _) (vtl (vtl vs)))
  refine lv_isub C.1 C.2.1 hd ?_
  rw [List.map_cons] at h2
  rw [show conc g (0, w32 (a - b)) = .int (i3 a - i3 b) from congrArg Value.int (i3_sub a b).symm] at h2
  exact h2
theorem r_imul {a b : Int} (hd : decode M.2.1 pc = .ok (.imul, 1)) (h : Wp g d M Q (pc + 1) ls ((0, w32 (a * b)) :: st) σ) : Wp g d M Q (pc) ls ((0, b) :: (0, a) :: st) σ := by
  intro p e s m args below meth c H locs lsA C S R L vl vs
  have ra : inR a := vhd (vtl vs)
  have rb : inR b := vhd vs
  have h2 := h p e s m args below meth c H locs lsA C S R L vl (vcons (x := (0, w32 (a * b))) (w32_in _) (vtl (vtl vs)))
  refine lv_imul C.1 C.2.1 hd ?_
  rw [List.map_cons] at h2
  rw [show conc g (0, w32 (a * b)) = .int (i3 a * i3 b) from congrArg Value.int (i3_mul a b).symm] at h2
  exact h2
theorem r_ladd {a b : Int} (hd : decode M.2.1 pc = .ok (.ladd, 1)) (h : Wp g d M Q (pc + 1) ls ((2, w64 (a + b)) :: st) σ) : Wp g d M Q (pc) ls ((2, b) :: (2, a) :: st) σ := by
  intro p e s m args below meth c H locs lsA C S R L vl vs
  have ra : inL a := vhd (vtl vs)
  have rb : inL b := vhd vs
  have h2 := h p e s m args below meth c H locs lsA C S R L vl (vcons (x := (2, w64 (a + b))) (w64_in _) (vtl (vtl vs)))
  refine lv_ladd C.1 C.2.1 hd ?_
  rw [List.map_cons] at h2
  rw [show conc g (2, w64 (a + b)) = .long (i6 a + i6 b) from congrArg Value.long (i6_add a b).symm] at h2
  exact h2
theorem r_lsub {a b : Int} (hd : decode M.2.1 pc = .ok (.lsub, 1)) (h : Wp g d M Q (pc + 1) ls ((2, w64 (a - b)) :: st) σ) : Wp g d M Q (pc) ls ((2, b) :: (2, a) :: st) σ := by
  intro p e s m args below meth c H locs lsA C S R L vl vs
  have ra : inL a := vhd (vtl vs)
  have rb : inL b := vhd vs
  have h2 := h p e s m args below meth c H locs lsA C S R L vl (vcons (x := (2, w64 (a - b))) (w64_in _) (vtl (vtl vs)))
  refine lv_lsub C.1 C.2.1 hd ?_
  rw [List.map_cons] at h2
  rw [show conc g (2, w64 (a - b)) = .long (i6 a - i6 b) from congrArg Value.long (i6_sub a b).symm] at h2
  exact h2
theorem r_lmul {a b : Int} (hd : decode M.2.1 pc = .ok (.lmul, 1)) (h : Wp g d M Q (pc + 1) ls ((2, w64 (a * b)) :: st) σ) : Wp g d M Q (pc) ls ((2, b) :: (2, a) :: st) σ := by
  intro p e s m args below meth c H locs lsA C S R L vl vs
  have ra : inL a := vhd (vtl vs)
  have rb : inL b := vhd vs
  have h2 := h p e s m args below meth c H locs lsA C S R L vl (vcons (x := (2, w64 (a * b))) (w64_in _) (vtl (vtl vs)))
  refine lv_lmul C.1 C.2.1 hd ?_
  rw [List.map_cons] at h2
  rw [show conc g (2, w64 (a * b)) = .long (i6 a * i6 b) from congrArg Value.long (i6_mul a b).symm] at h2
  exact h2
theorem r_idiv {a b : Int} (hd : decode M.2.1 pc = .ok (.idiv, 1)) (hb : ¬ b = 0) (h : Wp g d M Q (pc + 1) ls ((0, w32 (a.tdiv b)) :: st) σ) : Wp g d M Q (pc) ls ((0, b) :: (0, a) :: st) σ := by
  intro p e s m args below meth c H locs lsA C S R L vl vs
  have ra : inR a := vhd (vtl vs)
  have rb : inR b := vhd vs
  have h2 := h p e s m args below meth c H locs lsA C S R L vl (vcons (x := (0, w32 (a.tdiv b))) (w32_in _) (vtl (vtl vs)))
  refine lv_idiv C.1 C.2.1 hd (fun q => hb ((i3_inj rb inR0).mp (q.trans i3_0.symm))) ?_
  rw [List.map_cons] at h2
  rw [show conc g (0, w32 (a.tdiv b)) = .int (i3 a / i3 b) from congrArg Value.int (i3_div ra rb).symm] at h2
  exact h2
theorem r_irem {a b : Int} (hd : decode M.2.1 pc = .ok (.irem, 1)) (hb : ¬ b = 0) (h : Wp g d M Q (pc + 1) ls ((0, a.tmod b) :: st) σ) : Wp g d M Q (pc) ls ((0, b) :: (0, a) :: st) σ := by
  intro p e s m args below meth c H locs lsA C S R L vl vs
  have ra : inR a := vhd (vtl vs)
  have rb : inR b := vhd vs
  have h2 := h p e s m args below meth c H locs lsA C S R L vl (vcons (x := (0, a.tmod b)) (tmod_in ra rb) (vtl (vtl vs)))
  refine lv_irem C.1 C.2.1 hd (fun q => hb ((i3_inj rb inR0).mp (q.trans i3_0.symm))) ?_
  rw [List.map_cons] at h2
  rw [show conc g (0, a.tmod b) = .int (i3 a - i3 a / i3 b * i3 b) from congrArg Value.int (i3_rem ra rb).symm] at h2
  exact h2
theorem r_ldiv {a b : Int} (hd : decode M.2.1 pc = .ok (.ldiv, 1)) (hb : ¬ b = 0) (h : Wp g d M Q (pc + 1) ls ((2, w64 (a.tdiv b)) :: st) σ) : Wp g d M Q (pc) ls ((2, b) :: (2, a) :: st) σ := by
  intro p e s m args below meth c H locs lsA C S R L vl vs
  have ra : inL a := vhd (vtl vs)
  have rb : inL b := vhd vs
  have h2 := h p e s m args below meth c H locs lsA C S R L vl (vcons (x := (2, w64 (a.tdiv b))) (w64_in _) (vtl (vtl vs)))
  refine lv_ldiv C.1 C.2.1 hd (fun q => hb ((i6_inj rb inL0).mp (q.trans i6_0.symm))) ?_
  rw [List.map_cons] at h2
  rw [show conc g (2, w64 (a.tdiv b)) = .long (i6 a / i6 b) from congrArg Value.long (i6_div ra rb).symm] at h2
  exact h2
theorem r_lrem {a b : Int} (hd : decode M.2.1 pc = .ok (.lrem, 1)) (hb : ¬ b = 0) (h : Wp g d M Q (pc + 1) ls ((2, a.tmod b) :: st) σ) : Wp g d M Q (pc) ls ((2, b) :: (2, a) :: st) σ := by
  intro p e s m args below meth c H locs lsA C S R L vl vs
  have ra : inL a := vhd (vtl vs)
  have rb : inL b := vhd vs
  have h2 := h p e s m args below meth c H locs lsA C S R L vl (vcons (x := (2, a.tmod b)) (tmod_inL ra rb) (vtl (vtl vs)))
  refine lv_lrem C.1 C.2.1 hd (fun q => hb ((i6_inj rb inL0).mp (q.trans i6_0.symm))) ?_
  rw [List.map_cons] at h2
  rw [show conc g (2, a.tmod b) = .long (i6 a - i6 a / i6 b * i6 b) from congrArg Value.long (i6_rem ra rb).symm] at h2
  exact h2
theorem r_iand {a b : Int} (hd : decode M.2.1 pc = .ok (.iand, 1)) (h : Wp g d M Q (pc + 1) ls ((0, bAnd a b) :: st) σ) : Wp g d M Q (pc) ls ((0, b) :: (0, a) :: st) σ := by
  intro p e s m args below meth c H locs lsA C S R L vl vs
  have ra : inR a := vhd (vtl vs)
  have rb : inR b := vhd vs
  have h2 := h p e s m args below meth c H locs lsA C S R L vl (vcons (x := (0, bAnd a b)) (toI_in _) (vtl (vtl vs)))
  refine lv_iand C.1 C.2.1 hd ?_
  rw [List.map_cons] at h2
  rw [show conc g (0, bAnd a b) = .int (i3 a &&& i3 b) from congrArg Value.int (i3_to _)] at h2
  exact h2
theorem r_ior {a b : Int} (hd : decode M.2.1 pc = .ok (.ior, 1)) (h : Wp g d M Q (pc + 1) ls ((0, bOr a b) :: st) σ) : Wp g d M Q (pc) ls ((0, b) :: (0, a) :: st) σ := by
  intro p e s m args below meth c H locs lsA C S R L vl vs
  have ra : inR a := vhd (vtl vs)
  have rb : inR b := vhd vs
  have h2 := h p e s m args below meth c H locs lsA C S R L vl (vcons (x := (0, bOr a b)) (toI_in _) (vtl (vtl vs)))
  refine lv_ior C.1 C.2.1 hd ?_
  rw [List.map_cons] at h2
  rw [show conc g (0, bOr a b) = .int (i3 a ||| i3 b) from congrArg Value.int (i3_to _)] at h2
  exact h2
theorem r_ixor {a b : Int} (hd : decode M.2.1 pc = .ok (.ixor, 1)) (h : Wp g d M Q (pc + 1) ls ((0, bXor a b) :: st) σ) : Wp g d M Q (pc) ls ((0, b) :: (0, a) :: st) σ := by
  intro p e s m args below meth c H locs lsA C S R L vl vs
  have ra : inR a := vhd (vtl vs)
  have rb : inR b := vhd vs
  have h2 := h p e s m args below meth c H locs lsA C S R L vl (vcons (x := (0, bXor a b)) (toI_in _) (vtl (vtl vs)))
  refine lv_ixor C.1 C.2.1 hd ?_
  rw [List.map_cons] at h2
  rw [show conc g (0, bXor a b) = .int (i3 a ^^^ i3 b) from congrArg Value.int (i3_to _)] at h2
  exact h2
theorem r_ishl {a b : Int} (hd : decode M.2.1 pc = .ok (.ishl, 1)) (h : Wp g d M Q (pc + 1) ls ((0, bShl a b) :: st) σ) : Wp g d M Q (pc) ls ((0, b) :: (0, a) :: st) σ := by
  intro p e s m args below meth c H locs lsA C S R L vl vs
  have ra : inR a := vhd (vtl vs)
  have rb : inR b := vhd vs
  have h2 := h p e s m args below meth c H locs lsA C S R L vl (vcons (x := (0, bShl a b)) (toI_in _) (vtl (vtl vs)))
  refine lv_ishl C.1 C.2.1 hd ?_
  rw [List.map_cons] at h2
  rw [show conc g (0, bShl a b) = .int (i3 a <<< (i3 b &&& 31)) from congrArg Value.int (i3_to _)] at h2
  exact h2
theorem r_ishr {a b : Int} (hd : decode M.2.1 pc = .ok (.ishr, 1)) (h : Wp g d M Q (pc + 1) ls ((0, bShr a b) :: st) σ) : Wp g d M Q (pc) ls ((0, b) :: (0, a) :: st) σ := by
  intro p e s m args below meth c H locs lsA C S R L vl vs
  have ra : inR a := vhd (vtl vs)
  have rb : inR b := vhd vs
  have h2 := h p e s m args below meth c H locs lsA C S R L vl (vcons (x := (0, bShr a b)) (toI_in _) (vtl (vtl vs)))
  refine lv_ishr C.1 C.2.1 hd ?_
  rw [List.map_cons] at h2
  rw [show conc g (0, bShr a b) = .int (i3 a >>> (i3 b &&& 31)) from congrArg Value.int (i3_to _)] at h2
  exact h2
theorem r_land {a b : Int} (hd : decode M.2.1 pc = .ok (.land, 1)) (h : Wp g d M Q (pc + 1) ls ((2, lAnd a b) :: st) σ) : Wp g d M Q (pc) ls ((2, b) :: (2, a) :: st) σ := by
  intro p e s m args below meth c H locs lsA C S R L vl vs
  have ra : inL a := vhd (vtl vs)
  have rb : inL b := vhd vs
  have h2 := h p e s m args below meth c H locs lsA C S R L vl (vcons (x := (2, lAnd a b)) (toL_in _) (vtl (vtl vs)))
  refine lv_land C.1 C.2.1 hd ?_
  rw [List.map_cons] at h2
  rw [show conc g (2, lAnd a b) = .long (i6 a &&& i6 b) from congrArg Value.long (i6_to _)] at h2
  exact h2
theorem r_lor {a b : Int} (hd : decode M.2.1 pc = .ok (.lor, 1)) (h : Wp g d M Q (pc + 1) ls ((2, lOr a b) :: st) σ) : Wp g d M Q (pc) ls ((2, b) :: (2, a) :: st) σ := by
  intro p e s m args below meth c H locs lsA C S R L vl vs
  have ra : inL a := vhd (vtl vs)
  have rb : inL b := vhd vs
  have h2 := h p e s m args below meth c H locs lsA C S R L vl (vcons (x := (2, lOr a b)) (toL_in _) (vtl (vtl vs)))
  refine lv_lor C.1 C.2.1 hd ?_
  rw [List.map_cons] at h2
  rw [show conc g (2, lOr a b) = .long (i6 a ||| i6 b) from congrArg Value.long (i6_to _)] at h2
  exact h2
theorem r_lxor {a b : Int} (hd : decode M.2.1 pc = .ok (.lxor, 1)) (h : Wp g d M Q (pc + 1) ls ((2, lXor a b) :: st) σ) : Wp g d M Q (pc) ls ((2, b) :: (2, a) :: st) σ := by
  intro p e s m args below meth c H locs lsA C S R L vl vs
  have ra : inL a := vhd (vtl vs)
  have rb : inL b := vhd vs
  have h2 := h p e s m args below meth c H locs lsA C S R L vl (vcons (x := (2, lXor a b)) (toL_in _) (vtl (vtl vs)))
  refine lv_lxor C.1 C.2.1 hd ?_
  rw [List.map_cons] at h2
  rw [show conc g (2, lXor a b) = .long (i6 a ^^^ i6 b) from congrArg Value.long (i6_to _)] at h2
  exact h2
theorem r_iushr {a b : Int} (hd : decode M.2.1 pc = .ok (.iushr, 1)) (h : Wp g d M Q (pc + 1) ls ((0, bUshr a b) :: st) σ) : Wp g d M Q (pc) ls ((0, b) :: (0, a) :: st) σ := by
  intro p e s m args below meth c H locs lsA C S R L vl vs
  exact lv_iushr (v := i3 (bUshr a b)) C.1 C.2.1 hd (i3_to _).symm (h p e s m args below meth c H locs lsA C S R L vl (vcons (x := (0, bUshr a b)) (toI_in _) (vtl (vtl vs))))
theorem r_lshl {a b : Int} (hd : decode M.2.1 pc = .ok (.lshl, 1)) (h : Wp g d M Q (pc + 1) ls ((2, lShl a b) :: st) σ) : Wp g d M Q (pc) ls ((0, b) :: (2, a) :: st) σ := by
  intro p e s m args below meth c H locs lsA C S R L vl vs
  exact lv_lshl (v := i6 (lShl a b)) C.1 C.2.1 hd (i6_to _).symm (h p e s m args below meth c H locs lsA C S R L vl (vcons (x := (2, lShl a b)) (toL_in _) (vtl (vtl vs))))
theorem r_lshr {a b : Int} (hd : decode M.2.1 pc = .ok (.lshr, 1)) (h : Wp g d M Q (pc + 1) ls ((2, lShr a b) :: st) σ) : Wp g d M Q (pc) ls ((0, b) :: (2, a) :: st) σ := by
  intro p e s m args below meth c H locs lsA C S R L vl vs
  exact lv_lshr (v := i6 (lShr a b)) C.1 C.2.1 hd (i6_to _).symm (h p e s m args below meth c H locs lsA C S R L vl (vcons (x := (2, lShr a b)) (toL_in _) (vtl (vtl vs))))
theorem r_lcmp {a b : Int} (hd : decode M.2.1 pc = .ok (.lcmp, 1)) (h : Wp g d M Q (pc + 1) ls ((0, lCmp a b) :: st) σ) : Wp g d M Q (pc) ls ((2, b) :: (2, a) :: st) σ := by
  intro p e s m args below meth c H locs lsA C S R L vl vs
  have ra : inL a := vhd (vtl vs)
  have rb : inL b := vhd vs
  have h2 := h p e s m args below meth c H locs lsA C S R L vl (vcons (x := (0, lCmp a b)) (lCmp_in a b) (vtl (vtl vs)))
  refine W.lcmp C.1 C.2.1 hd ?_
  rw [List.map_cons] at h2
  rw [lcmp_eq ra rb]
  exact h2
theorem r_i2l {a : Int} (hd : decode M.2.1 pc = .ok (.i2l, 1)) (h : Wp g d M Q (pc + 1) ls ((2, a) :: st) σ) : Wp g d M Q (pc) ls ((0, a) :: st) σ := by
  intro p e s m args below meth c H locs lsA C S R L vl vs
  have ra : inR a := vhd vs
  exact lv_i2l (v := i6 a) C.1 C.2.1 hd (i3_toL ra) (h p e s m args below meth c H locs lsA C S R L vl (vcons (x := (2, a)) (inR_L ra) (vtl vs)))
theorem r_l2i {a : Int} (hd : decode M.2.1 pc = .ok (.l2i, 1)) (h : Wp g d M Q (pc + 1) ls ((0, w32 a) :: st) σ) : Wp g d M Q (pc) ls ((2, a) :: st) σ := by
  intro p e s m args below meth c H locs lsA C S R L vl vs
  exact lv_l2i (v := i3 (w32 a)) C.1 C.2.1 hd (i6_toI a) (h p e s m args below meth c H locs lsA C S R L vl (vcons (x := (0, w32 a)) (w32_in a) (vtl vs)))
theorem r_i2b {a : Int} (hd : decode M.2.1 pc = .ok (.i2b, 1)) (h : Wp g d M Q (pc + 1) ls ((0, bSb a) :: st) σ) : Wp g d M Q (pc) ls ((0, a) :: st) σ := by
  intro p e s m args below meth c H locs lsA C S R L vl vs
  exact lv_i2b (v := i3 (bSb a)) C.1 C.2.1 hd (i3_to _).symm (h p e s m args below meth c H locs lsA C S R L vl (vcons (x := (0, bSb a)) (toI_in _) (vtl vs)))
theorem r_goto {off : Int} {tgt : Nat} (hd : decode M.2.1 pc = .ok (.goto off, 3)) (ht : (pc : Int) + off = (tgt : Int)) (h : Wp g d M Q (tgt) ls (st) σ) : Wp g d M Q (pc) ls (st) σ := by
  intro p e s m args below meth c H locs lsA C S R L vl vs
  exact lv_goto C.1 C.2.1 hd ht (h p e s m args below meth c H locs lsA C S R L vl vs)
theorem r_if_eq {a : Int} {off : Int} {tgt : Nat} (hd : decode M.2.1 pc = .ok (.ifCond .eq off, 3)) (ht : (pc : Int) + off = (tgt : Int)) (kt : a = 0 → Wp g d M Q tgt ls st σ) (kf : ¬ a = 0 → Wp g d M Q (pc + 3) ls st σ) : Wp g d M Q pc ls ((0, a) :: st) σ := by
  intro p e s m args below meth c H locs lsA C S R L vl vs
  have ra : inR a := vhd vs
  have r0 : inR 0 := inR0
  exact lv_if_eq C.1 C.2.1 hd ht (fun q => kt ((i3_inj ra r0).mp q) p e s m args below meth c H locs lsA C S R L vl (vtl vs)) (fun q => kf (fun z => q ((i3_inj ra r0).mpr z)) p e s m args below meth c H locs lsA C S R L vl (vtl vs))
theorem r_if_ne {a : Int} {off : Int} {tgt : Nat} (hd : decode M.2.1 pc = .ok (.ifCond .ne off, 3)) (ht : (pc : Int) + off = (tgt : Int)) (kt : ¬ a = 0 → Wp g d M Q tgt ls st σ) (kf : a = 0 → Wp g d M Q (pc + 3) ls st σ) : Wp g d M Q pc ls ((0, a) :: st) σ := by
  intro p e s m args below meth c H locs lsA C S R L vl vs
  have ra : inR a := vhd vs
  have r0 : inR 0 := inR0
  exact lv_if_ne C.1 C.2.1 hd ht (fun q => kt (fun z => q ((i3_inj ra r0).mpr z)) p e s m args below meth c H locs lsA C S R L vl (vtl vs)) (fun q => kf ((i3_inj ra r0).mp q) p e s m args below meth c H locs lsA C S R L vl (vtl vs))
theorem r_if_lt {a : Int} {off : Int} {tgt : Nat} (hd : decode M.2.1 pc = .ok (.ifCond .lt off, 3)) (ht : (pc : Int) + off = (tgt : Int)) (kt : a < 0 → Wp g d M Q tgt ls st σ) (kf : ¬ a < 0 → Wp g d M Q (pc + 3) ls st σ) : Wp g d M Q pc ls ((0, a) :: st) σ := by
  intro p e s m args below meth c H locs lsA C S R L vl vs
  have ra : inR a := vhd vs
  have r0 : inR 0 := inR0
  exact lv_if_lt C.1 C.2.1 hd ht (fun q => kt ((i3_lt ra r0).mp q) p e s m args below meth c H locs lsA C S R L vl (vtl vs)) (fun q => kf (fun z => q ((i3_lt ra r0).mpr z)) p e s m args below meth c H locs lsA C S R L vl (vtl vs))
theorem r_if_ge {a : Int} {off : Int} {tgt : Nat} (hd : decode M.2.1 pc = .ok (.ifCond .ge off, 3)) (ht : (pc : Int) + off = (tgt : Int)) (kt : 0 ≤ a → Wp g d M Q tgt ls st σ) (kf : ¬ 0 ≤ a → Wp g d M Q (pc + 3) ls st σ) : Wp g d M Q pc ls ((0, a) :: st) σ := by
  intro p e s m args below meth c H locs lsA C S R L vl vs
  have ra : inR a := vhd vs
  have r0 : inR 0 := inR0
  exact lv_if_ge C.1 C.2.1 hd ht (fun q => kt ((i3_le r0 ra).mp q) p e s m args below meth c H locs lsA C S R L vl (vtl vs)) (fun q => kf (fun z => q ((i3_le r0 ra).mpr z)) p e s m args below meth c H locs lsA C S R L vl (vtl vs))
theorem r_if_gt {a : Int} {off : Int} {tgt : Nat} (hd : decode M.2.1 pc = .ok (.ifCond .gt off, 3)) (ht : (pc : Int) + off = (tgt : Int)) (kt : 0 < a → Wp g d M Q tgt ls st σ) (kf : ¬ 0 < a → Wp g d M Q (pc + 3) ls st σ) : Wp g d M Q pc ls ((0, a) :: st) σ := by
  intro p e s m args below meth c H locs lsA C S R L vl vs
  have ra : inR a := vhd vs
  have r0 : inR 0 := inR0
  exact lv_if_gt C.1 C.2.1 hd ht (fun q => kt ((i3_lt r0 ra).mp q) p e s m args below meth c H locs lsA C S R L vl (vtl vs)) (fun q => kf (fun z => q ((i3_lt r0 ra).mpr z)) p e s m args below meth c H locs lsA C S R L vl (vtl vs))
theorem r_if_le {a : Int} {off : Int} {tgt : Nat} (hd : decode M.2.1 pc = .ok (.ifCond .le off, 3)) (ht : (pc : Int) + off = (tgt : Int)) (kt : a ≤ 0 → Wp g d M Q tgt ls st σ) (kf : ¬ a ≤ 0 → Wp g d M Q (pc + 3) ls st σ) : Wp g d M Q pc ls ((0, a) :: st) σ := by
  intro p e s m args below meth c H locs lsA C S R L vl vs
  have ra : inR a := vhd vs
  have r0 : inR 0 := inR0
  exact lv_if_le C.1 C.2.1 hd ht (fun q => kt ((i3_le ra r0).mp q) p e s m args below meth c H locs lsA C S R L vl (vtl vs)) (fun q => kf (fun z => q ((i3_le ra r0).mpr z)) p e s m args below meth c H locs lsA C S R L vl (vtl vs))
theorem r_icmp_eq {a b : Int} {off : Int} {tgt : Nat} (hd : decode M.2.1 pc = .ok (.if_icmp .eq off, 3)) (ht : (pc : Int) + off = (tgt : Int)) (kt : a = b → Wp g d M Q tgt ls st σ) (kf : ¬ a = b → Wp g d M Q (pc + 3) ls st σ) : Wp g d M Q pc ls ((0, b) :: (0, a) :: st) σ := by
  intro p e s m args below meth c H locs lsA C S R L vl vs
  have ra : inR a := vhd (vtl vs)
  have r0 : inR 0 := inR0
  have rb : inR b := vhd vs
  exact lv_icmp_eq C.1 C.2.1 hd ht (fun q => kt ((i3_inj ra rb).mp q) p e s m args below meth c H locs lsA C S R L vl (vtl (vtl vs))) (fun q => kf (fun z => q ((i3_inj ra rb).mpr z)) p e s m args below meth c H locs lsA C S R L vl (vtl (vtl vs)))
theorem r_icmp_ne {a b : Int} {off : Int} {tgt : Nat} (hd : decode M.2.1 pc = .ok (.if_icmp .ne off, 3)) (ht : (pc : Int) + off = (tgt : Int)) (kt : ¬ a = b → Wp g d M Q tgt ls st σ) (kf : a = b → Wp g d M Q (pc + 3) ls st σ) : Wp g d M Q pc ls ((0, b) :: (0, a) :: st) σ := by
  intro p e s m args below meth c H locs lsA C S R L vl vs
  have ra : inR a := vhd (vtl vs)
  have r0 : inR 0 := inR0
  have rb : inR b := vhd vs
  exact lv_icmp_ne C.1 C.2.1 hd ht (fun q => kt (fun z => q ((i3_inj ra rb).mpr z)) p e s m args below meth c H locs lsA C S R L vl (vtl (vtl vs))) (fun q => kf ((i3_inj ra rb).mp q) p e s m args below meth c H locs lsA C S R L vl (vtl (vtl vs)))
theorem r_icmp_lt {a b : Int} {off : Int} {tgt : Nat} (hd : decode M.2.1 pc = .ok (.if_icmp .lt off, 3)) (ht : (pc : Int) + off = (tgt : Int)) (kt : a < b → Wp g d M Q tgt ls st σ) (kf : ¬ a < b → Wp g d M Q (pc + 3) ls st σ) : Wp g d M Q pc ls ((0, b) :: (0, a) :: st) σ := by
  intro p e s m args below meth c H locs lsA C S R L vl vs
  have ra : inR a := vhd (vtl vs)
  have r0 : inR 0 := inR0
  have rb : inR b := vhd vs
  exact lv_icmp_lt C.1 C.2.1 hd ht (fun q => kt ((i3_lt ra rb).mp q) p e s m args below meth c H locs lsA C S R L vl (vtl (vtl vs))) (fun q => kf (fun z => q ((i3_lt ra rb).mpr z)) p e s m args below meth c H locs lsA C S R L vl (vtl (vtl vs)))
theorem r_icmp_ge {a b : Int} {off : Int} {tgt : Nat} (hd : decode M.2.1 pc = .ok (.if_icmp .ge off, 3)) (ht : (pc : Int) + off = (tgt : Int)) (kt : b ≤ a → Wp g d M Q tgt ls st σ) (kf : ¬ b ≤ a → Wp g d M Q (pc + 3) ls st σ) : Wp g d M Q pc ls ((0, b) :: (0, a) :: st) σ := by
  intro p e s m args below meth c H locs lsA C S R L vl vs
  have ra : inR a := vhd (vtl vs)
  have r0 : inR 0 := inR0
  have rb : inR b := vhd vs
  exact lv_icmp_ge C.1 C.2.1 hd ht (fun q => kt ((i3_le rb ra).mp q) p e s m args below meth c H locs lsA C S R L vl (vtl (vtl vs))) (fun q => kf (fun z => q ((i3_le rb ra).mpr z)) p e s m args below meth c H locs lsA C S R L vl (vtl (vtl vs)))
theorem r_icmp_gt {a b : Int} {off : Int} {tgt : Nat} (hd : decode M.2.1 pc = .ok (.if_icmp .gt off, 3)) (ht : (pc : Int) + off = (tgt : Int)) (kt : b < a → Wp g d M Q tgt ls st σ) (kf : ¬ b < a → Wp g d M Q (pc + 3) ls st σ) : Wp g d M Q pc ls ((0, b) :: (0, a) :: st) σ := by
  intro p e s m args below meth c H locs lsA C S R L vl vs
  have ra : inR a := vhd (vtl vs)
  have r0 : inR 0 := inR0
  have rb : inR b := vhd vs
  exact lv_icmp_gt C.1 C.2.1 hd ht (fun q => kt ((i3_lt rb ra).mp q) p e s m args below meth c H locs lsA C S R L vl (vtl (vtl vs))) (fun q => kf (fun z => q ((i3_lt rb ra).mpr z)) p e s m args below meth c H locs lsA C S R L vl (vtl (vtl vs)))
theorem r_icmp_le {a b : Int} {off : Int} {tgt : Nat} (hd : decode M.2.1 pc = .ok (.if_icmp .le off, 3)) (ht : (pc : Int) + off = (tgt : Int)) (kt : a ≤ b → Wp g d M Q tgt ls st σ) (kf : ¬ a ≤ b → Wp g d M Q (pc + 3) ls st σ) : Wp g d M Q pc ls ((0, b) :: (0, a) :: st) σ := by
  intro p e s m args below meth c H locs lsA C S R L vl vs
  have ra : inR a := vhd (vtl vs)
  have r0 : inR 0 := inR0
  have rb : inR b := vhd vs
  exact lv_icmp_le C.1 C.2.1 hd ht (fun q => kt ((i3_le ra rb).mp q) p e s m args below meth c H locs lsA C S R L vl (vtl (vtl vs))) (fun q => kf (fun z => q ((i3_le ra rb).mpr z)) p e s m args below meth c H locs lsA C S R L vl (vtl (vtl vs)))
theorem r_tableIn {dflt lo hi : Int} {offs : Array Int} {len : Nat} {a off : Int} {tgt : Nat} (hd : decode M.2.1 pc = .ok (.tableswitch dflt lo hi offs, len)) (h1 : lo ≤ a) (h2 : a ≤ hi) (ho : offs[(a - lo).toNat]? = some off) (ht : (pc : Int) + off = (tgt : Int)) (h : Wp g d M Q tgt ls st σ) : Wp g d M Q pc ls ((0, a) :: st) σ := by
  intro p e s m args below meth c H locs lsA C S R L vl vs
  have ra : inR a := vhd vs
  have e1 : (i3 a).toInt = a := i3_toid ra
  exact lv_tableIn C.1 C.2.1 hd (by rw [e1]; omega) (by rw [e1]; omega) (by rw [e1]; exact ho) ht (h p e s m args below meth c H locs lsA C S R L vl (vtl vs))
theorem r_tableOut {dflt lo hi : Int} {offs : Array Int} {len : Nat} {a : Int} {tgt : Nat} (hd : decode M.2.1 pc = .ok (.tableswitch dflt lo hi offs, len)) (h1 : a < lo ∨ hi < a) (ht : (pc : Int) + dflt = (tgt : Int)) (h : Wp g d M Q tgt ls st σ) : Wp g d M Q pc ls ((0, a) :: st) σ := by
  intro p e s m args below meth c H locs lsA C S R L vl vs
  have ra : inR a := vhd vs
  have e1 : (i3 a).toInt = a := i3_toid ra
  exact lv_tableOut C.1 C.2.1 hd (by rw [e1]; exact h1) ht (h p e s m args below meth c H locs lsA C S R L vl (vtl vs))
theorem r_lookup {dflt : Int} {ps : Array (Int × Int)} {len : Nat} {a off : Int} {tgt : Nat} (hd : decode M.2.1 pc = .ok (.lookupswitch dflt ps, len)) (hp : (ps.toList.zip (ps.toList.drop 1)).all (fun (a, next) => a.1 < next.1) = true) (ho : Op.lookupswitch.offset ps.toList dflt a = off) (ht : (pc : Int) + off = (tgt : Int)) (h : Wp g d M Q tgt ls st σ) : Wp g d M Q pc ls ((0, a) :: st) σ := by
  intro p e s m args below meth c H locs lsA C S R L vl vs
  have ra : inR a := vhd vs
  have e1 : (i3 a).toInt = a := i3_toid ra
  exact lv_lookup C.1 C.2.1 hd hp (by rw [e1]; exact ho) ht (h p e s m args below meth c H locs lsA C S R L vl (vtl vs))
theorem Qz_end {g : GT} {M : MI} {Q : Int → Sg → Prop} {s : State} {args : Array Value} {H : Heap} {locs : List Loc} {σ : Sg} {r : Int} (S : va_S (gAd g) s.heap H locs) (R : Rp g σ H) (hr : vld g (rT M.2.2.2, r)) (h : Q r σ) : ∀ t : State, t.heap = H → s.WarmedH t.vm → Qz g M Q args s (.returned (rV M.2.2.2 r)) t :=
  fun t ht _ => ⟨⟨r, σ, rfl, hr, h, by rw [ht]; exact R⟩, S.F ht⟩
theorem r_ret (hd : decode M.2.1 pc = .ok (.return_, 1)) (hr : M.2.2.2 = none) (h : Q 0 σ) : Wp g d M Q pc ls [] σ := by
  intro p e s m args below meth c H locs lsA C S R L vl vs
  have hl : meth.locks = false := C.2.2.2.2.2.2.1
  have hq := Qz_end (g := g) (M := M) (args := args) (r := 0) S R (by rw [hr]; exact inR0) h
  rw [hr] at hq
  exact W.vret C.1 C.2.1 (C.2.2.2.2.2.1.trans hr) hq (fun q hq => S.2.2 q hq) hd hl
theorem r_iret {a : Int} (hd : decode M.2.1 pc = .ok (.ireturn, 1)) (hr : M.2.2.2 = some .int) (h : Q a σ) : Wp g d M Q pc ls [(0, a)] σ := by
  intro p e s m args below meth c H locs lsA C S R L vl vs
  have hl : meth.locks = false := C.2.2.2.2.2.2.1
  have hq := Qz_end (g := g) (M := M) (args := args) (r := a) S R (by rw [hr]; exact vhd vs) h
  rw [hr] at hq
  exact W.iret C.1 C.2.1 (C.2.2.2.2.2.1.trans hr) hq (fun q hq => S.2.2 q hq) hd hl
theorem bz_nar {a : Int} (hz : a = 0 ∨ a = 1) : narrow .boolean (.int (i3 a)) = .int (i3 a) := by rcases hz with rfl | rfl <;> rfl
theorem bz_fit {a : Int} (hz : a = 0 ∨ a = 1) : fits .boolean (.int (i3 a)) = true := by rcases hz with rfl | rfl <;> rfl
theorem r_zret {a : Int} (hd : decode M.2.1 pc = .ok (.ireturn, 1)) (hr : M.2.2.2 = some .boolean) (hz : a = 0 ∨ a = 1) (h : Q a σ) : Wp g d M Q pc ls [(0, a)] σ := by
  intro p e s m args below meth c H locs lsA C S R L vl vs
  have hl : meth.locks = false := C.2.2.2.2.2.2.1
  have hq := Qz_end (g := g) (M := M) (args := args) (r := a) S R (by rw [hr]; exact vhd vs) h
  rw [hr] at hq
  exact W.zret C.1 C.2.1 (C.2.2.2.2.2.1.trans hr) (bz_nar hz) hq (fun q hq => S.2.2 q hq) hd hl
theorem r_lret {a : Int} (hd : decode M.2.1 pc = .ok (.lreturn, 1)) (hr : M.2.2.2 = some .long) (h : Q a σ) : Wp g d M Q pc ls [(2, a)] σ := by
  intro p e s m args below meth c H locs lsA C S R L vl vs
  have hl : meth.locks = false := C.2.2.2.2.2.2.1
  have hq := Qz_end (g := g) (M := M) (args := args) (r := a) S R (by rw [hr]; exact vhd vs) h
  rw [hr] at hq
  exact W.lret C.1 C.2.1 (C.2.2.2.2.2.1.trans hr) hq (fun q hq => S.2.2 q hq) hd hl
/-- locals that are not needed any more are forgotten -/
def fgt : List Bool → List AV → List AV
  | b :: bs, x :: xs => (if b then x else (9, 0)) :: fgt bs xs
  | _, xs => xs
theorem fgt_at : ∀ (bs : List Bool) (ls : List AV) (i t : Nat) (v : Int), (fgt bs ls)[i]? = some (t, v) → t ≠ 9 → ls[i]? = some (t, v)
  | [], ls, i, t, v, h, _ => h
  | _ :: _, [], i, t, v, h, _ => by simp [fgt] at h
  | b :: bs, x :: xs, 0, t, v, h, ht => by
    cases b with
    | true => exact h
    | false => simp [fgt] at h; exact absurd h.1.symm ht
  | b :: bs, x :: xs, i + 1, t, v, h, ht => by
    have h2 : (fgt bs xs)[i]? = some (t, v) := by simpa [fgt] using h
    simpa using fgt_at bs xs i t v h2 ht
theorem fgt_vld {g : GT} : ∀ (bs : List Bool) (ls : List AV), (∀ x ∈ ls, vld g x) → ∀ x ∈ fgt bs ls, vld g x
  | [], ls, h, x, hx => h x hx
  | _ :: _, [], h, x, hx => by simp [fgt] at hx
  | b :: bs, y :: ys, h, x, hx => by
    rcases List.mem_cons.mp hx with e | e
    · cases b with
      | true => rw [e]; exact vhd h
      | false => rw [e]; trivial
    · exact fgt_vld bs ys (vtl h) x e
theorem r_fgt (bs : List Bool) {ls2 : List AV} (hl : fgt bs ls = ls2) (h : Wp g d M Q pc ls2 st σ) : Wp g d M Q pc ls st σ := by
  subst hl
  intro p e s m args below meth c H locs lsA C S R L vl vs
  exact h p e s m args below meth c H locs lsA C S R ⟨L.1, L.2.1, fun i t v hi ht => L.2.2 i t v (fgt_at bs ls i t v hi ht) ht⟩ (fgt_vld bs ls vl) vs
end ROWS
