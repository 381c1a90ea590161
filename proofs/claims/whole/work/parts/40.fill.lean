/-! the class: bitCount, fill; what a world tells; copy, begin -/
def bcF (a : Int) : Int := (bAnd (w32 ((w32 ((bAnd (w32 ((w32 ((bAnd (w32 (a - (bAnd (bUshr a 1) 1431655765))) 858993459) + (bAnd (bUshr (w32 (a - (bAnd (bUshr a 1) 1431655765))) 2) 858993459))) + (bUshr (w32 ((bAnd (w32 (a - (bAnd (bUshr a 1) 1431655765))) 858993459) + (bAnd (bUshr (w32 (a - (bAnd (bUshr a 1) 1431655765))) 2) 858993459))) 4))) 252645135) + (bUshr (bAnd (w32 ((w32 ((bAnd (w32 (a - (bAnd (bUshr a 1) 1431655765))) 858993459) + (bAnd (bUshr (w32 (a - (bAnd (bUshr a 1) 1431655765))) 2) 858993459))) + (bUshr (w32 ((bAnd (w32 (a - (bAnd (bUshr a 1) 1431655765))) 858993459) + (bAnd (bUshr (w32 (a - (bAnd (bUshr a 1) 1431655765))) 2) 858993459))) 4))) 252645135) 8))) + (bUshr (w32 ((bAnd (w32 ((w32 ((bAnd (w32 (a - (bAnd (bUshr a 1) 1431655765))) 858993459) + (bAnd (bUshr (w32 (a - (bAnd (bUshr a 1) 1431655765))) 2) 858993459))) + (bUshr (w32 ((bAnd (w32 (a - (bAnd (bUshr a 1) 1431655765))) 858993459) + (bAnd (bUshr (w32 (a - (bAnd (bUshr a 1) 1431655765))) 2) 858993459))) 4))) 252645135) + (bUshr (bAnd (w32 ((w32 ((bAnd (w32 (a - (bAnd (bUshr a 1) 1431655765))) 858993459) + (bAnd (bUshr (w32 (a - (bAnd (bUshr a 1) 1431655765))) 2) 858993459))) + (bUshr (w32 ((bAnd (w32 (a - (bAnd (bUshr a 1) 1431655765))) 858993459) + (bAnd (bUshr (w32 (a - (bAnd (bUshr a 1) 1431655765))) 2) 858993459))) 4))) 252645135) 8))) 16))) 63)
theorem bt_cnt : ∀ a : Nat, a < 1024 → bcF a = popF a := by decide +kernel
theorem C_bitCount {g : GT} {e : Nat} {s : Sg} {v : Int} (h0 : 0 ≤ v) (h1 : v < 1024) : Mw g (e + 1) M_J6_bitCount_0f7a4 [(0, v)] s (Ex (popF v) s) := by
  refine S_J6_bitCount_0f7a4 (fun _ => ⟨?_, rfl⟩)
  have := bt_cnt v.toNat (by omega)
  rw [show ((v.toNat : Nat) : Int) = v by omega] at this
  exact this
/-- n places of an array are v -/
def fil (s : Sg) (o n v : Int) : Sg := fun o2 k => if o2 = o ∧ 0 ≤ k ∧ k < n then v else s o2 k
theorem fil_at (s : Sg) {o n v o2 : Int} (h : o2 ≠ o) : fil s o n v o2 = s o2 := by funext k; unfold fil; rw [if_neg (fun q => h q.1)]
theorem fil_in (s : Sg) {o n v k : Int} (h0 : 0 ≤ k) (h1 : k < n) : fil s o n v o k = v := by unfold fil; rw [if_pos ⟨rfl, h0, h1⟩]
theorem fil_up (s : Sg) {o v : Int} {k : Nat} : ups (fil s o k v) o k v = fil s o ((k + 1 : Nat) : Int) v := by
  funext o2 j
  unfold ups fil
  by_cases h : o2 = o ∧ j = k
  · rw [if_pos h, if_pos ⟨h.1, by omega, by omega⟩]
  · rw [if_neg h]
    by_cases h2 : o2 = o ∧ 0 ≤ j ∧ j < (k : Int)
    · rw [if_pos h2, if_pos ⟨h2.1, by omega, by omega⟩]
    · rw [if_neg h2, if_neg]
      rintro ⟨q1, q2, q3⟩
      by_cases q4 : j = k
      · exact h ⟨q1, q4⟩
      · exact h2 ⟨q1, q2, by omega⟩
theorem fil_0 (s : Sg) {o v : Int} : fil s o 0 v = s := by
  funext o2 j
  unfold fil
  rw [if_neg (fun q => by omega)]
section FILL
variable {g : GT} {e : Nat} {s : Sg}
theorem fill_loop {t : Nat} {o v n : Int} {Q : Int → Sg → Prop} (he : (aE t, (aN t : Int)) = (0, n)) (ht : 30 ≤ t) (hr : isRf t = true) (hn : n ≤ 10000) (hQ : Q 0 (fil s o n v)) : ∀ (m k : Nat), (k : Int) + m = n → Wp g (e + 1) M_J7_fill_53178 Q 5 [(t, o), (0, v), (0, k), (0, n)] [] (fil s o k v) := by
  intro m
  induction m with
  | zero =>
    intro k hk
    refine r_iload_n dJ7_fill_53178_5 rfl ?_
    refine r_iload_n dJ7_fill_53178_6 rfl ?_
    refine r_icmp_ge (tgt := 20) dJ7_fill_53178_7 (by decide) (fun hc => ?_) (fun hc => absurd (by omega) hc)
    refine r_ret dJ7_fill_53178_20 rfl ?_
    rw [show (k : Int) = n by omega]
    exact hQ
  | succ m ih =>
    intro k hk
    refine r_iload_n dJ7_fill_53178_5 rfl ?_
    refine r_iload_n dJ7_fill_53178_6 rfl ?_
    refine r_icmp_ge (tgt := 20) dJ7_fill_53178_7 (by decide) (fun hc => by omega) (fun hc => ?_)
    refine r_aload_n dJ7_fill_53178_10 rfl hr ?_
    refine r_iload_n dJ7_fill_53178_11 rfl ?_
    refine r_iload_n dJ7_fill_53178_12 rfl ?_
    refine r_iast (n := n) he ht dJ7_fill_53178_13 ⟨by omega, by omega⟩ ?_
    refine r_iinc (ls2 := [(t, o), (0, v), (0, w32 (k + 1)), (0, n)]) dJ7_fill_53178_14 rfl (by decide) rfl ?_
    refine r_goto (tgt := 5) dJ7_fill_53178_17 (by decide) ?_
    rw [w32_of (by omega) (by omega), fil_up]
    exact ih (k + 1) (by omega)
theorem C_fill {t : Nat} {o v n : Int} (he : (aE t, (aN t : Int)) = (0, n)) (ht : 30 ≤ t) (hr : isRf t = true) (hn : n ≤ 10000) (h1 : (enL [(t, o), (0, v)]).length ≤ 4) (h2 : entL [(t, o), (0, v)] 4 = [(t, o), (0, v), (9, 0), (9, 0)]) : Mw g (e + 1) M_J7_fill_53178 [(t, o), (0, v)] s (Ex 0 (fil s o n v)) := by
  have n0 : 0 ≤ n := by have := congrArg Prod.snd he; dsimp only at this; omega
  refine Mw.of (ls := [(t, o), (0, v), (9, 0), (9, 0)]) pn_J7_fill_53178 h1 h2 (fun hv => ?_)
  refine r_iconst dJ7_fill_53178_0 (by decide) ?_
  refine r_istore_n (ls2 := [(t, o), (0, v), (0, 0), (9, 0)]) dJ7_fill_53178_1 (by decide) rfl ?_
  refine r_aload_n dJ7_fill_53178_2 rfl hr ?_
  refine r_alen (n := n) he ht (by omega) dJ7_fill_53178_3 ?_
  refine r_istore_n (ls2 := [(t, o), (0, v), (0, 0), (0, n)]) dJ7_fill_53178_4 (by decide) rfl ?_
  have := fill_loop (g := g) (e := e) (s := s) (o := o) (v := v) (Q := Ex 0 (fil s o n v)) he ht hr hn ⟨rfl, rfl⟩ n.toNat 0 (by omega)
  rw [show ((0 : Nat) : Int) = 0 from rfl, fil_0] at this
  exact this
theorem C_fill31 {o v : Int} : Mw g (e + 1) M_J7_fill_53178 [(31, o), (0, v)] s (Ex 0 (fil s o 3 v)) := C_fill rfl (by decide) rfl (by decide) (Nat.le_of_ble_eq_true rfl) rfl
theorem C_fill33 {o v : Int} : Mw g (e + 1) M_J7_fill_53178 [(33, o), (0, v)] s (Ex 0 (fil s o 8 v)) := C_fill rfl (by decide) rfl (by decide) (Nat.le_of_ble_eq_true rfl) rfl
theorem C_fill34 {o v : Int} : Mw g (e + 1) M_J7_fill_53178 [(34, o), (0, v)] s (Ex 0 (fil s o 6 v)) := C_fill rfl (by decide) rfl (by decide) (Nat.le_of_ble_eq_true rfl) rfl
theorem C_fill39 {o v : Int} : Mw g (e + 1) M_J7_fill_53178 [(39, o), (0, v)] s (Ex 0 (fil s o 64 v)) := C_fill rfl (by decide) rfl (by decide) (Nat.le_of_ble_eq_true rfl) rfl
theorem C_fill40 {o v : Int} : Mw g (e + 1) M_J7_fill_53178 [(40, o), (0, v)] s (Ex 0 (fil s o 16 v)) := C_fill rfl (by decide) rfl (by decide) (Nat.le_of_ble_eq_true rfl) rfl
end FILL
