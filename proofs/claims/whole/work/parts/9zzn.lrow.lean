/-! the law's own rows: its locals are the script, both objects and i -/
def LE (g : GT) (b L : Nat) (xs : Nat → Int32) (p : Program) (s : State) (m : MethodId) (meth : Method) (c : Code) : Prop :=
  lw_At p s m meth c b L xs ∧ Kx g s ∧ Sx g s s.heap ∧ Cl g ∧ Gf g ∧ gz g = s.heap.size
def WL (g : GT) (b L : Nat) (xs : Nat → Int32) (pc i : Nat) (st : List AV) (σ : Sg) : Prop :=
  ∀ (p : Program) (e : Env) (s : State) (m : MethodId) (below : List Frame) (meth : Method) (c : Code) (H : Heap) (locs : List Loc) (lsA : Array Slot),
    LE g b L xs p s m meth c → va_S (gAd g) s.heap H locs → Rp g σ H → lv_has lsA 4 [(0, .ref b), (1, .ref (adr g 1)), (2, .ref (adr g 92)), (3, .int (i3 (i : Int)))] → (∀ x ∈ st, vld g x) →
    W p (gl g) e room_1 s m #[Value.ref b] below meth c H locs 141 27387 (lw_Z below #[Value.ref b] s) (F0 m pc lsA (st.map (conc g)))
theorem LE.nb {g : GT} {b L : Nat} {xs : Nat → Int32} {p : Program} {s : State} {m : MethodId} {meth : Method} {c : Code} (E : LE g b L xs p s m meth c) : ¬ gAd g b := by
  obtain ⟨⟨_, _, _, _, _, _, _, h1, _⟩, _, _, _, _, h2⟩ := E
  rintro ⟨o, _, e⟩
  unfold adr at e
  omega
theorem LE.hi {g : GT} {b L : Nat} {xs : Nat → Int32} {p : Program} {s : State} {m : MethodId} {meth : Method} {c : Code} (E : LE g b L xs p s m meth c) : ∀ q, gAd g q → s.heap.size ≤ q := by
  obtain ⟨_, _, _, _, _, h2⟩ := E
  rintro q ⟨o, _, e⟩
  unfold adr at e
  omega
section LROW
variable {g : GT} {b L i : Nat} {xs : Nat → Int32} {pc : Nat} {st : List AV} {σ : Sg}
theorem l_x (hd : decode code pc = .ok (.aload_n 1, 1)) (h : WL g b L xs (pc + 1) i ((20, 1) :: st) σ) : WL g b L xs pc i st σ := by
  intro p e s m below meth c H locs lsA E S R hl vs
  have h2 := h p e s m below meth c H locs lsA E S R hl (vcons (vld_of (by decide) ⟨E.2.2.2.2.1 1 (by decide) (by decide), rfl⟩) vs)
  rw [List.map_cons, conc_o (by decide)] at h2
  exact lv_aload_n E.1.1 E.1.2.1 hd rfl (lv_at hl 1 rfl) h2
theorem l_m (hd : decode code pc = .ok (.aload_n 2, 1)) (h : WL g b L xs (pc + 1) i ((21, 92) :: st) σ) : WL g b L xs pc i st σ := by
  intro p e s m below meth c H locs lsA E S R hl vs
  have h2 := h p e s m below meth c H locs lsA E S R hl (vcons (vld_of (by decide) ⟨E.2.2.2.2.1 92 (by decide) (by decide), rfl⟩) vs)
  rw [List.map_cons, conc_o (by decide)] at h2
  exact lv_aload_n E.1.1 E.1.2.1 hd rfl (lv_at hl 2 rfl) h2
theorem i3_nv {n N : Nat} (h : n < N) (hN : N ≤ 100000) : vp_in (i3 (n : Int)) N := i3_vin (by omega) (by omega) (by unfold inR; omega)
theorem i3_ni {n : Nat} (h : n ≤ 100000) : (i3 (n : Int)).toNatClampNeg = n := by rw [i3_idx (by omega) (by unfold inR; omega)]; omega
theorem l_arg {k : Nat} (hL : L ≤ 3072) (hi : i + 6 ≤ L) (hk : k ≤ 5) (h0 : decode code pc = .ok (.aload_n 0, 1)) (h1 : decode code (pc + 1) = .ok (.iload_n 3, 1)) (h2 : decode code (pc + 1 + 1) = .ok (.iconst (k : Int), 1)) (h3 : decode code (pc + 1 + 1 + 1) = .ok (.iadd, 1)) (h4 : decode code (pc + 1 + 1 + 1 + 1) = .ok (.iaload, 1))
    (h : WL g b L xs (pc + 1 + 1 + 1 + 1 + 1) i ((0, (xs (i + k)).toInt) :: st) σ) : WL g b L xs pc i st σ := by
  intro p e s m below meth c H locs lsA E S R hl vs
  have hh := h p e s m below meth c H locs lsA E S R hl (vcons (x := (0, (xs (i + k)).toInt)) (toI_in _) vs)
  obtain ⟨x1, x2, x3, x4, x5, x6, x7, x8, x9⟩ := id E.1
  refine lv_aload_n x1 x2 h0 rfl (lv_at hl 0 rfl) ?_
  refine lv_iload_n x1 x2 h1 rfl (lv_at hl 3 rfl) ?_
  refine lv_iconst (v := i3 (k : Int)) x1 x2 h2 rfl ?_
  refine lv_iadd x1 x2 h3 ?_
  have ea : i3 (i : Int) + i3 (k : Int) = i3 ((i + k : Nat) : Int) := by
    rw [i3_add, w32_id (by unfold inR; omega)]
    congr 1
  rw [ea]
  refine va_sld x1 x2 x7 x8 E.nb S (i3_nv (show i + k < L by omega) (by omega)) h4 ?_
  rw [i3_ni (by omega)]
  rw [List.map_cons, show conc g (0, (xs (i + k)).toInt) = .int (xs (i + k)) from congrArg Value.int (i3_to _)] at hh
  exact hh
theorem l_eq {r off : Int} {tgt : Nat} (hd : decode code pc = .ok (.if_icmp .eq off, 3)) (ht : (pc : Int) + off = (tgt : Int)) (h : WL g b L xs tgt i st σ) : WL g b L xs pc i ((0, r) :: (0, r) :: st) σ := by
  intro p e s m below meth c H locs lsA E S R hl vs
  exact lv_icmp_eq E.1.1 E.1.2.1 hd ht (fun _ => h p e s m below meth c H locs lsA E S R hl (vtl (vtl vs))) (fun q => absurd rfl q)
theorem l_call {M2 : MI} {ci idx n : Nat} {o : Int} {As stk : List AV} {K : Int → Sg → Prop} (hci : ci < 12) (hw : okV R_law idx (cNm ci) M2 n) (hn : As.length = n) (hs : As.reverse ++ (10 + ci, o) :: st = stk) (hc : catS st ≤ 8)
    (hd : decode code pc = .ok (.invokevirtual idx, 3)) (hM : Mw g 100 M2 ((10 + ci, o) :: As) σ K)
    (kk : ∀ (r : Int) (σ2 : Sg), K r σ2 → WL g b L xs (pc + 3) i (rS M2.2.2.2 r ++ st) σ2) : WL g b L xs pc i stk σ := by
  subst hs
  intro p e s m below meth c H locs lsA E S R hl vs
  obtain ⟨⟨c1, c2, c3, c4, c5, c6, c7, c8, c9, c10⟩, k1, k2, k3, k4, k5⟩ := id E
  obtain ⟨⟨w1, w2, w3, w4, w5⟩, w6, w7⟩ := hw
  have hin : ∀ w ∈ lwG, w.before #[Value.ref b] s = true := fun w hw => c6 w (List.mem_filter.mp hw).1
  have va : ∀ x ∈ (10 + ci, o) :: As, vld g x := fun x hx => vs x (by
    rcases List.mem_cons.mp hx with h | h
    · rw [h]; exact List.mem_append_right _ List.mem_cons_self
    · exact List.mem_append_left _ (List.mem_reverse.mpr h))
  have vt : ∀ x ∈ st, vld g x := fun x hx => vs x (List.mem_append_right _ (List.mem_cons_of_mem _ hx))
  have vo : gr g o ∧ tg o = 10 + ci := vld_o (by omega) (va _ List.mem_cons_self)
  have hMet := hM k3 va
  have hG : GoodIn lwG (wsV R_law idx (cNm ci) M2.1 (wsM M2)) := good_app (fun w hw => by
    simp only [List.mem_cons, List.not_mem_nil, or_false] at hw
    rcases hw with rfl | rfl | rfl | rfl
    · exact w1
    · exact w2
    · exact w3
    · exact w4) w5
  have hcw : CallW room_1 s #[Value.ref b] R_law (cNm ci) idx M2.1 M2.2.1 M2.2.2.1 M2.2.2.2 (wsM M2) (rmD 100) 0 0 n :=
    cwV n hin hG rfl rfl rfl w6 ⟨by show 100 + 1 ≤ 2048; omega, by show 8 + (M2.2.2.1 + 11) + 40 * 100 ≤ 84000; omega⟩
  obtain ⟨cell, q1, q2, q3, q4⟩ := cel_ob hci R vo
  obtain ⟨hS, hfc, kC, hkC, hkind⟩ := k1.1 ci _ (cl_at hci)
  have hrun := va_runV (p := p) (l := gl g) (e := e) (R := room_1) (below := below) (meth := meth) (locs := locs) (cells := 141) (slots := 27387) (b := adr g o) (As := As.map (conc g)) (rest := st.map (conc g)) (g := F0 m pc lsA ((As.reverse ++ (10 + ci, o) :: st).map (conc g))) (H := H)
    ⟨c1, c2, c4, c5, hin⟩ hMet hcw
    ⟨Pz_blind _ _ _, ⟨cell, q1, by rw [q3]; rfl, by rw [q2]; exact hfc⟩, fun U hU hW => by
      have := Pz_at (args := (10 + ci, o) :: As) k1 k2 S R hU hW
      rw [List.map_cons, conc_o (by omega)] at this
      exact this⟩
    rfl (by rw [List.length_map]; exact hn) hl.1 (by
      show (As.reverse ++ (10 + ci, o) :: st).map (conc g) = _
      rw [List.map_append, List.map_cons, List.map_reverse, conc_o (t := 10 + ci) (by omega)])
    (by rw [catS_c]; show 2 * 0 + _ ≤ 8; omega) hd ⟨by show 141 + 0 ≤ 600000; omega, by show 27387 + 0 ≤ 7302250; omega⟩
  intro T hT X
  obtain ⟨v, st0, t, T2, L2, h0, X2, hL, e1, e2, ⟨⟨r, σ2, hv, hvr, hK, hRp⟩, hF⟩, stp⟩ := hrun T hT X
  cases hv
  obtain ⟨t2, a1, b1⟩ := kk r σ2 hK p e s m below meth c T2.heap (locs ++ L2) lsA E (S.call h0 e1 hF hL) (by rw [e1]; exact hRp) hl (fun x hx => (List.mem_append.mp hx).elim (rS_v hvr x) (vt x)) T2 rfl X2
  refine ⟨t2, stp t2 ?_, b1⟩
  rw [List.map_append, rS_c] at a1
  exact a1
theorem l_next (hi : i ≤ 4000) (h : WL g b L xs 18 (i + 6) [] σ) : WL g b L xs 1069 i [] σ := by
  intro p e s m below meth c H locs lsA E S R hl vs
  refine lv_iinc (v := i3 ((i + 6 : Nat) : Int)) (lv' := [(3, .int (i3 ((i + 6 : Nat) : Int))), (0, .ref b), (1, .ref (adr g 1)), (2, .ref (adr g 92))]) E.1.1 E.1.2.1 dL_law_1069 hl (k := 3) rfl ?_ (by decide) rfl (fun ls hl2 => ?_)
  · show i3 (i : Int) + i3 6 = _
    rw [i3_add, w32_id (by unfold inR; omega)]
    congr 1
  · refine lv_goto (tgt := 18) E.1.1 E.1.2.1 dL_law_1072 (by decide) ?_
    exact h p e s m below meth c H locs ls E S R (lv_sub hl2 [1, 2, 3, 0] rfl) vs
theorem l_end : WL g b L xs 1075 i [] σ := by
  intro p e s m below meth c H locs lsA E S R hl vs
  refine lv_iconst (v := 1) E.1.1 E.1.2.1 dL_law_1075 (by decide) ?_
  refine va_forget (fun q hq => E.hi _ (S.2.2 q hq)) ?_
  refine W.widen (k := 600000) (n := 7302250) (by omega) (by omega) ?_
  exact lw_ret E.1.1 E.1.2.1 E.1.2.2.1 E.1.2.2.2.2.2.2.2.2.1 dL_law_1076
theorem l_head (hL : L ≤ 3072) (hi : i ≤ 4000) (h : i + 6 ≤ L → WL g b L xs 27 i [] σ) : WL g b L xs 18 i [] σ := by
  intro p e s m below meth c H locs lsA E S R hl vs
  obtain ⟨x1, x2, x3, x4, x5, x6, x7, x8, x9⟩ := id E.1
  refine lv_iload_n x1 x2 dL_law_18 rfl (lv_at hl 3 rfl) ?_
  refine lv_aload_n x1 x2 dL_law_19 rfl (lv_at hl 0 rfl) ?_
  refine va_slen x1 x2 x7 x8 E.nb S dL_law_20 ?_
  refine lv_bipush (v := i3 6) x1 x2 dL_law_21 rfl ?_
  refine lv_isub x1 x2 dL_law_23 ?_
  have ea : Int32.ofNat L - i3 6 = i3 ((L : Int) - 6) := by
    rw [show Int32.ofNat L = i3 (L : Int) from rfl, i3_sub, w32_id (by unfold inR; omega)]
  rw [ea]
  have hlt : i3 ((L : Int) - 6) < i3 (i : Int) ↔ (L : Int) - 6 < i := i3_lt (by unfold inR; omega) (by unfold inR; omega)
  refine lv_icmp_gt (tgt := 1075) x1 x2 dL_law_24 (by decide) (fun q => ?_) (fun q => ?_)
  · exact l_end p e s m below meth c H locs lsA E S R hl vs
  · exact h (by have := fun z => q (hlt.mpr z); exact Classical.byContradiction fun y => this (by omega)) p e s m below meth c H locs lsA E S R hl vs
theorem l_switch (hL : L ≤ 3072) (hi : i + 6 ≤ L) (h : ∀ v : Int, (∀ k : Nat, k < 33 → v = (k : Int) → ∃ tgt : Nat, ([180, 243, 266, 279, 302, 325, 368, 401, 434, 467, 500, 543, 576, 599, 622, 645, 678, 701, 734, 757, 780, 803, 826, 849, 882, 905, 928, 941, 964, 997, 1010, 1033, 1046] : List Nat)[k]? = some tgt ∧ WL g b L xs tgt i [] σ) ∧ (v < 0 ∨ 32 < v → WL g b L xs 1069 i [] σ)) : WL g b L xs 27 i [] σ := by
  intro p e s m below meth c H locs lsA E S R hl vs
  obtain ⟨x1, x2, x3, x4, x5, x6, x7, x8, x9⟩ := id E.1
  refine lv_aload_n x1 x2 dL_law_27 rfl (lv_at hl 0 rfl) ?_
  refine lv_iload_n x1 x2 dL_law_28 rfl (lv_at hl 3 rfl) ?_
  refine va_sld x1 x2 x7 x8 E.nb S (i3_nv (show i < L by omega) (by omega)) dL_law_29 ?_
  refine lv_bipush (v := i3 63) x1 x2 dL_law_30 rfl ?_
  refine lv_iand x1 x2 dL_law_32 ?_
  generalize xs (i3 (i : Int)).toNatClampNeg &&& i3 63 = y
  obtain ⟨hk, ho⟩ := h y.toInt
  by_cases q : y.toInt < 0 ∨ 32 < y.toInt
  · exact lv_tableOut (tgt := 1069) x1 x2 dL_law_33 q (by decide) (ho q p e s m below meth c H locs lsA E S R hl vs)
  · obtain ⟨k, k1, k2⟩ : ∃ k : Nat, k < 33 ∧ y.toInt = (k : Int) := ⟨y.toInt.toNat, by omega, by omega⟩
    obtain ⟨tgt, t1, t2⟩ := hk k k1 k2
    have hoff : (#[147, 210, 233, 246, 269, 292, 335, 368, 401, 434, 467, 510, 543, 566, 589, 612, 645, 668, 701, 724, 747, 770, 793, 816, 849, 872, 895, 908, 931, 964, 977, 1000, 1013] : Array Int)[k]? = some ((tgt : Int) - 33) := by
      have key : ∀ k : Nat, k < 33 → (#[147, 210, 233, 246, 269, 292, 335, 368, 401, 434, 467, 510, 543, 566, 589, 612, 645, 668, 701, 724, 747, 770, 793, 816, 849, 872, 895, 908, 931, 964, 977, 1000, 1013] : Array Int)[k]? = some (((([180, 243, 266, 279, 302, 325, 368, 401, 434, 467, 500, 543, 576, 599, 622, 645, 678, 701, 734, 757, 780, 803, 826, 849, 882, 905, 928, 941, 964, 997, 1010, 1033, 1046] : List Nat).getD k 0 : Nat) : Int) - 33) := by decide +kernel
      rw [key k k1, List.getD_eq_getElem?_getD, t1]
      rfl
    refine lv_tableIn (tgt := tgt) (off := (tgt : Int) - 33) x1 x2 dL_law_33 (by omega) (by omega) ?_ (by omega) (t2 p e s m below meth c H locs lsA E S R hl vs)
    rw [k2, show ((k : Int) - 0).toNat = k by omega]
    exact hoff
end LROW
