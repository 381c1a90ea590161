/-! rows of the abstract machine: the constants of Word, WORDS, the switch map -/
theorem enT_f : ∀ i : Nat, i < 32 → Int32.ofInt (enF.getD i 0) = (enT.getD 2 ("", "", "", [])).2.2.2.getD i 0 := by decide +kernel
theorem enT_c : ∀ i : Nat, i < 32 → Int32.ofInt (enC.getD i 0) = (enT.getD 1 ("", "", "", [])).2.2.2.getD i 0 := by decide +kernel
theorem enT_o : ∀ i : Nat, i < 32 → Int32.ofInt (i : Int) = (enT.getD 0 ("", "", "", [])).2.2.2.getD i 0 := by decide +kernel
theorem enC_in : ∀ i : Nat, i < 32 → -2147483648 ≤ enC.getD i 0 ∧ enC.getD i 0 ≤ 2147483647 := by decide +kernel
theorem enF_in : ∀ i : Nat, i < 32 → -2147483648 ≤ enF.getD i 0 ∧ enF.getD i 0 ≤ 2147483647 := by decide +kernel
theorem enS_in : ∀ i : Nat, i < 32 → -2147483648 ≤ enS.getD i 0 ∧ enS.getD i 0 ≤ 2147483647 := by decide +kernel
section STAT
variable {g : GT} {d : Nat} {M : MI} {Q : Int → Sg → Prop} {pc : Nat} {ls st : List AV} {σ : Sg}
theorem r_getsE {i idx : Nat} {v : Int} (hi : i < 32) (hv : v = (i : Int)) (hw : Cond.fieldLink M.1.cls idx RX10 (enN.getD i "") "LStoneRaised$Word;" ∈ lwG) (hd : decode M.2.1 pc = .ok (.getstatic idx, 3))
    (h : Wp g d M Q (pc + 3) ls ((3, v) :: st) σ) : Wp g d M Q pc ls st σ := by
  subst hv
  intro p e s m args below meth c H locs lsA C S R L vl vs
  obtain ⟨c1, c2, c3, c4, c5, c6, c7, c8, c9, c10⟩ := id C
  have h2 := h p e s m args below meth c H locs lsA C S R L vl (vcons (x := (3, (i : Int))) ⟨by show (0 : Int) ≤ i; omega, by show (i : Int) < 32; omega⟩ vs)
  exact va_gets c1 c2 ((c9.1.1 i (by show i < 32; exact hi)).1) S c4 (c5 _ hw) (fun _ q => q) hd h2
theorem r_getsW (hM : M.1.cls = RX6) (hd : decode M.2.1 pc = .ok (.getstatic 83, 3))
    (h : Wp g d M Q (pc + 3) ls ((4, 0) :: st) σ) : Wp g d M Q pc ls st σ := by
  intro p e s m args below meth c H locs lsA C S R L vl vs
  obtain ⟨c1, c2, c3, c4, c5, c6, c7, c8, c9, c10⟩ := id C
  have hn : nW.before args s = true := va_Nw.use rfl c9.2.2.2.2.2
  exact va_getsN c1 c2 c9.2.1 S c4 (by rw [hM]; exact hn) (fun _ q => q) hd (h p e s m args below meth c H locs lsA C S R L vl (vcons (x := (4, 0)) trivial vs))
theorem r_getsS {idx : Nat} (hw : Cond.fieldLink M.1.cls idx RX0 "$SwitchMap$StoneRaised$Word" "[I" ∈ lwG) (hd : decode M.2.1 pc = .ok (.getstatic idx, 3))
    (h : Wp g d M Q (pc + 3) ls ((5, 0) :: st) σ) : Wp g d M Q pc ls st σ := by
  intro p e s m args below meth c H locs lsA C S R L vl vs
  obtain ⟨c1, c2, c3, c4, c5, c6, c7, c8, c9, c10⟩ := id C
  exact va_gets c1 c2 c9.2.2.2.1 S c4 (c5 _ hw) (fun _ q => q) hd (h p e s m args below meth c H locs lsA C S R L vl (vcons (x := (5, 0)) trivial vs))
theorem r_getEf {idx : Nat} {v : Int} (hw : Cond.fieldLink M.1.cls idx RX10 "fact" "I" ∈ lwG) (hd : decode M.2.1 pc = .ok (.getfield idx, 3))
    (h : Wp g d M Q (pc + 3) ls ((0, enF.getD v.toNat 0) :: st) σ) : Wp g d M Q pc ls ((3, v) :: st) σ := by
  intro p e s m args below meth c H locs lsA C S R L vl vs
  obtain ⟨c1, c2, c3, c4, c5, c6, c7, c8, c9, c10⟩ := id C
  have hv : 0 ≤ v ∧ v < 32 := vhd vs
  have hn : v.toNat < 32 := by omega
  have h2 := h p e s m args below meth c H locs lsA C S R L vl (vcons (x := (0, enF.getD v.toNat 0)) (enF_in _ hn) (vtl vs))
  refine va_getE (q := enT.getD 2 ("", "", "", [])) c1 c2 c9.1 (i := v.toNat) hn S c4 (by decide) (c5 _ hw) (fun _ q => q) hd ?_
  rw [← enT_f _ hn]
  exact h2
theorem r_getEc {idx : Nat} {v : Int} (hw : Cond.fieldLink M.1.cls idx RX10 "code" "I" ∈ lwG) (hd : decode M.2.1 pc = .ok (.getfield idx, 3))
    (h : Wp g d M Q (pc + 3) ls ((0, enC.getD v.toNat 0) :: st) σ) : Wp g d M Q pc ls ((3, v) :: st) σ := by
  intro p e s m args below meth c H locs lsA C S R L vl vs
  obtain ⟨c1, c2, c3, c4, c5, c6, c7, c8, c9, c10⟩ := id C
  have hv : 0 ≤ v ∧ v < 32 := vhd vs
  have hn : v.toNat < 32 := by omega
  have h2 := h p e s m args below meth c H locs lsA C S R L vl (vcons (x := (0, enC.getD v.toNat 0)) (enC_in _ hn) (vtl vs))
  refine va_getE (q := enT.getD 1 ("", "", "", [])) c1 c2 c9.1 (i := v.toNat) hn S c4 (by decide) (c5 _ hw) (fun _ q => q) hd ?_
  rw [← enT_c _ hn]
  exact h2
theorem r_getEo {idx : Nat} {v : Int} (hw : Cond.fieldLink M.1.cls idx "java/lang/Enum" "ordinal" "I" ∈ lwG) (hd : decode M.2.1 pc = .ok (.getfield idx, 3))
    (h : Wp g d M Q (pc + 3) ls ((0, v) :: st) σ) : Wp g d M Q pc ls ((3, v) :: st) σ := by
  intro p e s m args below meth c H locs lsA C S R L vl vs
  obtain ⟨c1, c2, c3, c4, c5, c6, c7, c8, c9, c10⟩ := id C
  have hv : 0 ≤ v ∧ v < 32 := vhd vs
  have hn : v.toNat < 32 := by omega
  have h2 := h p e s m args below meth c H locs lsA C S R L vl (vcons (x := (0, v)) (by show inR v; unfold inR; omega) (vtl vs))
  refine va_getE (q := enT.getD 0 ("", "", "", [])) c1 c2 c9.1 (i := v.toNat) hn S c4 (by decide) (c5 _ hw) (fun _ q => q) hd ?_
  rw [← enT_o _ hn, show ((v.toNat : Nat) : Int) = v by omega]
  exact h2
theorem r_aaldW {w i : Int} (hd : decode M.2.1 pc = .ok (.aaload, 1)) (hb : 0 ≤ i ∧ i < 32) (h : Wp g d M Q (pc + 1) ls ((3, i) :: st) σ) : Wp g d M Q pc ls ((0, i) :: (4, w) :: st) σ := by
  intro p e s m args below meth c H locs lsA C S R L vl vs
  obtain ⟨c1, c2, c3, c4, c5, c6, c7, c8, c9, c10⟩ := id C
  have hi : inR i := vhd vs
  obtain ⟨cell, t1, t2, t3, t4, t5, t6, t7⟩ := c9.2.2.1.kept S.2.1
  have h2 := h p e s m args below meth c H locs lsA C S R L vl (vcons (x := (3, i)) hb (vtl (vtl vs)))
  refine W.aald (ty := .object RX10) (v := .ref (ge g i.toNat)) c1 c2 t1 t2 rfl t3 ?_ ?_ rfl rfl hd h2
  · have := i3_vin (N := 32) hb.1 (by omega) hi
    exact fun q => this (q.imp_right (fun z => Nat.le_trans t4 z))
  · rw [i3_idx hb.1 hi]
    exact t6 _ (by omega)
theorem r_alenW {w : Int} (hd : decode M.2.1 pc = .ok (.arraylength, 1)) (h : Wp g d M Q (pc + 1) ls ((0, 32) :: st) σ) : Wp g d M Q pc ls ((4, w) :: st) σ := by
  intro p e s m args below meth c H locs lsA C S R L vl vs
  obtain ⟨c1, c2, c3, c4, c5, c6, c7, c8, c9, c10⟩ := id C
  exact va_tlen c1 c2 c9.2.2.1 S rfl hd (h p e s m args below meth c H locs lsA C S R L vl (vcons (x := (0, 32)) (by show inR 32; unfold inR; omega) (vtl vs)))
theorem r_ialdS {w i : Int} (hd : decode M.2.1 pc = .ok (.iaload, 1)) (hb : 0 ≤ i ∧ i < 32) (h : Wp g d M Q (pc + 1) ls ((0, enS.getD i.toNat 0) :: st) σ) : Wp g d M Q pc ls ((0, i) :: (5, w) :: st) σ := by
  intro p e s m args below meth c H locs lsA C S R L vl vs
  obtain ⟨c1, c2, c3, c4, c5, c6, c7, c8, c9, c10⟩ := id C
  have hi : inR i := vhd vs
  obtain ⟨cell, t1, t2, t3, t4, t5⟩ := c9.2.2.2.2.1.kept S.2.1
  have hn : i.toNat < 32 := by omega
  have h2 := h p e s m args below meth c H locs lsA C S R L vl (vcons (x := (0, enS.getD i.toNat 0)) (enS_in _ hn) (vtl (vtl vs)))
  have h31 := (Array.getElem?_eq_some_iff.mp (t4 31 (by omega))).1
  refine W.iald (v := .int (i3 (enS.getD i.toNat 0))) c1 c2 t1 t2 t3 ?_ ?_ rfl rfl hd h2
  · have := i3_vin (N := 32) hb.1 (by omega) hi
    exact fun q => this (q.imp_right (fun z => Nat.le_trans (show 32 ≤ cell.slots.size by omega) z))
  · rw [i3_idx hb.1 hi]
    exact t4 _ hn
theorem en_ne {g : GT} {s : State} {H : Heap} (h : Sx g s H) {a b : Int} (ha : 0 ≤ a ∧ a < 32) (hb : 0 ≤ b ∧ b < 32) : (some (ge g a.toNat) = some (ge g b.toNat)) ↔ a = b := by
  constructor
  · intro q
    have := h.1.2 a.toNat b.toNat (by show _ < 32; omega) (by show _ < 32; omega) (Option.some.inj q)
    omega
  · intro q; rw [q]
theorem r_acmp_ne {a b off : Int} {tgt : Nat} (hd : decode M.2.1 pc = .ok (.if_acmp .ne off, 3)) (ht : (pc : Int) + off = (tgt : Int)) (kt : ¬ a = b → Wp g d M Q tgt ls st σ) (kf : a = b → Wp g d M Q (pc + 3) ls st σ) : Wp g d M Q pc ls ((3, b) :: (3, a) :: st) σ := by
  intro p e s m args below meth c H locs lsA C S R L vl vs
  have hb : 0 ≤ b ∧ b < 32 := vhd vs
  have ha : 0 ≤ a ∧ a < 32 := vhd (vtl vs)
  have hn := en_ne C.2.2.2.2.2.2.2.2.1 ha hb
  exact lv_acmp_ne (rx := some (ge g a.toNat)) (ry := some (ge g b.toNat)) C.1 C.2.1 hd ht (fun q => kt (fun z => q (hn.mpr z)) p e s m args below meth c H locs lsA C S R L vl (vtl (vtl vs))) (fun q => kf (hn.mp q) p e s m args below meth c H locs lsA C S R L vl (vtl (vtl vs)))
theorem r_acmp_eq {a b off : Int} {tgt : Nat} (hd : decode M.2.1 pc = .ok (.if_acmp .eq off, 3)) (ht : (pc : Int) + off = (tgt : Int)) (kt : a = b → Wp g d M Q tgt ls st σ) (kf : ¬ a = b → Wp g d M Q (pc + 3) ls st σ) : Wp g d M Q pc ls ((3, b) :: (3, a) :: st) σ := by
  intro p e s m args below meth c H locs lsA C S R L vl vs
  have hb : 0 ≤ b ∧ b < 32 := vhd vs
  have ha : 0 ≤ a ∧ a < 32 := vhd (vtl vs)
  have hn := en_ne C.2.2.2.2.2.2.2.2.1 ha hb
  exact lv_acmp_eq (rx := some (ge g a.toNat)) (ry := some (ge g b.toNat)) C.1 C.2.1 hd ht (fun q => kt (hn.mp q) p e s m args below meth c H locs lsA C S R L vl (vtl (vtl vs))) (fun q => kf (fun z => q (hn.mpr z)) p e s m args below meth c H locs lsA C S R L vl (vtl (vtl vs)))
abbrev M_ord : MI := (yJx29ce0_ordinal_8abf5, cJx29ce0_ordinal_8abf5, 1, some .int)
theorem do_0 : decode cJx29ce0_ordinal_8abf5 0 = .ok (.aload_n 0, 1) := by decide +kernel
theorem do_1 : decode cJx29ce0_ordinal_8abf5 1 = .ok (.getfield 7, 3) := by decide +kernel
theorem do_4 : decode cJx29ce0_ordinal_8abf5 4 = .ok (.ireturn, 1) := by decide +kernel
theorem C_ord {v : Int} {K : Int → Sg → Prop} (h : K v σ) : Mw g d M_ord [(3, v)] σ K := by
  refine Mw.of (ls := [(3, v)]) (by decide +kernel) (Nat.le_of_ble_eq_true rfl) rfl (fun _ => ?_)
  refine r_aload_n (M := M_ord) do_0 rfl rfl ?_
  refine r_getEo (M := M_ord) (idx := 7) (lwG_of 2170 (by decide +kernel) (by decide +kernel)) do_1 ?_
  exact r_iret (M := M_ord) do_4 rfl h
theorem r_ord {v : Int} (hM : M.1.cls = RX4) (hc : catS st ≤ 8) (hd : decode M.2.1 pc = .ok (.invokevirtual 67, 3)) (h : Wp g (d + 1) M Q (pc + 3) ls ((0, v) :: st) σ) : Wp g (d + 1) M Q pc ls ((3, v) :: st) σ := by
  intro p e s m args below meth c H locs lsA C S R L vl vs
  obtain ⟨c1, c2, c3, c4, c5, c6, c7, c8, c9, c10⟩ := id C
  have hv : 0 ≤ v ∧ v < 32 := vhd vs
  have w1 : Cond.methodLink M.1.cls 67 ⟨"StoneRaised$Word", "ordinal", "()I"⟩ ∈ lwG := by rw [hM]; exact lwG_of 688 (by decide +kernel) (by decide +kernel)
  have w2 : Cond.sameMethod "StoneRaised$Word" "java/lang/Enum" "ordinal" "()I" ∈ lwG := lwG_of 689 (by decide +kernel) (by decide +kernel)
  have w3 : Cond.selects RX10 ⟨"StoneRaised$Word", "ordinal", "()I"⟩ yJx29ce0_ordinal_8abf5 ∈ lwG := lwG_of 691 (by decide +kernel) (by decide +kernel)
  have w4 : Cond.instanceMethod yJx29ce0_ordinal_8abf5 ∈ lwG := lwG_of 692 (by decide +kernel) (by decide +kernel)
  have w5 : Cond.initialized "java/lang/Enum" ∈ lwG := lwG_of 153 (by decide +kernel) (by decide +kernel)
  have w6 : Cond.code yJx29ce0_ordinal_8abf5 cJx29ce0_ordinal_8abf5 1 (some .int) ∈ lwG := lwG_of 693 (by decide +kernel) (by decide +kernel)
  have hMet := C_ord (g := g) (d := d) (v := v) (σ := σ) (K := fun r s2 => r = v ∧ s2 = σ) ⟨rfl, rfl⟩ c10 (vcons (vhd vs) (fun _ q => by cases q))
  have hG : GoodIn lwG (va_wsU M.1.cls 67 RX10 "java/lang/Enum" ⟨"StoneRaised$Word", "ordinal", "()I"⟩ yJx29ce0_ordinal_8abf5 (wsM M_ord)) := good_app (M := M_ord) (fun w hw => by
    simp only [List.mem_cons, List.not_mem_nil, or_false] at hw
    rcases hw with rfl | rfl | rfl | rfl | rfl
    · exact w1
    · exact w2
    · exact w3
    · exact w4
    · exact w5) w6
  have hcw : va_CU (rmD (d + 1)) s args M.1.cls RX10 "java/lang/Enum" 67 ⟨"StoneRaised$Word", "ordinal", "()I"⟩ yJx29ce0_ordinal_8abf5 cJx29ce0_ordinal_8abf5 1 (some .int) (wsM M_ord) (rmD d) 0 0 0 :=
    va_cwU 0 c5 hG rfl rfl rfl rfl (by decide +kernel) ⟨Nat.le_refl _, by show 8 + (1 + 11) + 40 * d ≤ 40 * (d + 1); omega⟩
  have hrun := va_runU (p := p) (l := gl g) (e := e) (R := rmD (d + 1)) (below := below) (meth := meth) (locs := locs) (cells := 0) (slots := 0) (b := ge g v.toNat) (As := []) (rest := st.map (conc g)) (g := F0 m pc lsA (((3, v) :: st).map (conc g))) (H := H)
    ⟨c1, c2, c3, c4, c5⟩ hMet hcw
    ⟨Pz_blind _ _ _, va_recvE c9.1 (i := v.toNat) (by show _ < 32; omega) S, fun U hU hW => Pz_at (args := [(3, v)]) c8 c9 S R hU hW⟩
    rfl rfl L.1 rfl (by rw [catS_c]; show 2 * 0 + _ ≤ 8; omega) hd ⟨Nat.le_refl _, Nat.le_refl _⟩
  intro T hT X
  obtain ⟨v2, st0, t, T2, L2, h0, X2, hL, e1, e2, ⟨⟨r, σ2, hv2, hvr, ⟨rfl, rfl⟩, hRp⟩, hF⟩, stp⟩ := hrun T hT X
  cases hv2
  obtain ⟨t2, a1, b1⟩ := h p e s m args below meth c T2.heap (locs ++ L2) lsA C (S.call h0 e1 hF hL) (by rw [e1]; exact hRp) L vl (vcons (x := (0, r)) hvr (vtl vs)) T2 rfl X2
  exact ⟨t2, stp t2 a1, b1⟩
end STAT
