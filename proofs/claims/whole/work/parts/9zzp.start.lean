/-! the law from its entry -/
theorem oi_L9 : okI R_law 9 M_X12_init 0 := ⟨⟨lwc_1 22 (by decide +kernel) (by decide +kernel), mi_X12_init, in_X12, mc_X12_init⟩, by decide +kernel, by decide⟩
theorem oi_L12 : okI R_law 12 M_X13_init 0 := ⟨⟨lwc_6 11 (by decide +kernel) (by decide +kernel), mi_X13_init, in_X13, mc_X13_init⟩, by decide +kernel, by decide⟩
theorem cl_L7 : Cond.classLink R_law 7 (cNm 10) ∈ lwG := lwc_1 20 (by decide +kernel) (by decide +kernel)
theorem cl_L10 : Cond.classLink R_law 10 (cNm 11) ∈ lwG := lwc_6 9 (by decide +kernel) (by decide +kernel)
theorem gR_id (g : GT) : gR g (gr g) = g := rfl
theorem B2.nil {g : GT} {H : Heap} (h : H.size = gz g) : B2 g 0 (fun _ _ => 0) zU0 H := ⟨⟨h, fun o a b => absurd b (by omega)⟩, fun o a b => absurd b (by omega), fun _ _ _ => rfl⟩
section LINIT
variable {p : Program} {e : Env} {s : State} {m : MethodId} {below : List Frame} {meth : Method} {c : Code} {H : Heap} {locs : List Loc} {cells slots : Nat} {Q : State → Prop}
variable {g : GT} {b L : Nat} {xs : Nat → Int32} {pc : Nat} {ls : Array Slot} {rest : List Value} {N : Nat} {V : Ut} {σ : Sg}
theorem l_init {M2 : MI} {ci idx Nb mc2 ms2 : Nat} {o1 : Int} {V2 : Ut} {P2 : Sg → Prop} (A : lw_At p s m meth c b L xs) (hK : Kx g s) (hX : Sx g s s.heap) (hWx : zWx s) (hS : va_S (gAd g) s.heap H locs) (hB : B2 g N σ V H) (hl : ls.size = 4)
    (hw : okI R_law idx M2 0) (hc : (rest.map fun v => v.category).sum ≤ 8) (hf : cells + mc2 ≤ 600000 ∧ slots + ms2 ≤ 7302250) (hd : decode code pc = .ok (.invokespecial idx, 3)) (hM : Kc g 10 M2 [(10 + ci, o1)] N Nb V V2 σ mc2 ms2 P2)
    (kk : ∀ (σ2 : Sg) (H1 : Heap) (locs1 : List Loc), P2 σ2 → B2 g Nb σ2 V2 H1 → va_S (gAd g) s.heap H1 locs1 → W p (gl g) e room_1 s m #[Value.ref b] below meth c H1 locs1 (cells + mc2) (slots + ms2) Q (F0 m (pc + 3) ls rest)) :
    W p (gl g) e room_1 s m #[Value.ref b] below meth c H locs cells slots Q (F0 m pc ls (.ref (adr g o1) :: rest)) := by
  obtain ⟨c1, c2, c3, c4, c5, c6, c7, c8, c9, c10⟩ := A
  obtain ⟨⟨w1, w2, w3, w4⟩, ⟨w5, w6, w7⟩, w8⟩ := hw
  have hin : ∀ w ∈ lwG, w.before #[Value.ref b] s = true := fun w hw => c6 w (List.mem_filter.mp hw).1
  have hG2 : GoodIn lwG (wsM M2) := good_app (a := []) (fun w hw => by cases hw) w4
  have hcw := cwI (R := room_1) (own := R_law) (index := idx) (bytes := M2.2.1) (maxL := M2.2.2.1) (y := M2.1) (rm := rmC 10 mc2 ms2) (mc := mc2) (ms := ms2) (ws' := lwG) 0 hin hG2 (by unfold wsM; rw [w6]) rfl rfl (hin _ w3) (hin _ w1) (hin _ w2) w5 w7 ⟨by show 10 + 1 ≤ 2048; omega, by show 8 + (M2.2.2.1 + 11) + 40 * 10 ≤ 84000; omega⟩
  have hrun := va_runI (p := p) (l := gl g) (e := e) (R := room_1) (below := below) (meth := meth) (locs := locs) (cells := cells) (slots := slots) (b := adr g o1) (As := []) (rest := rest) (g := F0 m pc ls (.ref (adr g o1) :: rest)) (H := H)
    ⟨c1, c2, c4, c5, hin⟩ hM hcw
    ⟨Cp_blind _ _ _ _ _, fun U hU hW => ⟨by rw [List.map_cons, conc_o (by omega)]; rfl, by rw [hU]; exact hB, va_K.moved hW.alike hK, by rw [hU]; exact Sx.moved hW.alike (va_Nw.warmF hW) (hX.kept hS.2.1), hWx.warm hW⟩⟩
    rfl rfl hl rfl (by show 2 * 0 + _ ≤ 8; omega) hd hf
  intro T hT X
  obtain ⟨v, st0, t, T2, L2, h0, X2, hL, e1, e2, ⟨⟨hv, σ2, hp, hb2⟩, hF⟩, stp⟩ := hrun T hT X
  cases hv
  obtain ⟨t2, a1, b1⟩ := kk σ2 T2.heap (locs ++ L2) hp (by rw [e1]; exact hb2) (hS.call h0 e1 hF hL) T2 rfl X2
  exact ⟨t2, stp t2 a1, b1⟩
end LINIT
theorem whole_start {p : Program} {e : Env} {s : State} {m : MethodId} {below : List Frame} {meth : Method} {c : Code} (l : Launch) {b L : Nat} {xs : Nat → Int32} (hL : L ≤ 3072) (C0 : lw_At p s m meth c b L xs) : W p l e room_1 s m #[Value.ref b] below meth c s.heap [] 0 0 (lw_Z below #[Value.ref b] s) (entryFrame m ([Value.ref b] : List Value).toArray 4) := by
  obtain ⟨hx, hb, hr, hml, hown, hts, hX, hbl, hlocks, hgv⟩ := id C0
  obtain ⟨g, rfl, hz, hgr, hK, hSx, hWx⟩ := zWorld l hts hgv
  have hin : ∀ w ∈ lwG, w.before #[Value.ref b] s = true := fun w hw => hts w (List.mem_filter.mp hw).1
  have hG : Gf g := fun o a d => by rw [hgr]; exact bk141_iff.mpr ⟨a, d⟩
  have eg : gR g (zLs bk141) = g := by rw [← hgr]; exact gR_id g
  have hC : Cl g := by have q := clL g (L := bk141) (by decide +kernel); rwa [eg] at q
  have hl := lv_entry ([.ref b]) (n := 4) (Nat.le_of_ble_eq_true rfl)
  rw [lg_entry_eq]
  generalize (lg_sl ([.ref b]) ++ List.replicate (4 - (lg_sl ([.ref b])).length) Slot.unset).toArray = ls at hl ⊢
  have hl : lv_has ls 4 [(0, .ref b)] := hl
  have b0 : B2 g 0 (fun _ _ => 0) zU0 s.heap := B2.nil hz.symm
  have hS : va_S (gAd g) s.heap s.heap [] := va_S.rf
  refine k_new (ci := 10) (by decide) hx hb hin hown hK b0.1 hS rfl ⟨cl_L7, it_X12, in_X12⟩ (by show 0 + 1 ≤ 600000; omega) (by show 0 + 13 ≤ 7302250; omega) dL_law_0 (fun H1 hB1 hS1 => ?_)
  have b1 : B2 g 1 (fun _ _ => 0) (zUn zU0 1 []) H1 := B2.obj hB1 b0.2 rfl (by decide) od_X12
  refine lv_dup hx hb dL_law_3 rfl ?_
  refine l_init (ci := 10) (o1 := 1) (Nb := 91) (mc2 := 90) (ms2 := 10525) (V2 := zU0) (P2 := zIni) C0 hK hSx hWx hS1 b1 hl.1 oi_L9 (Nat.le_of_ble_eq_true rfl) ⟨by decide, by decide⟩ dL_law_4 (K_X12_1 hG (fun _ _ => rfl)) (fun σ1 H2 locs2 hI b2 hS2 => ?_)
  refine lv_astore_n (lv' := [(1, .ref (adr g 1)), (0, .ref b)]) hx hb dL_law_7 rfl hl (by decide) rfl (fun ls hl => ?_)
  refine k_new (ci := 11) (by decide) hx hb hin hown hK b2.1 hS2 rfl ⟨cl_L10, it_X13, in_X13⟩ (by show 0 + 1 + 90 + 1 ≤ 600000; omega) (by show 0 + 13 + 10525 + 77 ≤ 7302250; omega) dL_law_8 (fun H3 hB3 hS3 => ?_)
  have b3 : B2 g 92 σ1 (zUn zU0 92 []) H3 := B2.obj hB3 b2.2 rfl (by decide) od_X13
  refine lv_dup hx hb dL_law_11 rfl ?_
  have hs92 : ∀ o, 92 ≤ o → ∀ k, σ1 o k = 0 := fun o ho k => hI.2.2.2.2 o (by omega) k
  refine l_init (ci := 11) (o1 := 92) (Nb := 141) (mc2 := 49) (ms2 := 16772) (V2 := zU0) (P2 := zRef σ1) C0 hK hSx hWx hS3 b3 hl.1 oi_L12 (Nat.le_of_ble_eq_true rfl) ⟨by decide, by decide⟩ dL_law_12 (K_X13_92 hG hs92) (fun σ2 H4 locs4 hR b4 hS4 => ?_)
  refine lv_astore_n (lv' := [(2, .ref (adr g 92)), (1, .ref (adr g 1)), (0, .ref b)]) hx hb dL_law_15 rfl hl (by decide) rfl (fun ls hl => ?_)
  refine lv_iconst (v := 0) hx hb dL_law_16 (by decide) ?_
  refine lv_istore_n (lv' := [(3, .int 0), (2, .ref (adr g 92)), (1, .ref (adr g 1)), (0, .ref b)]) hx hb dL_law_17 rfl hl (by decide) rfl (fun ls hl => ?_)
  have hRp : Rp g σ2 H4 := by
    have q := b4.rp (R := zLs bk141) (fun o h => by have := bk141_iff.mp h; omega) (fun _ _ _ => rfl) (obL (ex := [(1, 8), (1, 9), (46, 1), (46, 2), (48, 0), (58, 0)]) (by decide +kernel) (fun q hq => by
      obtain ⟨-, -, ⟨v1, v2, -⟩, ⟨v3, v4, v5, v6⟩, -⟩ := hI
      simp only [List.mem_cons, List.not_mem_nil, or_false] at hq
      rcases hq with rfl | rfl | rfl | rfl | rfl | rfl
      · rw [hR.1 1 (by decide)]; rw [show σ1 1 ((8 : Nat) : Int) = 4 from v1]; exact bk141_iff.mpr (by omega)
      · rw [hR.1 1 (by decide)]; rw [show σ1 1 ((9 : Nat) : Int) = 25 from v2]; exact bk141_iff.mpr (by omega)
      · rw [hR.1 46 (by decide)]; rw [show σ1 46 ((1 : Nat) : Int) = 25 from v3]; exact bk141_iff.mpr (by omega)
      · rw [hR.1 46 (by decide)]; rw [show σ1 46 ((2 : Nat) : Int) = 39 from v4]; exact bk141_iff.mpr (by omega)
      · rw [hR.1 48 (by decide)]; rw [show σ1 48 ((0 : Nat) : Int) = 4 from v5]; exact bk141_iff.mpr (by omega)
      · rw [hR.1 58 (by decide)]; rw [show σ1 58 ((0 : Nat) : Int) = 4 from v6]; exact bk141_iff.mpr (by omega)))
    rwa [eg] at q
  exact l_loop hL (L + 1) 0 σ2 (by omega) (by omega) (zIV_start hI hR) p e s m below meth c H4 locs4 ls ⟨C0, hK, hSx, hC, hG, hz⟩ hS4 hRp (lv_sub hl [3, 2, 1, 0] rfl) (fun x hx => by cases hx)
