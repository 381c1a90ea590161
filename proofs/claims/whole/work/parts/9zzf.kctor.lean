/-! the contracts of the constructors of the class (by program, wip/gen/gctor2.py) -/
section KCTOR
variable {g : GT} {U : Ut} {σ : Sg} {T : Tn}
set_option maxRecDepth 20000 in
theorem K_X8_2 (hG : Gf g) (hU : ∀ o k, U o k = true → o < 2) : Kc g 9 M_X8_init [(17, 2)] 2 3 (zUn U 2 []) U σ 1 1600 (fun s => s = σ) := by
  refine Kc.of (ls := [(17, 2)]) hG pn_X8_init rfl rfl (Nat.le_of_ble_eq_true rfl) rfl ?_
  refine c_aload_n dX8_init_0 rfl rfl ?_
  refine c_objI lo_X8 rfl (Nat.le_of_ble_eq_true rfl) dX8_init_1 ?_
  refine c_aload_n dX8_init_4 rfl rfl ?_
  refine c_sipush dX8_init_5 rfl ?_
  refine c_newB (t := 30) (n := 1600) (o := 3) (N' := 3) (c2 := 1) (s2 := 1600) rfl ⟨rfl, rfl⟩ rfl rfl (by decide) rfl rfl (by decide) ⟨by decide, by decide⟩ dX8_init_8 ?_
  refine c_putO (ci := 7) (k := 0) (t := 30) (off := 1) (by decide) (by decide) lk_X8_9 rfl rfl rfl rfl rfl (by decide) (fun _ => rfl) (fun _ => rfl) ⟨by decide, by decide⟩ (by decide) rfl dX8_init_10 ?_
  refine c_done (ci := 7) hU rfl (by decide +kernel) ?_
  exact c_ret dX8_init_13 rfl
set_option maxRecDepth 20000 in
theorem K_X2_18 (hG : Gf g) (hU : ∀ o k, U o k = true → o < 18) : Kc g 8 M_X2_init [(11, 18)] 18 20 (zUn U 18 []) U σ 2 1696 (fun s => s = σ) := by
  refine Kc.of (ls := [(11, 18)]) hG pn_X2_init rfl rfl (Nat.le_of_ble_eq_true rfl) rfl ?_
  refine c_aload_n dX2_init_0 rfl rfl ?_
  refine c_objI lo_X2 rfl (Nat.le_of_ble_eq_true rfl) dX2_init_1 ?_
  refine c_aload_n dX2_init_4 rfl rfl ?_
  refine c_sipush dX2_init_5 rfl ?_
  refine c_newI (t := 37) (n := 1600) (o := 19) (N' := 19) (c2 := 1) (s2 := 1600) rfl ⟨rfl, rfl⟩ rfl rfl (by decide) rfl rfl (by decide) ⟨by decide, by decide⟩ dX2_init_8 ?_
  refine c_putO (ci := 1) (k := 0) (t := 37) (off := 1) (by decide) (by decide) lk_X2_9 rfl rfl rfl rfl rfl (by decide) (fun _ => rfl) (fun _ => rfl) ⟨by decide, by decide⟩ (by decide) rfl dX2_init_10 ?_
  refine c_aload_n dX2_init_13 rfl rfl ?_
  refine c_bipush dX2_init_14 rfl ?_
  refine c_newI (t := 38) (n := 96) (o := 20) (N' := 20) (c2 := 2) (s2 := 1696) rfl ⟨rfl, rfl⟩ rfl rfl (by decide) rfl rfl (by decide) ⟨by decide, by decide⟩ dX2_init_16 ?_
  refine c_putO (ci := 1) (k := 1) (t := 38) (off := 2) (by decide) (by decide) lk_X2_15 rfl rfl rfl rfl rfl (by decide) (fun _ => rfl) (fun _ => rfl) ⟨by decide, by decide⟩ (by decide) rfl dX2_init_18 ?_
  refine c_done (ci := 1) hU rfl (by decide +kernel) ?_
  exact c_ret dX2_init_21 rfl
set_option maxRecDepth 20000 in
theorem K_X2_21 (hG : Gf g) (hU : ∀ o k, U o k = true → o < 21) : Kc g 8 M_X2_init [(11, 21)] 21 23 (zUn U 21 []) U σ 2 1696 (fun s => s = σ) := by
  refine Kc.of (ls := [(11, 21)]) hG pn_X2_init rfl rfl (Nat.le_of_ble_eq_true rfl) rfl ?_
  refine c_aload_n dX2_init_0 rfl rfl ?_
  refine c_objI lo_X2 rfl (Nat.le_of_ble_eq_true rfl) dX2_init_1 ?_
  refine c_aload_n dX2_init_4 rfl rfl ?_
  refine c_sipush dX2_init_5 rfl ?_
  refine c_newI (t := 37) (n := 1600) (o := 22) (N' := 22) (c2 := 1) (s2 := 1600) rfl ⟨rfl, rfl⟩ rfl rfl (by decide) rfl rfl (by decide) ⟨by decide, by decide⟩ dX2_init_8 ?_
  refine c_putO (ci := 1) (k := 0) (t := 37) (off := 1) (by decide) (by decide) lk_X2_9 rfl rfl rfl rfl rfl (by decide) (fun _ => rfl) (fun _ => rfl) ⟨by decide, by decide⟩ (by decide) rfl dX2_init_10 ?_
  refine c_aload_n dX2_init_13 rfl rfl ?_
  refine c_bipush dX2_init_14 rfl ?_
  refine c_newI (t := 38) (n := 96) (o := 23) (N' := 23) (c2 := 2) (s2 := 1696) rfl ⟨rfl, rfl⟩ rfl rfl (by decide) rfl rfl (by decide) ⟨by decide, by decide⟩ dX2_init_16 ?_
  refine c_putO (ci := 1) (k := 1) (t := 38) (off := 2) (by decide) (by decide) lk_X2_15 rfl rfl rfl rfl rfl (by decide) (fun _ => rfl) (fun _ => rfl) ⟨by decide, by decide⟩ (by decide) rfl dX2_init_18 ?_
  refine c_done (ci := 1) hU rfl (by decide +kernel) ?_
  exact c_ret dX2_init_21 rfl
set_option maxRecDepth 20000 in
theorem K_X2_39 (hG : Gf g) (hU : ∀ o k, U o k = true → o < 39) : Kc g 8 M_X2_init [(11, 39)] 39 41 (zUn U 39 []) U σ 2 1696 (fun s => s = σ) := by
  refine Kc.of (ls := [(11, 39)]) hG pn_X2_init rfl rfl (Nat.le_of_ble_eq_true rfl) rfl ?_
  refine c_aload_n dX2_init_0 rfl rfl ?_
  refine c_objI lo_X2 rfl (Nat.le_of_ble_eq_true rfl) dX2_init_1 ?_
  refine c_aload_n dX2_init_4 rfl rfl ?_
  refine c_sipush dX2_init_5 rfl ?_
  refine c_newI (t := 37) (n := 1600) (o := 40) (N' := 40) (c2 := 1) (s2 := 1600) rfl ⟨rfl, rfl⟩ rfl rfl (by decide) rfl rfl (by decide) ⟨by decide, by decide⟩ dX2_init_8 ?_
  refine c_putO (ci := 1) (k := 0) (t := 37) (off := 1) (by decide) (by decide) lk_X2_9 rfl rfl rfl rfl rfl (by decide) (fun _ => rfl) (fun _ => rfl) ⟨by decide, by decide⟩ (by decide) rfl dX2_init_10 ?_
  refine c_aload_n dX2_init_13 rfl rfl ?_
  refine c_bipush dX2_init_14 rfl ?_
  refine c_newI (t := 38) (n := 96) (o := 41) (N' := 41) (c2 := 2) (s2 := 1696) rfl ⟨rfl, rfl⟩ rfl rfl (by decide) rfl rfl (by decide) ⟨by decide, by decide⟩ dX2_init_16 ?_
  refine c_putO (ci := 1) (k := 1) (t := 38) (off := 2) (by decide) (by decide) lk_X2_15 rfl rfl rfl rfl rfl (by decide) (fun _ => rfl) (fun _ => rfl) ⟨by decide, by decide⟩ (by decide) rfl dX2_init_18 ?_
  refine c_done (ci := 1) hU rfl (by decide +kernel) ?_
  exact c_ret dX2_init_21 rfl
set_option maxRecDepth 20000 in
theorem K_X2_42 (hG : Gf g) (hU : ∀ o k, U o k = true → o < 42) : Kc g 8 M_X2_init [(11, 42)] 42 44 (zUn U 42 []) U σ 2 1696 (fun s => s = σ) := by
  refine Kc.of (ls := [(11, 42)]) hG pn_X2_init rfl rfl (Nat.le_of_ble_eq_true rfl) rfl ?_
  refine c_aload_n dX2_init_0 rfl rfl ?_
  refine c_objI lo_X2 rfl (Nat.le_of_ble_eq_true rfl) dX2_init_1 ?_
  refine c_aload_n dX2_init_4 rfl rfl ?_
  refine c_sipush dX2_init_5 rfl ?_
  refine c_newI (t := 37) (n := 1600) (o := 43) (N' := 43) (c2 := 1) (s2 := 1600) rfl ⟨rfl, rfl⟩ rfl rfl (by decide) rfl rfl (by decide) ⟨by decide, by decide⟩ dX2_init_8 ?_
  refine c_putO (ci := 1) (k := 0) (t := 37) (off := 1) (by decide) (by decide) lk_X2_9 rfl rfl rfl rfl rfl (by decide) (fun _ => rfl) (fun _ => rfl) ⟨by decide, by decide⟩ (by decide) rfl dX2_init_10 ?_
  refine c_aload_n dX2_init_13 rfl rfl ?_
  refine c_bipush dX2_init_14 rfl ?_
  refine c_newI (t := 38) (n := 96) (o := 44) (N' := 44) (c2 := 2) (s2 := 1696) rfl ⟨rfl, rfl⟩ rfl rfl (by decide) rfl rfl (by decide) ⟨by decide, by decide⟩ dX2_init_16 ?_
  refine c_putO (ci := 1) (k := 1) (t := 38) (off := 2) (by decide) (by decide) lk_X2_15 rfl rfl rfl rfl rfl (by decide) (fun _ => rfl) (fun _ => rfl) ⟨by decide, by decide⟩ (by decide) rfl dX2_init_18 ?_
  refine c_done (ci := 1) hU rfl (by decide +kernel) ?_
  exact c_ret dX2_init_21 rfl
set_option maxRecDepth 20000 in
theorem K_X6_47 (hG : Gf g) (hU : ∀ o k, U o k = true → o < 47) : Kc g 8 M_X6_init [(15, 47), (17, 2)] 47 47 (zUn U 47 []) U σ 0 0 (fun s => s = ups σ 47 3 31) := by
  refine Kc.of (ls := [(15, 47), (17, 2)]) hG pn_X6_init rfl rfl (Nat.le_of_ble_eq_true rfl) rfl ?_
  refine c_aload_n dX6_init_0 rfl rfl ?_
  refine c_objI lo_X6 rfl (Nat.le_of_ble_eq_true rfl) dX6_init_1 ?_
  refine c_aload_n dX6_init_4 rfl rfl ?_
  refine c_aload_n dX6_init_5 rfl rfl ?_
  refine c_putO (ci := 5) (k := 0) (t := 17) (off := -45) (by decide) (by decide) lk_X6_9 rfl rfl rfl rfl rfl (by decide) (fun _ => rfl) (fun _ => rfl) ⟨by decide, by decide⟩ (by decide) rfl dX6_init_6 ?_
  refine c_aload_n dX6_init_9 rfl rfl ?_
  refine c_getsE (i := 31) (v := 31) (by decide) rfl lk_X6_15 dX6_init_10 ?_
  refine c_putN (ci := 5) (k := 3) (t := 3) (σ2 := (ups σ 47 3 (31))) (by decide) (by decide) lk_X6_21 rfl rfl rfl (show (0 : Int) ≤ 31 ∧ (31 : Int) < 32 by omega) rfl rfl zS_up ⟨by decide, by decide⟩ (by decide) rfl dX6_init_13 ?_
  refine c_done (ci := 5) hU rfl (by decide +kernel) ?_
  exact c_ret dX6_init_16 rfl
set_option maxRecDepth 20000 in
theorem K_X1_65 (hG : Gf g) (hU : ∀ o k, U o k = true → o < 65) : Kc g 9 M_X1_init [(10, 65)] 65 86 (zUn U 65 []) U σ 21 1440 (fun s => s = σ) := by
  refine Kc.of (ls := [(10, 65)]) hG pn_X1_init rfl rfl (Nat.le_of_ble_eq_true rfl) rfl ?_
  refine c_aload_n dX1_init_0 rfl rfl ?_
  refine c_objI lo_X1 rfl (Nat.le_of_ble_eq_true rfl) dX1_init_1 ?_
  refine c_aload_n dX1_init_4 rfl rfl ?_
  refine c_bipush dX1_init_5 rfl ?_
  refine c_bipush dX1_init_7 rfl ?_
  refine c_multi (t := 42) (ti := 43) (n := 20) (k := 71) (o := 66) (N' := 86) (c2 := 21) (s2 := 1440) rfl ⟨rfl, rfl⟩ cl_X1_11 rfl rfl ⟨by decide, by decide⟩ ⟨rfl, rfl⟩ ⟨by decide, by decide⟩ rfl rfl (by decide +kernel) ⟨by decide, by decide⟩ dX1_init_9 ?_
  refine c_putO (ci := 0) (k := 0) (t := 42) (off := 1) (by decide) (by decide) lk_X1_13 rfl rfl rfl rfl rfl (by decide) (fun _ => rfl) (fun _ => rfl) ⟨by decide, by decide⟩ (by decide) rfl dX1_init_13 ?_
  refine c_done (ci := 0) hU rfl (by decide +kernel) ?_
  exact c_ret dX1_init_16 rfl
set_option maxRecDepth 20000 in
theorem K_X7_87 (hG : Gf g) (hU : ∀ o k, U o k = true → o < 87) : Kc g 9 M_X7_init [(16, 87)] 87 88 (zUn U 87 []) U σ 1 6 (fun s => s = σ) := by
  refine Kc.of (ls := [(16, 87)]) hG pn_X7_init rfl rfl (Nat.le_of_ble_eq_true rfl) rfl ?_
  refine c_aload_n dX7_init_0 rfl rfl ?_
  refine c_objI lo_X7 rfl (Nat.le_of_ble_eq_true rfl) dX7_init_1 ?_
  refine c_aload_n dX7_init_4 rfl rfl ?_
  refine c_bipush dX7_init_5 rfl ?_
  refine c_newI (t := 34) (n := 6) (o := 88) (N' := 88) (c2 := 1) (s2 := 6) rfl ⟨rfl, rfl⟩ rfl rfl (by decide) rfl rfl (by decide) ⟨by decide, by decide⟩ dX7_init_7 ?_
  refine c_putO (ci := 6) (k := 2) (t := 34) (off := 1) (by decide) (by decide) lk_X7_9 rfl rfl rfl rfl rfl (by decide) (fun _ => rfl) (fun _ => rfl) ⟨by decide, by decide⟩ (by decide) rfl dX7_init_9 ?_
  refine c_done (ci := 6) hU rfl (by decide +kernel) ?_
  exact c_ret dX7_init_12 rfl
set_option maxRecDepth 20000 in
theorem K_X3_89 (hG : Gf g) (hU : ∀ o k, U o k = true → o < 89) : Kc g 9 M_X3_init [(12, 89)] 89 90 (zUn U 89 []) U σ 1 61 (fun s => s = σ) := by
  refine Kc.of (ls := [(12, 89)]) hG pn_X3_init rfl rfl (Nat.le_of_ble_eq_true rfl) rfl ?_
  refine c_aload_n dX3_init_0 rfl rfl ?_
  refine c_objI lo_X3 rfl (Nat.le_of_ble_eq_true rfl) dX3_init_1 ?_
  refine c_aload_n dX3_init_4 rfl rfl ?_
  refine c_bipush dX3_init_5 rfl ?_
  refine c_newI (t := 44) (n := 61) (o := 90) (N' := 90) (c2 := 1) (s2 := 61) rfl ⟨rfl, rfl⟩ rfl rfl (by decide) rfl rfl (by decide) ⟨by decide, by decide⟩ dX3_init_7 ?_
  refine c_putO (ci := 2) (k := 0) (t := 44) (off := 1) (by decide) (by decide) lk_X3_11 rfl rfl rfl rfl rfl (by decide) (fun _ => rfl) (fun _ => rfl) ⟨by decide, by decide⟩ (by decide) rfl dX3_init_9 ?_
  refine c_done (ci := 2) hU rfl (by decide +kernel) ?_
  exact c_ret dX3_init_12 rfl
set_option maxRecDepth 20000 in
theorem K_X4_46 (hG : Gf g) (hU : ∀ o k, U o k = true → o < 46) (hUT : U 25 10 = false) : Kc g 9 M_X4_init [(13, 46), (17, 2), (18, 25)] 46 47 (zUn U 46 []) U σ 1 8 (fun s => s 46 1 = 25 ∧ s 46 2 = 39 ∧ Fr (fun o => o = 46 ∨ o = 47) σ s) := by
  refine Kc.of (ls := [(13, 46), (17, 2), (18, 25)]) hG pn_X4_init rfl rfl (Nat.le_of_ble_eq_true rfl) rfl ?_
  refine c_aload_n dX4_init_0 rfl rfl ?_
  refine c_objI lo_X4 rfl (Nat.le_of_ble_eq_true rfl) dX4_init_1 ?_
  refine c_aload_n dX4_init_4 rfl rfl ?_
  refine c_new (ci := 5) (o := 47) (N' := 47) (c2 := 1) (s2 := 8) rfl ⟨rfl, rfl⟩ (by decide) ⟨cl_X4_9, it_X6, in_X6⟩ rfl rfl od_X6 ⟨by decide, by decide⟩ dX4_init_5 ?_
  refine c_dup dX4_init_8 (show (15 : Nat) ≠ 2 by decide) ?_
  refine c_aload_n dX4_init_9 rfl rfl ?_
  refine c_init (ci := 5) (As := [(17, 2)]) (o1 := 47) (st := [(15, 47), (13, 46)]) (Nb := 47) (mc2 := 0) (ms2 := 0) (c2 := 1) (s2 := 8) (V2 := zUn U 46 []) oi_X4_11 rfl rfl (Nat.le_of_ble_eq_true rfl) rfl ⟨rfl, rfl⟩ ⟨by decide, by decide⟩ dX4_init_10 (K_X6_47 hG (fun o k h => by have := zUn_le h; omega)) (fun σ9 h9 => ?_)
  rw [show σ9 = _ from h9]
  refine c_putO (ci := 3) (k := 0) (t := 15) (off := 1) (by decide) (by decide) lk_X4_14 rfl rfl rfl rfl rfl (by decide) (fun _ => rfl) (fun _ => rfl) ⟨by decide, by decide⟩ (by decide) rfl dX4_init_13 ?_
  refine c_aload_n dX4_init_16 rfl rfl ?_
  refine c_aload_n dX4_init_17 rfl rfl ?_
  refine c_putN (ci := 3) (k := 1) (t := 18) (σ2 := (ups (ups σ 47 3 31) 46 1 (25))) (by decide) (by decide) lk_X4_20 rfl rfl rfl ⟨⟨by decide, by decide⟩, rfl⟩ (by rw [conc_o (by decide)]; rfl) (by rw [conc_o (by decide)]; rfl) zS_up ⟨by decide, by decide⟩ (by decide) rfl dX4_init_18 ?_
  refine c_aload_n dX4_init_21 rfl rfl ?_
  refine c_aload_n dX4_init_22 rfl rfl ?_
  refine c_getf (ci := 8) (k := 10) (t := 11) (v := 39) (by decide) (by decide) lk_X4_24 rfl rfl ⟨by decide, by decide⟩ rfl (by rw [zUn_lt (by decide)]; exact hUT) dX4_init_23 ?_
  refine c_putN (ci := 3) (k := 2) (t := 11) (σ2 := (ups (ups (ups σ 47 3 31) 46 1 (25)) 46 2 (39))) (by decide) (by decide) lk_X4_30 rfl rfl rfl ⟨⟨by decide, by decide⟩, rfl⟩ (by rw [conc_o (by decide)]; rfl) (by rw [conc_o (by decide)]; rfl) zS_up ⟨by decide, by decide⟩ (by decide) rfl dX4_init_26 ?_
  refine c_done (ci := 3) hU rfl (by decide +kernel) ?_
  exact c_ret dX4_init_29 ⟨by rw [ups_k _ (by decide), ups_eq], ups_eq _ _ _ _, fun o ho => by rw [ups_at _ (by omega), ups_at _ (by omega), ups_at _ (by omega)]⟩
set_option maxRecDepth 20000 in
theorem K_X9_4 (hG : Gf g) (hU : ∀ o k, U o k = true → o < 4) (hs0 : ∀ o, 4 < o → ∀ k, σ o k = 0) : Kc g 9 M_X9_init [(18, 4)] 4 24 (zUn U 4 []) U σ 20 3490 (fun s => (∃ T2, CT s 4 T2 ∧ TOK T2 ∧ TF T2 ∧ zTw T2 ∧ zEmp T2) ∧ Fr (fun o => 4 ≤ o ∧ o ≤ 4 + 18) σ s) := by
  have z : ∀ a k, 0 < a → σ (4 + a) k = 0 := fun a k ha => hs0 _ (by omega) k
  have hc : CT σ 4 (fun a => σ (4 + a)) := ⟨by show σ 4 = σ (4 + 0); rfl, fun a _ _ _ => rfl⟩
  have hz : zRg (fun a => σ (4 + a)) := ⟨fun h _ _ => by have a := z 6 h (by decide); have b := z 7 h (by decide); show (0 ≤ σ (4 + 6) h ∧ σ (4 + 6) h ≤ 9) ∧ 0 ≤ σ (4 + 7) h ∧ σ (4 + 7) h ≤ 9; omega, fun c _ _ => by have a := z 8 c (by decide); have b := z 9 c (by decide); show (0 ≤ σ (4 + 8) c ∧ σ (4 + 8) c ≤ 5) ∧ 0 ≤ σ (4 + 9) c ∧ σ (4 + 9) c ≤ 99; omega⟩
  have hC : Cl (gR g (zLs (bkT 4))) := clL g (by decide +kernel)
  have hN : ∀ o, zLs (bkT 4) o → 1 ≤ o ∧ o ≤ (24 : Nat) := fun o h => by have := bkT_iff.mp h; omega
  have hg : ∀ o, zLs (bkT 4) o → gr g o := fun o h => hG o (hN o h).1 (by have := (hN o h).2; omega)
  have hV : ∀ o, zLs (bkT 4) o → ∀ k, U o k = false := fun o h k => by
    have := bkT_iff.mp h
    cases u : U o k with
    | false => rfl
    | true => exact absurd (hU o k u) (by omega)
  have hva : ∀ x ∈ [((10 + 8 : Nat), (4 : Int))], vld (gR g (zLs (bkT 4))) x := fun x hx => by rw [List.mem_singleton.mp hx]; exact vld_of (by decide) ⟨bkT_iff.mpr (by omega), rfl⟩
  refine Kc.of (ls := [(18, 4)]) hG pn_X9_init rfl rfl (Nat.le_of_ble_eq_true rfl) rfl ?_
  refine c_aload_n dX9_init_0 rfl rfl ?_
  refine c_objI lo_X9 rfl (Nat.le_of_ble_eq_true rfl) dX9_init_1 ?_
  refine c_aload_n dX9_init_4 rfl rfl ?_
  refine c_iconst dX9_init_5 ?_
  refine c_newI (t := 31) (n := 3) (o := 5) (N' := 5) (c2 := 1) (s2 := 3) rfl ⟨rfl, rfl⟩ rfl rfl (by decide) rfl rfl (by decide) ⟨by decide, by decide⟩ dX9_init_6 ?_
  refine c_putO (ci := 8) (k := 0) (t := 31) (off := 1) (by decide) (by decide) lk_X9_9 rfl rfl rfl rfl rfl (by decide) (fun _ => rfl) (fun _ => rfl) ⟨by decide, by decide⟩ (by decide) rfl dX9_init_8 ?_
  refine c_aload_n dX9_init_11 rfl rfl ?_
  refine c_iconst dX9_init_12 ?_
  refine c_bipush dX9_init_13 rfl ?_
  refine c_multi (t := 32) (ti := 33) (n := 3) (k := 8) (o := 6) (N' := 9) (c2 := 5) (s2 := 30) rfl ⟨rfl, rfl⟩ cl_X9_15 rfl rfl ⟨by decide, by decide⟩ ⟨rfl, rfl⟩ ⟨by decide, by decide⟩ rfl rfl (by decide +kernel) ⟨by decide, by decide⟩ dX9_init_15 ?_
  refine c_putO (ci := 8) (k := 1) (t := 32) (off := 2) (by decide) (by decide) lk_X9_17 rfl rfl rfl rfl rfl (by decide) (fun _ => rfl) (fun _ => rfl) ⟨by decide, by decide⟩ (by decide) rfl dX9_init_19 ?_
  refine c_aload_n dX9_init_22 rfl rfl ?_
  refine c_bipush dX9_init_23 rfl ?_
  refine c_newI (t := 34) (n := 6) (o := 10) (N' := 10) (c2 := 6) (s2 := 36) rfl ⟨rfl, rfl⟩ rfl rfl (by decide) rfl rfl (by decide) ⟨by decide, by decide⟩ dX9_init_25 ?_
  refine c_putO (ci := 8) (k := 2) (t := 34) (off := 6) (by decide) (by decide) lk_X9_20 rfl rfl rfl rfl rfl (by decide) (fun _ => rfl) (fun _ => rfl) ⟨by decide, by decide⟩ (by decide) rfl dX9_init_27 ?_
  refine c_aload_n dX9_init_30 rfl rfl ?_
  refine c_bipush dX9_init_31 rfl ?_
  refine c_newI (t := 34) (n := 6) (o := 11) (N' := 11) (c2 := 7) (s2 := 42) rfl ⟨rfl, rfl⟩ rfl rfl (by decide) rfl rfl (by decide) ⟨by decide, by decide⟩ dX9_init_33 ?_
  refine c_putO (ci := 8) (k := 3) (t := 34) (off := 7) (by decide) (by decide) lk_X9_23 rfl rfl rfl rfl rfl (by decide) (fun _ => rfl) (fun _ => rfl) ⟨by decide, by decide⟩ (by decide) rfl dX9_init_35 ?_
  refine c_aload_n dX9_init_38 rfl rfl ?_
  refine c_bipush dX9_init_39 rfl ?_
  refine c_newI (t := 33) (n := 8) (o := 12) (N' := 12) (c2 := 8) (s2 := 50) rfl ⟨rfl, rfl⟩ rfl rfl (by decide) rfl rfl (by decide) ⟨by decide, by decide⟩ dX9_init_41 ?_
  refine c_putO (ci := 8) (k := 4) (t := 33) (off := 8) (by decide) (by decide) lk_X9_26 rfl rfl rfl rfl rfl (by decide) (fun _ => rfl) (fun _ => rfl) ⟨by decide, by decide⟩ (by decide) rfl dX9_init_43 ?_
  refine c_aload_n dX9_init_46 rfl rfl ?_
  refine c_bipush dX9_init_47 rfl ?_
  refine c_newI (t := 33) (n := 8) (o := 13) (N' := 13) (c2 := 9) (s2 := 58) rfl ⟨rfl, rfl⟩ rfl rfl (by decide) rfl rfl (by decide) ⟨by decide, by decide⟩ dX9_init_49 ?_
  refine c_putO (ci := 8) (k := 5) (t := 33) (off := 9) (by decide) (by decide) lk_X9_29 rfl rfl rfl rfl rfl (by decide) (fun _ => rfl) (fun _ => rfl) ⟨by decide, by decide⟩ (by decide) rfl dX9_init_51 ?_
  refine c_aload_n dX9_init_54 rfl rfl ?_
  refine c_bipush dX9_init_55 rfl ?_
  refine c_newI (t := 33) (n := 8) (o := 14) (N' := 14) (c2 := 10) (s2 := 66) rfl ⟨rfl, rfl⟩ rfl rfl (by decide) rfl rfl (by decide) ⟨by decide, by decide⟩ dX9_init_57 ?_
  refine c_putO (ci := 8) (k := 6) (t := 33) (off := 10) (by decide) (by decide) lk_X9_32 rfl rfl rfl rfl rfl (by decide) (fun _ => rfl) (fun _ => rfl) ⟨by decide, by decide⟩ (by decide) rfl dX9_init_59 ?_
  refine c_aload_n dX9_init_62 rfl rfl ?_
  refine c_iconst dX9_init_63 ?_
  refine c_newI (t := 35) (n := 4) (o := 15) (N' := 15) (c2 := 11) (s2 := 70) rfl ⟨rfl, rfl⟩ rfl rfl (by decide) rfl rfl (by decide) ⟨by decide, by decide⟩ dX9_init_64 ?_
  refine c_putO (ci := 8) (k := 7) (t := 35) (off := 11) (by decide) (by decide) lk_X9_35 rfl rfl rfl rfl rfl (by decide) (fun _ => rfl) (fun _ => rfl) ⟨by decide, by decide⟩ (by decide) rfl dX9_init_66 ?_
  refine c_aload_n dX9_init_69 rfl rfl ?_
  refine c_iconst dX9_init_70 ?_
  refine c_newI (t := 35) (n := 4) (o := 16) (N' := 16) (c2 := 12) (s2 := 74) rfl ⟨rfl, rfl⟩ rfl rfl (by decide) rfl rfl (by decide) ⟨by decide, by decide⟩ dX9_init_71 ?_
  refine c_putO (ci := 8) (k := 8) (t := 35) (off := 12) (by decide) (by decide) lk_X9_38 rfl rfl rfl rfl rfl (by decide) (fun _ => rfl) (fun _ => rfl) ⟨by decide, by decide⟩ (by decide) rfl dX9_init_73 ?_
  refine c_aload_n dX9_init_76 rfl rfl ?_
  refine c_bipush dX9_init_77 rfl ?_
  refine c_newI (t := 36) (n := 10) (o := 17) (N' := 17) (c2 := 13) (s2 := 84) rfl ⟨rfl, rfl⟩ rfl rfl (by decide) rfl rfl (by decide) ⟨by decide, by decide⟩ dX9_init_79 ?_
  refine c_putO (ci := 8) (k := 9) (t := 36) (off := 13) (by decide) (by decide) lk_X9_41 rfl rfl rfl rfl rfl (by decide) (fun _ => rfl) (fun _ => rfl) ⟨by decide, by decide⟩ (by decide) rfl dX9_init_81 ?_
  refine c_aload_n dX9_init_84 rfl rfl ?_
  refine c_new (ci := 1) (o := 18) (N' := 18) (c2 := 14) (s2 := 87) rfl ⟨rfl, rfl⟩ (by decide) ⟨cl_X9_44, it_X2, in_X2⟩ rfl rfl od_X2 ⟨by decide, by decide⟩ dX9_init_85 ?_
  refine c_dup dX9_init_88 (show (11 : Nat) ≠ 2 by decide) ?_
  refine c_initN (ci := 1) (As := []) (o1 := 18) (st := [(11, 18), (18, 4)]) (Nb := 20) (mc2 := 2) (ms2 := 1696) (c2 := 16) (s2 := 1783) (V2 := zUn U 4 [9, 8, 7, 6, 5, 4, 3, 2, 1, 0]) oi_X9_46 rfl rfl (Nat.le_of_ble_eq_true rfl) rfl ⟨rfl, rfl⟩ ⟨by decide, by decide⟩ dX9_init_89 (K_X2_18 hG (fun o k h => by have := zUn_le h; omega)) (fun σ9 h9 => ?_)
  rw [show σ9 = _ from h9]
  refine c_putO (ci := 8) (k := 10) (t := 11) (off := 14) (by decide) (by decide) lk_X9_47 rfl rfl rfl rfl rfl (by decide) (fun _ => rfl) (fun _ => rfl) ⟨by decide, by decide⟩ (by decide) rfl dX9_init_92 ?_
  refine c_aload_n dX9_init_95 rfl rfl ?_
  refine c_new (ci := 1) (o := 21) (N' := 21) (c2 := 17) (s2 := 1786) rfl ⟨rfl, rfl⟩ (by decide) ⟨cl_X9_44, it_X2, in_X2⟩ rfl rfl od_X2 ⟨by decide, by decide⟩ dX9_init_96 ?_
  refine c_dup dX9_init_99 (show (11 : Nat) ≠ 2 by decide) ?_
  refine c_initN (ci := 1) (As := []) (o1 := 21) (st := [(11, 21), (18, 4)]) (Nb := 23) (mc2 := 2) (ms2 := 1696) (c2 := 19) (s2 := 3482) (V2 := zUn U 4 [10, 9, 8, 7, 6, 5, 4, 3, 2, 1, 0]) oi_X9_46 rfl rfl (Nat.le_of_ble_eq_true rfl) rfl ⟨rfl, rfl⟩ ⟨by decide, by decide⟩ dX9_init_100 (K_X2_21 hG (fun o k h => by have := zUn_le h; omega)) (fun σ9 h9 => ?_)
  rw [show σ9 = _ from h9]
  refine c_putO (ci := 8) (k := 11) (t := 11) (off := 17) (by decide) (by decide) lk_X9_51 rfl rfl rfl rfl rfl (by decide) (fun _ => rfl) (fun _ => rfl) ⟨by decide, by decide⟩ (by decide) rfl dX9_init_103 ?_
  refine c_aload_n dX9_init_106 rfl rfl ?_
  refine c_bipush dX9_init_107 rfl ?_
  refine c_newI (t := 33) (n := 8) (o := 24) (N' := 24) (c2 := 20) (s2 := 3490) rfl ⟨rfl, rfl⟩ rfl rfl (by decide) rfl rfl (by decide) ⟨by decide, by decide⟩ dX9_init_109 ?_
  refine c_putO (ci := 8) (k := 12) (t := 33) (off := 20) (by decide) (by decide) lk_X9_54 rfl rfl rfl rfl rfl (by decide) (fun _ => rfl) (fun _ => rfl) ⟨by decide, by decide⟩ (by decide) rfl dX9_init_111 ?_
  refine c_aload_n dX9_init_114 rfl rfl ?_
  refine c_done (ci := 8) hU rfl (by decide +kernel) ?_
  refine c_call (ci := 8) (As := []) (o1 := 4) (st := []) (R := zLs (bkT 4)) (V2 := U) (by decide) ok_X9_57 rfl rfl rfl (Nat.le_of_ble_eq_true rfl) ⟨by decide, by decide⟩ ⟨by decide, by decide⟩ rfl dX9_init_115 (Kz.of (C_clear (e := 6) hc hz (by unfold isT; omega)) hC hva hN hV (obL (ex := []) (by decide +kernel) (fun q h => by cases h)) hg) hC hN hg hV (fun _ _ => rfl) (fun r s2 h o ho => h.2 o (fun q => ho (bkT_iff.mpr (by omega)))) (fun r σ9 h9 => ?_)
  exact c_ret dX9_init_118 h9
set_option maxRecDepth 20000 in
theorem K_X9_25 (hG : Gf g) (hU : ∀ o k, U o k = true → o < 25) (hs0 : ∀ o, 25 < o → ∀ k, σ o k = 0) : Kc g 9 M_X9_init [(18, 25)] 25 45 (zUn U 25 []) U σ 20 3490 (fun s => (∃ T2, CT s 25 T2 ∧ TOK T2 ∧ TF T2 ∧ zTw T2 ∧ zEmp T2) ∧ Fr (fun o => 25 ≤ o ∧ o ≤ 25 + 18) σ s) := by
  have z : ∀ a k, 0 < a → σ (25 + a) k = 0 := fun a k ha => hs0 _ (by omega) k
  have hc : CT σ 25 (fun a => σ (25 + a)) := ⟨by show σ 25 = σ (25 + 0); rfl, fun a _ _ _ => rfl⟩
  have hz : zRg (fun a => σ (25 + a)) := ⟨fun h _ _ => by have a := z 6 h (by decide); have b := z 7 h (by decide); show (0 ≤ σ (25 + 6) h ∧ σ (25 + 6) h ≤ 9) ∧ 0 ≤ σ (25 + 7) h ∧ σ (25 + 7) h ≤ 9; omega, fun c _ _ => by have a := z 8 c (by decide); have b := z 9 c (by decide); show (0 ≤ σ (25 + 8) c ∧ σ (25 + 8) c ≤ 5) ∧ 0 ≤ σ (25 + 9) c ∧ σ (25 + 9) c ≤ 99; omega⟩
  have hC : Cl (gR g (zLs (bkT 25))) := clL g (by decide +kernel)
  have hN : ∀ o, zLs (bkT 25) o → 1 ≤ o ∧ o ≤ (45 : Nat) := fun o h => by have := bkT_iff.mp h; omega
  have hg : ∀ o, zLs (bkT 25) o → gr g o := fun o h => hG o (hN o h).1 (by have := (hN o h).2; omega)
  have hV : ∀ o, zLs (bkT 25) o → ∀ k, U o k = false := fun o h k => by
    have := bkT_iff.mp h
    cases u : U o k with
    | false => rfl
    | true => exact absurd (hU o k u) (by omega)
  have hva : ∀ x ∈ [((10 + 8 : Nat), (25 : Int))], vld (gR g (zLs (bkT 25))) x := fun x hx => by rw [List.mem_singleton.mp hx]; exact vld_of (by decide) ⟨bkT_iff.mpr (by omega), rfl⟩
  refine Kc.of (ls := [(18, 25)]) hG pn_X9_init rfl rfl (Nat.le_of_ble_eq_true rfl) rfl ?_
  refine c_aload_n dX9_init_0 rfl rfl ?_
  refine c_objI lo_X9 rfl (Nat.le_of_ble_eq_true rfl) dX9_init_1 ?_
  refine c_aload_n dX9_init_4 rfl rfl ?_
  refine c_iconst dX9_init_5 ?_
  refine c_newI (t := 31) (n := 3) (o := 26) (N' := 26) (c2 := 1) (s2 := 3) rfl ⟨rfl, rfl⟩ rfl rfl (by decide) rfl rfl (by decide) ⟨by decide, by decide⟩ dX9_init_6 ?_
  refine c_putO (ci := 8) (k := 0) (t := 31) (off := 1) (by decide) (by decide) lk_X9_9 rfl rfl rfl rfl rfl (by decide) (fun _ => rfl) (fun _ => rfl) ⟨by decide, by decide⟩ (by decide) rfl dX9_init_8 ?_
  refine c_aload_n dX9_init_11 rfl rfl ?_
  refine c_iconst dX9_init_12 ?_
  refine c_bipush dX9_init_13 rfl ?_
  refine c_multi (t := 32) (ti := 33) (n := 3) (k := 8) (o := 27) (N' := 30) (c2 := 5) (s2 := 30) rfl ⟨rfl, rfl⟩ cl_X9_15 rfl rfl ⟨by decide, by decide⟩ ⟨rfl, rfl⟩ ⟨by decide, by decide⟩ rfl rfl (by decide +kernel) ⟨by decide, by decide⟩ dX9_init_15 ?_
  refine c_putO (ci := 8) (k := 1) (t := 32) (off := 2) (by decide) (by decide) lk_X9_17 rfl rfl rfl rfl rfl (by decide) (fun _ => rfl) (fun _ => rfl) ⟨by decide, by decide⟩ (by decide) rfl dX9_init_19 ?_
  refine c_aload_n dX9_init_22 rfl rfl ?_
  refine c_bipush dX9_init_23 rfl ?_
  refine c_newI (t := 34) (n := 6) (o := 31) (N' := 31) (c2 := 6) (s2 := 36) rfl ⟨rfl, rfl⟩ rfl rfl (by decide) rfl rfl (by decide) ⟨by decide, by decide⟩ dX9_init_25 ?_
  refine c_putO (ci := 8) (k := 2) (t := 34) (off := 6) (by decide) (by decide) lk_X9_20 rfl rfl rfl rfl rfl (by decide) (fun _ => rfl) (fun _ => rfl) ⟨by decide, by decide⟩ (by decide) rfl dX9_init_27 ?_
  refine c_aload_n dX9_init_30 rfl rfl ?_
  refine c_bipush dX9_init_31 rfl ?_
  refine c_newI (t := 34) (n := 6) (o := 32) (N' := 32) (c2 := 7) (s2 := 42) rfl ⟨rfl, rfl⟩ rfl rfl (by decide) rfl rfl (by decide) ⟨by decide, by decide⟩ dX9_init_33 ?_
  refine c_putO (ci := 8) (k := 3) (t := 34) (off := 7) (by decide) (by decide) lk_X9_23 rfl rfl rfl rfl rfl (by decide) (fun _ => rfl) (fun _ => rfl) ⟨by decide, by decide⟩ (by decide) rfl dX9_init_35 ?_
  refine c_aload_n dX9_init_38 rfl rfl ?_
  refine c_bipush dX9_init_39 rfl ?_
  refine c_newI (t := 33) (n := 8) (o := 33) (N' := 33) (c2 := 8) (s2 := 50) rfl ⟨rfl, rfl⟩ rfl rfl (by decide) rfl rfl (by decide) ⟨by decide, by decide⟩ dX9_init_41 ?_
  refine c_putO (ci := 8) (k := 4) (t := 33) (off := 8) (by decide) (by decide) lk_X9_26 rfl rfl rfl rfl rfl (by decide) (fun _ => rfl) (fun _ => rfl) ⟨by decide, by decide⟩ (by decide) rfl dX9_init_43 ?_
  refine c_aload_n dX9_init_46 rfl rfl ?_
  refine c_bipush dX9_init_47 rfl ?_
  refine c_newI (t := 33) (n := 8) (o := 34) (N' := 34) (c2 := 9) (s2 := 58) rfl ⟨rfl, rfl⟩ rfl rfl (by decide) rfl rfl (by decide) ⟨by decide, by decide⟩ dX9_init_49 ?_
  refine c_putO (ci := 8) (k := 5) (t := 33) (off := 9) (by decide) (by decide) lk_X9_29 rfl rfl rfl rfl rfl (by decide) (fun _ => rfl) (fun _ => rfl) ⟨by decide, by decide⟩ (by decide) rfl dX9_init_51 ?_
  refine c_aload_n dX9_init_54 rfl rfl ?_
  refine c_bipush dX9_init_55 rfl ?_
  refine c_newI (t := 33) (n := 8) (o := 35) (N' := 35) (c2 := 10) (s2 := 66) rfl ⟨rfl, rfl⟩ rfl rfl (by decide) rfl rfl (by decide) ⟨by decide, by decide⟩ dX9_init_57 ?_
  refine c_putO (ci := 8) (k := 6) (t := 33) (off := 10) (by decide) (by decide) lk_X9_32 rfl rfl rfl rfl rfl (by decide) (fun _ => rfl) (fun _ => rfl) ⟨by decide, by decide⟩ (by decide) rfl dX9_init_59 ?_
  refine c_aload_n dX9_init_62 rfl rfl ?_
  refine c_iconst dX9_init_63 ?_
  refine c_newI (t := 35) (n := 4) (o := 36) (N' := 36) (c2 := 11) (s2 := 70) rfl ⟨rfl, rfl⟩ rfl rfl (by decide) rfl rfl (by decide) ⟨by decide, by decide⟩ dX9_init_64 ?_
  refine c_putO (ci := 8) (k := 7) (t := 35) (off := 11) (by decide) (by decide) lk_X9_35 rfl rfl rfl rfl rfl (by decide) (fun _ => rfl) (fun _ => rfl) ⟨by decide, by decide⟩ (by decide) rfl dX9_init_66 ?_
  refine c_aload_n dX9_init_69 rfl rfl ?_
  refine c_iconst dX9_init_70 ?_
  refine c_newI (t := 35) (n := 4) (o := 37) (N' := 37) (c2 := 12) (s2 := 74) rfl ⟨rfl, rfl⟩ rfl rfl (by decide) rfl rfl (by decide) ⟨by decide, by decide⟩ dX9_init_71 ?_
  refine c_putO (ci := 8) (k := 8) (t := 35) (off := 12) (by decide) (by decide) lk_X9_38 rfl rfl rfl rfl rfl (by decide) (fun _ => rfl) (fun _ => rfl) ⟨by decide, by decide⟩ (by decide) rfl dX9_init_73 ?_
  refine c_aload_n dX9_init_76 rfl rfl ?_
  refine c_bipush dX9_init_77 rfl ?_
  refine c_newI (t := 36) (n := 10) (o := 38) (N' := 38) (c2 := 13) (s2 := 84) rfl ⟨rfl, rfl⟩ rfl rfl (by decide) rfl rfl (by decide) ⟨by decide, by decide⟩ dX9_init_79 ?_
  refine c_putO (ci := 8) (k := 9) (t := 36) (off := 13) (by decide) (by decide) lk_X9_41 rfl rfl rfl rfl rfl (by decide) (fun _ => rfl) (fun _ => rfl) ⟨by decide, by decide⟩ (by decide) rfl dX9_init_81 ?_
  refine c_aload_n dX9_init_84 rfl rfl ?_
  refine c_new (ci := 1) (o := 39) (N' := 39) (c2 := 14) (s2 := 87) rfl ⟨rfl, rfl⟩ (by decide) ⟨cl_X9_44, it_X2, in_X2⟩ rfl rfl od_X2 ⟨by decide, by decide⟩ dX9_init_85 ?_
  refine c_dup dX9_init_88 (show (11 : Nat) ≠ 2 by decide) ?_
  refine c_initN (ci := 1) (As := []) (o1 := 39) (st := [(11, 39), (18, 25)]) (Nb := 41) (mc2 := 2) (ms2 := 1696) (c2 := 16) (s2 := 1783) (V2 := zUn U 25 [9, 8, 7, 6, 5, 4, 3, 2, 1, 0]) oi_X9_46 rfl rfl (Nat.le_of_ble_eq_true rfl) rfl ⟨rfl, rfl⟩ ⟨by decide, by decide⟩ dX9_init_89 (K_X2_39 hG (fun o k h => by have := zUn_le h; omega)) (fun σ9 h9 => ?_)
  rw [show σ9 = _ from h9]
  refine c_putO (ci := 8) (k := 10) (t := 11) (off := 14) (by decide) (by decide) lk_X9_47 rfl rfl rfl rfl rfl (by decide) (fun _ => rfl) (fun _ => rfl) ⟨by decide, by decide⟩ (by decide) rfl dX9_init_92 ?_
  refine c_aload_n dX9_init_95 rfl rfl ?_
  refine c_new (ci := 1) (o := 42) (N' := 42) (c2 := 17) (s2 := 1786) rfl ⟨rfl, rfl⟩ (by decide) ⟨cl_X9_44, it_X2, in_X2⟩ rfl rfl od_X2 ⟨by decide, by decide⟩ dX9_init_96 ?_
  refine c_dup dX9_init_99 (show (11 : Nat) ≠ 2 by decide) ?_
  refine c_initN (ci := 1) (As := []) (o1 := 42) (st := [(11, 42), (18, 25)]) (Nb := 44) (mc2 := 2) (ms2 := 1696) (c2 := 19) (s2 := 3482) (V2 := zUn U 25 [10, 9, 8, 7, 6, 5, 4, 3, 2, 1, 0]) oi_X9_46 rfl rfl (Nat.le_of_ble_eq_true rfl) rfl ⟨rfl, rfl⟩ ⟨by decide, by decide⟩ dX9_init_100 (K_X2_42 hG (fun o k h => by have := zUn_le h; omega)) (fun σ9 h9 => ?_)
  rw [show σ9 = _ from h9]
  refine c_putO (ci := 8) (k := 11) (t := 11) (off := 17) (by decide) (by decide) lk_X9_51 rfl rfl rfl rfl rfl (by decide) (fun _ => rfl) (fun _ => rfl) ⟨by decide, by decide⟩ (by decide) rfl dX9_init_103 ?_
  refine c_aload_n dX9_init_106 rfl rfl ?_
  refine c_bipush dX9_init_107 rfl ?_
  refine c_newI (t := 33) (n := 8) (o := 45) (N' := 45) (c2 := 20) (s2 := 3490) rfl ⟨rfl, rfl⟩ rfl rfl (by decide) rfl rfl (by decide) ⟨by decide, by decide⟩ dX9_init_109 ?_
  refine c_putO (ci := 8) (k := 12) (t := 33) (off := 20) (by decide) (by decide) lk_X9_54 rfl rfl rfl rfl rfl (by decide) (fun _ => rfl) (fun _ => rfl) ⟨by decide, by decide⟩ (by decide) rfl dX9_init_111 ?_
  refine c_aload_n dX9_init_114 rfl rfl ?_
  refine c_done (ci := 8) hU rfl (by decide +kernel) ?_
  refine c_call (ci := 8) (As := []) (o1 := 25) (st := []) (R := zLs (bkT 25)) (V2 := U) (by decide) ok_X9_57 rfl rfl rfl (Nat.le_of_ble_eq_true rfl) ⟨by decide, by decide⟩ ⟨by decide, by decide⟩ rfl dX9_init_115 (Kz.of (C_clear (e := 6) hc hz (by unfold isT; omega)) hC hva hN hV (obL (ex := []) (by decide +kernel) (fun q h => by cases h)) hg) hC hN hg hV (fun _ _ => rfl) (fun r s2 h o ho => h.2 o (fun q => ho (bkT_iff.mpr (by omega)))) (fun r σ9 h9 => ?_)
  exact c_ret dX9_init_118 h9
set_option maxRecDepth 20000 in
theorem K_X11_48 (hG : Gf g) (hU : ∀ o k, U o k = true → o < 48) (hUT : ∀ o, 4 ≤ o → o ≤ 4 + 20 → ∀ k, U o k = false) (hT : TOK T) (hc : CT σ 4 T) : Kc g 9 M_X11_init [(19, 48), (18, 4)] 48 54 (zUn U 48 []) U σ 6 164 (fun s => ∃ B, CZ s 48 4 T (B, 0, 0) 0 ∧ BEG T B ∧ Fr (fun o => 48 ≤ o ∧ o ≤ 48 + 6) σ s) := by
  obtain ⟨B, hb⟩ := bgS_ok (th := 48) hT hc (by unfold isW; omega) (Or.inl rfl)
  have hC : Cl (gR g (zLs (bkW 4 48))) := clL g (by decide +kernel)
  have hN : ∀ o, zLs (bkW 4 48) o → 1 ≤ o ∧ o ≤ (54 : Nat) := fun o h => by have := bkW_iff.mp h; omega
  have hg : ∀ o, zLs (bkW 4 48) o → gr g o := fun o h => hG o (hN o h).1 (by have := (hN o h).2; omega)
  have hV : ∀ o, zLs (bkW 4 48) o → ∀ k, U o k = false := fun o h k => by
    rcases bkW_iff.mp h with q | q
    · exact hUT o q.1 q.2 k
    · cases u : U o k with
      | false => rfl
      | true => exact absurd (hU o k u) (by omega)
  refine Kc.of (ls := [(19, 48), (18, 4)]) hG pn_X11_init rfl rfl (Nat.le_of_ble_eq_true rfl) rfl ?_
  refine c_aload_n dX11_init_0 rfl rfl ?_
  refine c_objI lo_X11 rfl (Nat.le_of_ble_eq_true rfl) dX11_init_1 ?_
  refine c_aload_n dX11_init_4 rfl rfl ?_
  refine c_bipush dX11_init_5 rfl ?_
  refine c_newI (t := 33) (n := 8) (o := 49) (N' := 49) (c2 := 1) (s2 := 8) rfl ⟨rfl, rfl⟩ rfl rfl (by decide) rfl rfl (by decide) ⟨by decide, by decide⟩ dX11_init_7 ?_
  refine c_putO (ci := 9) (k := 3) (t := 33) (off := 1) (by decide) (by decide) lk_X11_9 rfl rfl rfl rfl rfl (by decide) (fun _ => rfl) (fun _ => rfl) ⟨by decide, by decide⟩ (by decide) rfl dX11_init_9 ?_
  refine c_aload_n dX11_init_12 rfl rfl ?_
  refine c_bipush dX11_init_13 rfl ?_
  refine c_newI (t := 33) (n := 8) (o := 50) (N' := 50) (c2 := 2) (s2 := 16) rfl ⟨rfl, rfl⟩ rfl rfl (by decide) rfl rfl (by decide) ⟨by decide, by decide⟩ dX11_init_15 ?_
  refine c_putO (ci := 9) (k := 4) (t := 33) (off := 2) (by decide) (by decide) lk_X11_15 rfl rfl rfl rfl rfl (by decide) (fun _ => rfl) (fun _ => rfl) ⟨by decide, by decide⟩ (by decide) rfl dX11_init_17 ?_
  refine c_aload_n dX11_init_20 rfl rfl ?_
  refine c_bipush dX11_init_21 rfl ?_
  refine c_newI (t := 33) (n := 8) (o := 51) (N' := 51) (c2 := 3) (s2 := 24) rfl ⟨rfl, rfl⟩ rfl rfl (by decide) rfl rfl (by decide) ⟨by decide, by decide⟩ dX11_init_23 ?_
  refine c_putO (ci := 9) (k := 5) (t := 33) (off := 3) (by decide) (by decide) lk_X11_18 rfl rfl rfl rfl rfl (by decide) (fun _ => rfl) (fun _ => rfl) ⟨by decide, by decide⟩ (by decide) rfl dX11_init_25 ?_
  refine c_aload_n dX11_init_28 rfl rfl ?_
  refine c_bipush dX11_init_29 rfl ?_
  refine c_newI (t := 39) (n := 64) (o := 52) (N' := 52) (c2 := 4) (s2 := 88) rfl ⟨rfl, rfl⟩ rfl rfl (by decide) rfl rfl (by decide) ⟨by decide, by decide⟩ dX11_init_31 ?_
  refine c_putO (ci := 9) (k := 6) (t := 39) (off := 4) (by decide) (by decide) lk_X11_21 rfl rfl rfl rfl rfl (by decide) (fun _ => rfl) (fun _ => rfl) ⟨by decide, by decide⟩ (by decide) rfl dX11_init_33 ?_
  refine c_aload_n dX11_init_36 rfl rfl ?_
  refine c_bipush dX11_init_37 rfl ?_
  refine c_newI (t := 40) (n := 16) (o := 53) (N' := 53) (c2 := 5) (s2 := 104) rfl ⟨rfl, rfl⟩ rfl rfl (by decide) rfl rfl (by decide) ⟨by decide, by decide⟩ dX11_init_39 ?_
  refine c_putO (ci := 9) (k := 7) (t := 40) (off := 5) (by decide) (by decide) lk_X11_24 rfl rfl rfl rfl rfl (by decide) (fun _ => rfl) (fun _ => rfl) ⟨by decide, by decide⟩ (by decide) rfl dX11_init_41 ?_
  refine c_aload_n dX11_init_44 rfl rfl ?_
  refine c_bipush dX11_init_45 rfl ?_
  refine c_newI (t := 41) (n := 60) (o := 54) (N' := 54) (c2 := 6) (s2 := 164) rfl ⟨rfl, rfl⟩ rfl rfl (by decide) rfl rfl (by decide) ⟨by decide, by decide⟩ dX11_init_47 ?_
  refine c_putO (ci := 9) (k := 8) (t := 41) (off := 6) (by decide) (by decide) lk_X11_27 rfl rfl rfl rfl rfl (by decide) (fun _ => rfl) (fun _ => rfl) ⟨by decide, by decide⟩ (by decide) rfl dX11_init_49 ?_
  refine c_aload_n dX11_init_52 rfl rfl ?_
  refine c_aload_n dX11_init_53 rfl rfl ?_
  refine c_call (ci := 9) (As := [(18, 4)]) (o1 := 48) (st := []) (R := zLs (bkW 4 48)) (V2 := U) (by decide) ok_X11_30 rfl rfl rfl (Nat.le_of_ble_eq_true rfl) ⟨by decide, by decide⟩ ⟨by decide, by decide⟩ rfl dX11_init_54 (Kz_begin (e := 5) (L := [8, 7, 6, 5, 4, 3]) hG (by unfold isW; omega) (Or.inl rfl) ⟨by decide, by decide⟩ hU hUT (by decide +kernel)) hC hN hg hV (fun o ho => funext fun k => ?_) (fun r s2 h o ho => by rw [show s2 = _ from h]; exact hb.2.2 o (fun q => ho (bkW_iff.mpr (by omega)))) (fun r σ9 h9 => ?_)
  · by_cases l : o < 48
    · exact (zUn_lt l).symm
    · have q : 48 < o := Classical.byContradiction fun q => ho (bkW_iff.mpr (by omega))
      rw [zUn_gt q]
      cases u : U o k with
      | false => rfl
      | true => exact absurd (hU o k u) (by omega)
  rw [show σ9 = _ from h9]
  exact c_ret dX11_init_57 ⟨B, hb⟩
set_option maxRecDepth 20000 in
theorem K_X11_58 (hG : Gf g) (hU : ∀ o k, U o k = true → o < 58) (hUT : ∀ o, 4 ≤ o → o ≤ 4 + 20 → ∀ k, U o k = false) (hT : TOK T) (hc : CT σ 4 T) : Kc g 8 M_X11_init [(19, 58), (18, 4)] 58 64 (zUn U 58 []) U σ 6 164 (fun s => ∃ B, CZ s 58 4 T (B, 0, 0) 0 ∧ BEG T B ∧ Fr (fun o => 58 ≤ o ∧ o ≤ 58 + 6) σ s) := by
  obtain ⟨B, hb⟩ := bgS_ok (th := 58) hT hc (by unfold isW; omega) (Or.inl rfl)
  have hC : Cl (gR g (zLs (bkW 4 58))) := clL g (by decide +kernel)
  have hN : ∀ o, zLs (bkW 4 58) o → 1 ≤ o ∧ o ≤ (64 : Nat) := fun o h => by have := bkW_iff.mp h; omega
  have hg : ∀ o, zLs (bkW 4 58) o → gr g o := fun o h => hG o (hN o h).1 (by have := (hN o h).2; omega)
  have hV : ∀ o, zLs (bkW 4 58) o → ∀ k, U o k = false := fun o h k => by
    rcases bkW_iff.mp h with q | q
    · exact hUT o q.1 q.2 k
    · cases u : U o k with
      | false => rfl
      | true => exact absurd (hU o k u) (by omega)
  refine Kc.of (ls := [(19, 58), (18, 4)]) hG pn_X11_init rfl rfl (Nat.le_of_ble_eq_true rfl) rfl ?_
  refine c_aload_n dX11_init_0 rfl rfl ?_
  refine c_objI lo_X11 rfl (Nat.le_of_ble_eq_true rfl) dX11_init_1 ?_
  refine c_aload_n dX11_init_4 rfl rfl ?_
  refine c_bipush dX11_init_5 rfl ?_
  refine c_newI (t := 33) (n := 8) (o := 59) (N' := 59) (c2 := 1) (s2 := 8) rfl ⟨rfl, rfl⟩ rfl rfl (by decide) rfl rfl (by decide) ⟨by decide, by decide⟩ dX11_init_7 ?_
  refine c_putO (ci := 9) (k := 3) (t := 33) (off := 1) (by decide) (by decide) lk_X11_9 rfl rfl rfl rfl rfl (by decide) (fun _ => rfl) (fun _ => rfl) ⟨by decide, by decide⟩ (by decide) rfl dX11_init_9 ?_
  refine c_aload_n dX11_init_12 rfl rfl ?_
  refine c_bipush dX11_init_13 rfl ?_
  refine c_newI (t := 33) (n := 8) (o := 60) (N' := 60) (c2 := 2) (s2 := 16) rfl ⟨rfl, rfl⟩ rfl rfl (by decide) rfl rfl (by decide) ⟨by decide, by decide⟩ dX11_init_15 ?_
  refine c_putO (ci := 9) (k := 4) (t := 33) (off := 2) (by decide) (by decide) lk_X11_15 rfl rfl rfl rfl rfl (by decide) (fun _ => rfl) (fun _ => rfl) ⟨by decide, by decide⟩ (by decide) rfl dX11_init_17 ?_
  refine c_aload_n dX11_init_20 rfl rfl ?_
  refine c_bipush dX11_init_21 rfl ?_
  refine c_newI (t := 33) (n := 8) (o := 61) (N' := 61) (c2 := 3) (s2 := 24) rfl ⟨rfl, rfl⟩ rfl rfl (by decide) rfl rfl (by decide) ⟨by decide, by decide⟩ dX11_init_23 ?_
  refine c_putO (ci := 9) (k := 5) (t := 33) (off := 3) (by decide) (by decide) lk_X11_18 rfl rfl rfl rfl rfl (by decide) (fun _ => rfl) (fun _ => rfl) ⟨by decide, by decide⟩ (by decide) rfl dX11_init_25 ?_
  refine c_aload_n dX11_init_28 rfl rfl ?_
  refine c_bipush dX11_init_29 rfl ?_
  refine c_newI (t := 39) (n := 64) (o := 62) (N' := 62) (c2 := 4) (s2 := 88) rfl ⟨rfl, rfl⟩ rfl rfl (by decide) rfl rfl (by decide) ⟨by decide, by decide⟩ dX11_init_31 ?_
  refine c_putO (ci := 9) (k := 6) (t := 39) (off := 4) (by decide) (by decide) lk_X11_21 rfl rfl rfl rfl rfl (by decide) (fun _ => rfl) (fun _ => rfl) ⟨by decide, by decide⟩ (by decide) rfl dX11_init_33 ?_
  refine c_aload_n dX11_init_36 rfl rfl ?_
  refine c_bipush dX11_init_37 rfl ?_
  refine c_newI (t := 40) (n := 16) (o := 63) (N' := 63) (c2 := 5) (s2 := 104) rfl ⟨rfl, rfl⟩ rfl rfl (by decide) rfl rfl (by decide) ⟨by decide, by decide⟩ dX11_init_39 ?_
  refine c_putO (ci := 9) (k := 7) (t := 40) (off := 5) (by decide) (by decide) lk_X11_24 rfl rfl rfl rfl rfl (by decide) (fun _ => rfl) (fun _ => rfl) ⟨by decide, by decide⟩ (by decide) rfl dX11_init_41 ?_
  refine c_aload_n dX11_init_44 rfl rfl ?_
  refine c_bipush dX11_init_45 rfl ?_
  refine c_newI (t := 41) (n := 60) (o := 64) (N' := 64) (c2 := 6) (s2 := 164) rfl ⟨rfl, rfl⟩ rfl rfl (by decide) rfl rfl (by decide) ⟨by decide, by decide⟩ dX11_init_47 ?_
  refine c_putO (ci := 9) (k := 8) (t := 41) (off := 6) (by decide) (by decide) lk_X11_27 rfl rfl rfl rfl rfl (by decide) (fun _ => rfl) (fun _ => rfl) ⟨by decide, by decide⟩ (by decide) rfl dX11_init_49 ?_
  refine c_aload_n dX11_init_52 rfl rfl ?_
  refine c_aload_n dX11_init_53 rfl rfl ?_
  refine c_call (ci := 9) (As := [(18, 4)]) (o1 := 58) (st := []) (R := zLs (bkW 4 58)) (V2 := U) (by decide) ok_X11_30 rfl rfl rfl (Nat.le_of_ble_eq_true rfl) ⟨by decide, by decide⟩ ⟨by decide, by decide⟩ rfl dX11_init_54 (Kz_begin (e := 4) (L := [8, 7, 6, 5, 4, 3]) hG (by unfold isW; omega) (Or.inl rfl) ⟨by decide, by decide⟩ hU hUT (by decide +kernel)) hC hN hg hV (fun o ho => funext fun k => ?_) (fun r s2 h o ho => by rw [show s2 = _ from h]; exact hb.2.2 o (fun q => ho (bkW_iff.mpr (by omega)))) (fun r σ9 h9 => ?_)
  · by_cases l : o < 58
    · exact (zUn_lt l).symm
    · have q : 58 < o := Classical.byContradiction fun q => ho (bkW_iff.mpr (by omega))
      rw [zUn_gt q]
      cases u : U o k with
      | false => rfl
      | true => exact absurd (hU o k u) (by omega)
  rw [show σ9 = _ from h9]
  exact c_ret dX11_init_57 ⟨B, hb⟩
set_option maxRecDepth 20000 in
theorem K_X5_55 (hG : Gf g) (hU : ∀ o k, U o k = true → o < 55) (hUT : ∀ o, 4 ≤ o → o ≤ 4 + 20 → ∀ k, U o k = false) (hT : TOK T) (hc : CT σ 4 T) : Kc g 9 M_X5_init [(14, 55), (18, 4)] 55 64 (zUn U 55 []) U σ 9 189 (fun s => ∃ B, CZ s 58 4 T (B, 0, 0) 0 ∧ BEG T B ∧ Fr (fun o => 58 ≤ o ∧ o ≤ 58 + 6) σ s) := by
  refine Kc.of (ls := [(14, 55), (18, 4)]) hG pn_X5_init rfl rfl (Nat.le_of_ble_eq_true rfl) rfl ?_
  refine c_aload_n dX5_init_0 rfl rfl ?_
  refine c_objI lo_X5 rfl (Nat.le_of_ble_eq_true rfl) dX5_init_1 ?_
  refine c_aload_n dX5_init_4 rfl rfl ?_
  refine c_bipush dX5_init_5 rfl ?_
  refine c_newI (t := 34) (n := 6) (o := 56) (N' := 56) (c2 := 1) (s2 := 6) rfl ⟨rfl, rfl⟩ rfl rfl (by decide) rfl rfl (by decide) ⟨by decide, by decide⟩ dX5_init_7 ?_
  refine c_putO (ci := 4) (k := 1) (t := 34) (off := 1) (by decide) (by decide) lk_X5_9 rfl rfl rfl rfl rfl (by decide) (fun _ => rfl) (fun _ => rfl) ⟨by decide, by decide⟩ (by decide) rfl dX5_init_9 ?_
  refine c_aload_n dX5_init_12 rfl rfl ?_
  refine c_bipush dX5_init_13 rfl ?_
  refine c_newI (t := 34) (n := 6) (o := 57) (N' := 57) (c2 := 2) (s2 := 12) rfl ⟨rfl, rfl⟩ rfl rfl (by decide) rfl rfl (by decide) ⟨by decide, by decide⟩ dX5_init_15 ?_
  refine c_putO (ci := 4) (k := 3) (t := 34) (off := 2) (by decide) (by decide) lk_X5_15 rfl rfl rfl rfl rfl (by decide) (fun _ => rfl) (fun _ => rfl) ⟨by decide, by decide⟩ (by decide) rfl dX5_init_17 ?_
  refine c_aload_n dX5_init_20 rfl rfl ?_
  refine c_new (ci := 9) (o := 58) (N' := 58) (c2 := 3) (s2 := 25) rfl ⟨rfl, rfl⟩ (by decide) ⟨cl_X5_18, it_X11, in_X11⟩ rfl rfl od_X11 ⟨by decide, by decide⟩ dX5_init_21 ?_
  refine c_dup dX5_init_24 (show (19 : Nat) ≠ 2 by decide) ?_
  refine c_aload_n dX5_init_25 rfl rfl ?_
  refine c_init (ci := 9) (As := [(18, 4)]) (o1 := 58) (st := [(19, 58), (14, 55)]) (Nb := 64) (mc2 := 6) (ms2 := 164) (c2 := 9) (s2 := 189) (V2 := zUn U 55 [3, 1]) oi_X5_20 rfl rfl (Nat.le_of_ble_eq_true rfl) rfl ⟨rfl, rfl⟩ ⟨by decide, by decide⟩ dX5_init_26 (K_X11_58 hG (fun o k h => by have := zUn_le h; omega) (fun o a b k => by rw [zUn_lt (by omega)]; exact hUT o a b k) hT hc) (fun σ9 h9 => ?_)
  refine c_putO (ci := 4) (k := 0) (t := 19) (off := 3) (by decide) (by decide) lk_X5_23 rfl rfl rfl rfl rfl (by decide) (fun _ => rfl) (fun _ => rfl) ⟨by decide, by decide⟩ (by decide) rfl dX5_init_29 ?_
  refine c_done (ci := 4) hU rfl (by decide +kernel) ?_
  exact c_ret dX5_init_32 h9
end KCTOR
