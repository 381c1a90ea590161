/-! the class's constructor, and what it leaves -/
def zU0 : Ut := fun _ _ => false
def zIni (s : Sg) : Prop := (∃ T B, CZ s 48 4 T (B, 0, 0) 0 ∧ BEG T B ∧ TF T ∧ zEmp T) ∧ (∃ T0, CT s 25 T0 ∧ TOK T0) ∧ (s 1 8 = 4 ∧ s 1 9 = 25 ∧ s 1 10 = 0 ∧ s 1 11 = -1 ∧ s 1 12 = 1) ∧ (s 46 1 = 25 ∧ s 46 2 = 39 ∧ s 48 0 = 4 ∧ s 58 0 = 4) ∧ ∀ o, (o = 2 ∨ o = 65 ∨ o = 87 ∨ o = 89 ∨ 91 ≤ o) → ∀ k, s o k = 0
theorem CZ.fr2 {J : Int → Prop} {s s2 : Sg} {th tw : Int} {T : Tn} {X : WX} {b : Int} (h : CZ s th tw T X b) (hf : Fr J s s2) (h1 : ∀ o, th ≤ o → o ≤ th + 6 → ¬ J o) (h2 : ∀ o, tw ≤ o → o ≤ tw + 18 → ¬ J o) : CZ s2 th tw T X b := by
  obtain ⟨⟨a1, a2, a3, a4, a5, a6, a7⟩, b1, b2, b3⟩ := h
  have e := hf th (h1 _ (by omega) (by omega))
  exact ⟨⟨a1, a2, by rw [e]; exact a3, a4.fr hf (fun o p q _ => h2 o p q), a5.fr hf h1, a6, a7⟩, by rw [e]; exact b1, by rw [e]; exact b2, by rw [e]; exact b3⟩
theorem zIni_of {σ σ1 σ2 σ3 σ4 σ5 : Sg} {T T0 : Tn} {B B5 : Wd} (hs0 : ∀ o k, σ o k = 0) (c1 : CT σ1 4 T) (t1 : TOK T) (f1 : TF T) (z1 : zEmp T) (r1 : Fr (fun o => 4 ≤ o ∧ o ≤ 4 + 18) σ σ1) (c2 : CT σ2 25 T0) (t2 : TOK T0) (r2 : Fr (fun o => 25 ≤ o ∧ o ≤ 25 + 18) (ups σ1 1 8 (4)) σ2)
    (a3 : σ3 46 1 = 25) (b3 : σ3 46 2 = 39) (r3 : Fr (fun o => o = 46 ∨ o = 47) (ups σ2 1 9 (25)) σ3) (z4 : CZ σ4 48 4 T (B, 0, 0) 0) (b4 : BEG T B) (r4 : Fr (fun o => 48 ≤ o ∧ o ≤ 48 + 6) σ3 σ4) (z5 : CZ σ5 58 4 T (B5, 0, 0) 0) (r5 : Fr (fun o => 58 ≤ o ∧ o ≤ 58 + 6) σ4 σ5) :
    zIni (ups (ups (ups σ5 1 10 (0)) 1 11 (-1)) 1 12 (1)) := by
  generalize hE : ups (ups (ups σ5 1 10 (0)) 1 11 (-1)) 1 12 (1) = s
  have e1 : ∀ o, o ≠ 1 → s o = σ5 o := fun o h => by rw [← hE, ups_at _ h, ups_at _ h, ups_at _ h]
  have e2 : ∀ k, k < 10 → s 1 k = σ5 1 k := fun k h => by rw [← hE, ups_k _ (by omega), ups_k _ (by omega), ups_k _ (by omega)]
  have e5 : ∀ o, ¬ (58 ≤ o ∧ o ≤ 64) → σ5 o = σ4 o := fun o h => r5 o (by omega)
  have e4 : ∀ o, ¬ (48 ≤ o ∧ o ≤ 54) → σ4 o = σ3 o := fun o h => r4 o (by omega)
  have e53 : ∀ o, o < 48 → σ5 o = σ3 o := fun o h => (e5 o (by omega)).trans (e4 o (by omega))
  have f1a : Fr (fun o => o = 1 ∨ (58 ≤ o ∧ o ≤ 64)) σ4 s := fun o h => (e1 o (by omega)).trans (e5 o (by omega))
  refine ⟨⟨T, B, z4.fr2 f1a (fun o p q u => by omega) (fun o p q u => by omega), b4, f1, z1⟩, ⟨T0, ?_, t2⟩, ⟨?_, ?_, ?_, ?_, ?_⟩, ⟨?_, ?_, ?_, ?_⟩, fun o ho k => ?_⟩
  · refine c2.fr (J := fun o => ¬ (25 ≤ o ∧ o ≤ 45)) (fun o h => ?_) (fun o p q _ u => u ⟨p, by omega⟩)
    have h := Classical.not_not.mp h
    rw [e1 o (by omega), e53 o (by omega), r3 o (by omega), ups_at _ (by omega)]
  · rw [e2 8 (by decide), e53 1 (by decide), r3 1 (by decide), ups_k _ (by decide), r2 1 (by decide), ups_eq]
  · rw [e2 9 (by decide), e53 1 (by decide), r3 1 (by decide), ups_eq]
  · rw [← hE, ups_k _ (by decide), ups_k _ (by decide), ups_eq]
  · rw [← hE, ups_k _ (by decide), ups_eq]
  · rw [← hE, ups_eq]
  · rw [e1 46 (by decide), e53 46 (by decide)]; exact a3
  · rw [e1 46 (by decide), e53 46 (by decide)]; exact b3
  · rw [e1 48 (by decide), e5 48 (by omega)]; exact z4.1.2.2.1
  · rw [e1 58 (by decide)]; exact z5.1.2.2.1
  · rw [e1 o (by omega), e5 o (by omega), e4 o (by omega), r3 o (by omega), ups_at _ (by omega), r2 o (by omega), ups_at _ (by omega), r1 o (by omega)]
    exact hs0 o k
section KSTONE
variable {g : GT} {σ : Sg}
set_option maxRecDepth 20000 in
theorem K_X12_1 (hG : Gf g) (hs0 : ∀ o k, σ o k = 0) : Kc g 10 M_X12_init [(20, 1)] 1 91 (zUn zU0 1 []) zU0 σ 90 10525 zIni := by
  refine Kc.of (ls := [(20, 1)]) hG pn_X12_init rfl rfl (Nat.le_of_ble_eq_true rfl) rfl ?_
  refine c_aload_n dX12_init_0 rfl rfl ?_
  refine c_objI lo_X12 rfl (Nat.le_of_ble_eq_true rfl) dX12_init_1 ?_
  refine c_aload_n dX12_init_4 rfl rfl ?_
  refine c_new (ci := 7) (o := 2) (N' := 2) (c2 := 1) (s2 := 2) rfl ⟨rfl, rfl⟩ (by decide) ⟨cl_X12_7, it_X8, in_X8⟩ rfl rfl od_X8 ⟨by decide, by decide⟩ dX12_init_5 ?_
  refine c_dup dX12_init_8 (show (17 : Nat) ≠ 2 by decide) ?_
  refine c_initN (ci := 7) (As := []) (o1 := 2) (st := [(17, 2), (20, 1)]) (Nb := 3) (mc2 := 1) (ms2 := 1600) (c2 := 2) (s2 := 1602) (V2 := zUn zU0 1 []) oi_X12_9 rfl rfl (Nat.le_of_ble_eq_true rfl) rfl ⟨rfl, rfl⟩ ⟨by decide, by decide⟩ dX12_init_9 (K_X8_2 hG (fun o k h => by have := zUn_le h; omega)) (fun σ9 h9 => ?_)
  rw [show σ9 = _ from h9]
  refine c_putO (ci := 10) (k := 0) (t := 17) (off := 1) (by decide) (by decide) lk_X12_10 rfl rfl rfl rfl rfl (by decide) (fun _ => rfl) (fun _ => rfl) ⟨by decide, by decide⟩ (by decide) rfl dX12_init_12 ?_
  refine c_aload_n dX12_init_15 rfl rfl ?_
  refine c_new (ci := 8) (o := 4) (N' := 4) (c2 := 3) (s2 := 1621) rfl ⟨rfl, rfl⟩ (by decide) ⟨cl_X12_16, it_X9, in_X9⟩ rfl rfl od_X9 ⟨by decide, by decide⟩ dX12_init_16 ?_
  refine c_dup dX12_init_19 (show (18 : Nat) ≠ 2 by decide) ?_
  refine c_init (ci := 8) (As := []) (o1 := 4) (st := [(18, 4), (20, 1)]) (Nb := 24) (mc2 := 20) (ms2 := 3490) (c2 := 23) (s2 := 5111) (V2 := zUn zU0 1 [0]) oi_X12_18 rfl rfl (Nat.le_of_ble_eq_true rfl) rfl ⟨rfl, rfl⟩ ⟨by decide, by decide⟩ dX12_init_20 (K_X9_4 hG (fun o k h => by have := zUn_le h; omega) (fun o _ k => hs0 o k)) (fun σ1 h1 => ?_)
  obtain ⟨⟨T, c1, t1, f1, w1, z1⟩, r1⟩ := h1
  refine c_putN (ci := 10) (k := 8) (t := 18) (σ2 := (ups σ1 1 8 (4))) (by decide) (by decide) lk_X12_19 rfl rfl rfl ⟨⟨by decide, by decide⟩, rfl⟩ (by rw [conc_o (by decide)]; rfl) (by rw [conc_o (by decide)]; rfl) zS_up ⟨by decide, by decide⟩ (by decide) rfl dX12_init_23 ?_
  refine c_aload_n dX12_init_26 rfl rfl ?_
  refine c_new (ci := 8) (o := 25) (N' := 25) (c2 := 24) (s2 := 5130) rfl ⟨rfl, rfl⟩ (by decide) ⟨cl_X12_16, it_X9, in_X9⟩ rfl rfl od_X9 ⟨by decide, by decide⟩ dX12_init_27 ?_
  refine c_dup dX12_init_30 (show (18 : Nat) ≠ 2 by decide) ?_
  refine c_init (ci := 8) (As := []) (o1 := 25) (st := [(18, 25), (20, 1)]) (Nb := 45) (mc2 := 20) (ms2 := 3490) (c2 := 44) (s2 := 8620) (V2 := zUn zU0 1 [8, 0]) oi_X12_18 rfl rfl (Nat.le_of_ble_eq_true rfl) rfl ⟨rfl, rfl⟩ ⟨by decide, by decide⟩ dX12_init_31 (K_X9_25 hG (fun o k h => by have := zUn_le h; omega) (fun o q k => by rw [ups_at _ (by omega), r1 o (by omega)]; exact hs0 o k)) (fun σ2 h2 => ?_)
  obtain ⟨⟨T0, c2, t2, f2, w2, z2⟩, r2⟩ := h2
  refine c_putN (ci := 10) (k := 9) (t := 18) (σ2 := (ups σ2 1 9 (25))) (by decide) (by decide) lk_X12_23 rfl rfl rfl ⟨⟨by decide, by decide⟩, rfl⟩ (by rw [conc_o (by decide)]; rfl) (by rw [conc_o (by decide)]; rfl) zS_up ⟨by decide, by decide⟩ (by decide) rfl dX12_init_34 ?_
  refine c_aload_n dX12_init_37 rfl rfl ?_
  refine c_new (ci := 3) (o := 46) (N' := 46) (c2 := 45) (s2 := 8625) rfl ⟨rfl, rfl⟩ (by decide) ⟨cl_X12_26, it_X4, in_X4⟩ rfl rfl od_X4 ⟨by decide, by decide⟩ dX12_init_38 ?_
  refine c_dup dX12_init_41 (show (13 : Nat) ≠ 2 by decide) ?_
  refine c_aload_n dX12_init_42 rfl rfl ?_
  refine c_getf (ci := 10) (k := 0) (t := 17) (v := 2) (by decide) (by decide) lk_X12_10 rfl rfl ⟨by decide, by decide⟩ rfl (by rw [zUn_lt (by decide), zUn_at]; rfl) dX12_init_43 ?_
  refine c_aload_n dX12_init_46 rfl rfl ?_
  refine c_getf (ci := 10) (k := 9) (t := 18) (v := 25) (by decide) (by decide) lk_X12_23 rfl (show ups σ2 1 9 25 1 9 = 25 from ups_eq _ _ _ _) ⟨by decide, by decide⟩ rfl (by rw [zUn_lt (by decide), zUn_at]; rfl) dX12_init_47 ?_
  refine c_init (ci := 3) (As := [(17, 2), (18, 25)]) (o1 := 46) (st := [(13, 46), (20, 1)]) (Nb := 47) (mc2 := 1) (ms2 := 8) (c2 := 46) (s2 := 8633) (V2 := zUn zU0 1 [9, 8, 0]) oi_X12_28 rfl rfl (Nat.le_of_ble_eq_true rfl) rfl ⟨rfl, rfl⟩ ⟨by decide, by decide⟩ dX12_init_50 (K_X4_46 hG (fun o k h => by have := zUn_le h; omega) (zUn_gt (by decide))) (fun σ3 h3 => ?_)
  obtain ⟨a3, b3, r3⟩ := h3
  have v3 : σ3 1 8 = 4 := by rw [r3 1 (by decide), ups_k _ (by decide), r2 1 (by decide), ups_eq]
  have q13 : ∀ o, (4 ≤ o ∧ o ≤ 24) → σ3 o = σ1 o := fun o ho => by rw [r3 o (by omega), ups_at _ (by omega), r2 o (by omega), ups_at _ (by omega)]
  have c3 : CT σ3 4 T := c1.fr (J := fun o => ¬ (4 ≤ o ∧ o ≤ 24)) (fun o ho => q13 o (Classical.not_not.mp ho)) (fun o a b _ q => q ⟨a, by omega⟩)
  refine c_putO (ci := 10) (k := 1) (t := 13) (off := 45) (by decide) (by decide) lk_X12_31 rfl rfl rfl rfl rfl (by decide) (fun _ => rfl) (fun _ => rfl) ⟨by decide, by decide⟩ (by decide) rfl dX12_init_53 ?_
  refine c_aload_n dX12_init_56 rfl rfl ?_
  refine c_new (ci := 9) (o := 48) (N' := 48) (c2 := 47) (s2 := 8646) rfl ⟨rfl, rfl⟩ (by decide) ⟨cl_X12_35, it_X11, in_X11⟩ rfl rfl od_X11 ⟨by decide, by decide⟩ dX12_init_57 ?_
  refine c_dup dX12_init_60 (show (19 : Nat) ≠ 2 by decide) ?_
  refine c_aload_n dX12_init_61 rfl rfl ?_
  refine c_getf (ci := 10) (k := 8) (t := 18) (v := 4) (by decide) (by decide) lk_X12_19 rfl (show σ3 1 8 = 4 from v3) ⟨by decide, by decide⟩ rfl (by rw [zUn_lt (by decide), zUn_at]; rfl) dX12_init_62 ?_
  refine c_init (ci := 9) (As := [(18, 4)]) (o1 := 48) (st := [(19, 48), (20, 1)]) (Nb := 54) (mc2 := 6) (ms2 := 164) (c2 := 53) (s2 := 8810) (V2 := zUn zU0 1 [1, 9, 8, 0]) oi_X12_37 rfl rfl (Nat.le_of_ble_eq_true rfl) rfl ⟨rfl, rfl⟩ ⟨by decide, by decide⟩ dX12_init_65 (K_X11_48 hG (fun o k h => by have := zUn_le h; omega) (fun o a _ k => zUn_gt (by omega)) t1 c3) (fun σ4 h4 => ?_)
  obtain ⟨B, z4, b4, r4⟩ := h4
  have v4 : σ4 1 8 = 4 := by rw [r4 1 (by omega)]; exact v3
  have c4 : CT σ4 4 T := c3.fr r4 (fun o a b _ q => by omega)
  refine c_putO (ci := 10) (k := 2) (t := 19) (off := 47) (by decide) (by decide) lk_X12_40 rfl rfl rfl rfl rfl (by decide) (fun _ => rfl) (fun _ => rfl) ⟨by decide, by decide⟩ (by decide) rfl dX12_init_68 ?_
  refine c_aload_n dX12_init_71 rfl rfl ?_
  refine c_new (ci := 4) (o := 55) (N' := 55) (c2 := 54) (s2 := 8815) rfl ⟨rfl, rfl⟩ (by decide) ⟨cl_X12_44, it_X5, in_X5⟩ rfl rfl od_X5 ⟨by decide, by decide⟩ dX12_init_72 ?_
  refine c_dup dX12_init_75 (show (14 : Nat) ≠ 2 by decide) ?_
  refine c_aload_n dX12_init_76 rfl rfl ?_
  refine c_getf (ci := 10) (k := 8) (t := 18) (v := 4) (by decide) (by decide) lk_X12_19 rfl (show σ4 1 8 = 4 from v4) ⟨by decide, by decide⟩ rfl (by rw [zUn_lt (by decide), zUn_at]; rfl) dX12_init_77 ?_
  refine c_init (ci := 4) (As := [(18, 4)]) (o1 := 55) (st := [(14, 55), (20, 1)]) (Nb := 64) (mc2 := 9) (ms2 := 189) (c2 := 63) (s2 := 9004) (V2 := zUn zU0 1 [2, 1, 9, 8, 0]) oi_X12_46 rfl rfl (Nat.le_of_ble_eq_true rfl) rfl ⟨rfl, rfl⟩ ⟨by decide, by decide⟩ dX12_init_80 (K_X5_55 hG (fun o k h => by have := zUn_le h; omega) (fun o a _ k => zUn_gt (by omega)) t1 c4) (fun σ5 h5 => ?_)
  obtain ⟨B5, z5, b5, r5⟩ := h5
  refine c_putO (ci := 10) (k := 3) (t := 14) (off := 54) (by decide) (by decide) lk_X12_47 rfl rfl rfl rfl rfl (by decide) (fun _ => rfl) (fun _ => rfl) ⟨by decide, by decide⟩ (by decide) rfl dX12_init_83 ?_
  refine c_aload_n dX12_init_86 rfl rfl ?_
  refine c_new (ci := 0) (o := 65) (N' := 65) (c2 := 64) (s2 := 9007) rfl ⟨rfl, rfl⟩ (by decide) ⟨cl_X12_51, it_X1, in_X1⟩ rfl rfl od_X1 ⟨by decide, by decide⟩ dX12_init_87 ?_
  refine c_dup dX12_init_90 (show (10 : Nat) ≠ 2 by decide) ?_
  refine c_initN (ci := 0) (As := []) (o1 := 65) (st := [(10, 65), (20, 1)]) (Nb := 86) (mc2 := 21) (ms2 := 1440) (c2 := 85) (s2 := 10447) (V2 := zUn zU0 1 [3, 2, 1, 9, 8, 0]) oi_X12_53 rfl rfl (Nat.le_of_ble_eq_true rfl) rfl ⟨rfl, rfl⟩ ⟨by decide, by decide⟩ dX12_init_91 (K_X1_65 hG (fun o k h => by have := zUn_le h; omega)) (fun σ9 h9 => ?_)
  rw [show σ9 = _ from h9]
  refine c_putO (ci := 10) (k := 4) (t := 10) (off := 64) (by decide) (by decide) lk_X12_54 rfl rfl rfl rfl rfl (by decide) (fun _ => rfl) (fun _ => rfl) ⟨by decide, by decide⟩ (by decide) rfl dX12_init_94 ?_
  refine c_aload_n dX12_init_97 rfl rfl ?_
  refine c_new (ci := 6) (o := 87) (N' := 87) (c2 := 86) (s2 := 10450) rfl ⟨rfl, rfl⟩ (by decide) ⟨cl_X12_58, it_X7, in_X7⟩ rfl rfl od_X7 ⟨by decide, by decide⟩ dX12_init_98 ?_
  refine c_dup dX12_init_101 (show (16 : Nat) ≠ 2 by decide) ?_
  refine c_initN (ci := 6) (As := []) (o1 := 87) (st := [(16, 87), (20, 1)]) (Nb := 88) (mc2 := 1) (ms2 := 6) (c2 := 87) (s2 := 10456) (V2 := zUn zU0 1 [4, 3, 2, 1, 9, 8, 0]) oi_X12_60 rfl rfl (Nat.le_of_ble_eq_true rfl) rfl ⟨rfl, rfl⟩ ⟨by decide, by decide⟩ dX12_init_102 (K_X7_87 hG (fun o k h => by have := zUn_le h; omega)) (fun σ9 h9 => ?_)
  rw [show σ9 = _ from h9]
  refine c_putO (ci := 10) (k := 5) (t := 16) (off := 86) (by decide) (by decide) lk_X12_61 rfl rfl rfl rfl rfl (by decide) (fun _ => rfl) (fun _ => rfl) ⟨by decide, by decide⟩ (by decide) rfl dX12_init_105 ?_
  refine c_aload_n dX12_init_108 rfl rfl ?_
  refine c_new (ci := 2) (o := 89) (N' := 89) (c2 := 88) (s2 := 10458) rfl ⟨rfl, rfl⟩ (by decide) ⟨cl_X12_65, it_X3, in_X3⟩ rfl rfl od_X3 ⟨by decide, by decide⟩ dX12_init_109 ?_
  refine c_dup dX12_init_112 (show (12 : Nat) ≠ 2 by decide) ?_
  refine c_initN (ci := 2) (As := []) (o1 := 89) (st := [(12, 89), (20, 1)]) (Nb := 90) (mc2 := 1) (ms2 := 61) (c2 := 89) (s2 := 10519) (V2 := zUn zU0 1 [5, 4, 3, 2, 1, 9, 8, 0]) oi_X12_67 rfl rfl (Nat.le_of_ble_eq_true rfl) rfl ⟨rfl, rfl⟩ ⟨by decide, by decide⟩ dX12_init_113 (K_X3_89 hG (fun o k h => by have := zUn_le h; omega)) (fun σ9 h9 => ?_)
  rw [show σ9 = _ from h9]
  refine c_putO (ci := 10) (k := 6) (t := 12) (off := 88) (by decide) (by decide) lk_X12_68 rfl rfl rfl rfl rfl (by decide) (fun _ => rfl) (fun _ => rfl) ⟨by decide, by decide⟩ (by decide) rfl dX12_init_116 ?_
  refine c_aload_n dX12_init_119 rfl rfl ?_
  refine c_bipush dX12_init_120 rfl ?_
  refine c_newI (t := 34) (n := 6) (o := 91) (N' := 91) (c2 := 90) (s2 := 10525) rfl ⟨rfl, rfl⟩ rfl rfl (by decide) rfl rfl (by decide) ⟨by decide, by decide⟩ dX12_init_122 ?_
  refine c_putO (ci := 10) (k := 7) (t := 34) (off := 90) (by decide) (by decide) lk_X12_72 rfl rfl rfl rfl rfl (by decide) (fun _ => rfl) (fun _ => rfl) ⟨by decide, by decide⟩ (by decide) rfl dX12_init_124 ?_
  refine c_aload_n dX12_init_127 rfl rfl ?_
  refine c_iconst dX12_init_128 ?_
  refine c_putN (ci := 10) (k := 10) (t := 0) (σ2 := (ups σ5 1 10 (0))) (by decide) (by decide) lk_X12_76 rfl rfl rfl (show inR _ by unfold inR; omega) rfl rfl zS_up ⟨by decide, by decide⟩ (by decide) rfl dX12_init_129 ?_
  refine c_aload_n dX12_init_132 rfl rfl ?_
  refine c_iconst dX12_init_133 ?_
  refine c_putN (ci := 10) (k := 11) (t := 0) (σ2 := (ups (ups σ5 1 10 (0)) 1 11 (-1))) (by decide) (by decide) lk_X12_80 rfl rfl rfl (show inR _ by unfold inR; omega) rfl rfl zS_up ⟨by decide, by decide⟩ (by decide) rfl dX12_init_134 ?_
  refine c_aload_n dX12_init_137 rfl rfl ?_
  refine c_iconst dX12_init_138 ?_
  refine c_putN (ci := 10) (k := 12) (t := 0) (σ2 := (ups (ups (ups σ5 1 10 (0)) 1 11 (-1)) 1 12 (1))) (by decide) (by decide) lk_X12_83 rfl rfl rfl (show inR _ by unfold inR; omega) rfl rfl zS_up ⟨by decide, by decide⟩ (by decide) rfl dX12_init_139 ?_
  refine c_done (ci := 10) (fun o k q => by cases q) rfl (by decide +kernel) ?_
  exact c_ret dX12_init_142 (zIni_of hs0 c1 t1 f1 z1 r1 c2 t2 r2 a3 b3 r3 z4 b4 r4 z5 r5)
end KSTONE
