set_option maxRecDepth 20000 in
theorem S_X1_forget {g : GT} {e : Nat} {Q : Int → Sg → Prop} {s : Sg} (h : (∀ s1, s1 = ups s 65 1 0 → Q 0 s1)) : Mw g (e + 1) M_X1_forget [(10, 65)] s Q := by
  refine Mw.of (ls := [(10, 65)]) pn_X1_forget (Nat.le_of_ble_eq_true rfl) rfl (fun hv => ?_)
  refine r_aload_n dX1_forget_0 rfl rfl ?_
  refine r_iconst dX1_forget_1 (by decide) ?_
  refine pf_X1_16 rfl dX1_forget_2 ?_
  have h := h _ rfl
  generalize hs_s1 : ups s 65 1 0 = s1 at h ⊢
  exact r_ret dX1_forget_5 rfl h
abbrev P_X1_save_33 (g : GT) (e : Nat) (Q : Int → Sg → Prop) (s : Sg) (v1 : Int) (v2 : Int) (v3 : Int) : Prop := Wp g (e + 1) M_X1_save Q 33 [(10, 65), (19, v1), (43, v2), (0, v3), (9, 0)] [] s
set_option maxRecDepth 20000 in
theorem S_X1_save_33 {g : GT} {e : Nat} {Q : Int → Sg → Prop} {s : Sg} {v1 : Int} {v2 : Int} {v3 : Int} (h : ((8 ≤ v3 → (∀ s1, s1 = cpy s (v1 + 6) 0 v2 11 60 → (∀ s2, s2 = ups s1 65 2 (Int.tmod (w32 ((s1 65 2) + 1)) 20) → (∀ s3, s3 = ups s2 65 1 (min 20 (w32 ((s2 65 1) + 1))) → Q 0 s3)))) ∧ (¬ 8 ≤ v3 → ((0 ≤ v3 ∧ v3 < 8) ∧ ((0 ≤ v3 ∧ v3 < 8) ∧ ((0 ≤ v3 ∧ v3 < 8) ∧ ((0 ≤ (w32 (3 + v3)) ∧ (w32 (3 + v3)) < 71) ∧ ∀ s4, s4 = ups s v2 (w32 (3 + v3)) (bOr (bOr (bShl (s (v1 + 2) v3) 12) (bShl (w32 ((s (v1 + 3) v3) + 1)) 4)) (s (v1 + 1) v3)) → P_X1_save_33 g e Q s4 v1 v2 (w32 (v3 + 1))))))))) : P_X1_save_33 g e Q s v1 v2 v3 := by
  refine r_iload_n dX1_save_33 rfl ?_
  refine r_bipush dX1_save_34 (by decide) rfl ?_
  refine r_icmp_ge (tgt := 81) dX1_save_36 (by decide) (fun hc => ?_) (fun hc => ?_)
  · have h := h.1 hc
    refine r_aload_n dX1_save_81 rfl rfl ?_
    refine gf_X1_44 rfl dX1_save_82 ?_
    refine r_iconst dX1_save_85 (by decide) ?_
    refine r_aload_n dX1_save_86 rfl rfl ?_
    refine r_bipush dX1_save_87 (by decide) rfl ?_
    refine r_bipush dX1_save_89 (by decide) rfl ?_
    refine r_copy (n0 := 60) (n1 := 71) lm_X1_47 (Nat.le_of_ble_eq_true rfl) rfl (by decide) rfl (by decide) dX1_save_91 (by decide) ?_
    have h := h _ rfl
    generalize hs_s1 : cpy s (v1 + 6) 0 v2 11 60 = s1 at h ⊢
    refine r_aload_n dX1_save_94 rfl rfl ?_
    refine r_aload_n dX1_save_95 rfl rfl ?_
    refine gf_X1_20 rfl dX1_save_96 ?_
    refine r_iconst dX1_save_99 (by decide) ?_
    refine r_iadd dX1_save_100 ?_
    refine r_bipush dX1_save_101 (by decide) rfl ?_
    refine r_irem dX1_save_103 (by decide) ?_
    refine pf_X1_20 rfl dX1_save_104 ?_
    have h := h _ rfl
    generalize hs_s2 : ups s1 65 2 (Int.tmod (w32 ((s1 65 2) + 1)) 20) = s2 at h ⊢
    refine r_aload_n dX1_save_107 rfl rfl ?_
    refine r_bipush dX1_save_108 (by decide) rfl ?_
    refine r_aload_n dX1_save_110 rfl rfl ?_
    refine gf_X1_16 rfl dX1_save_111 ?_
    refine r_iconst dX1_save_114 (by decide) ?_
    refine r_iadd dX1_save_115 ?_
    refine r_minI lm_X1_53 (Nat.le_of_ble_eq_true rfl) dX1_save_116 ?_
    refine pf_X1_16 rfl dX1_save_119 ?_
    have h := h _ rfl
    generalize hs_s3 : ups s2 65 1 (min 20 (w32 ((s2 65 1) + 1))) = s3 at h ⊢
    exact r_ret dX1_save_122 rfl h
  · have h := h.2 hc
    refine r_aload_n dX1_save_39 rfl rfl ?_
    refine gf_X1_34 rfl dX1_save_40 ?_
    refine r_iload_n dX1_save_43 rfl ?_
    obtain ⟨hb, h⟩ := h
    refine r_iald (n := 8) rfl (by decide) dX1_save_44 hb ?_
    refine r_iconst dX1_save_45 (by decide) ?_
    refine r_iadd dX1_save_46 ?_
    refine r_istore (ls2 := [(10, 65), (19, v1), (43, v2), (0, v3), (0, (w32 ((s (v1 + 3) v3) + 1)))]) dX1_save_47 (by decide) rfl ?_
    refine r_aload_n dX1_save_49 rfl rfl ?_
    refine r_iconst dX1_save_50 (by decide) ?_
    refine r_iload_n dX1_save_51 rfl ?_
    refine r_iadd dX1_save_52 ?_
    refine r_aload_n dX1_save_53 rfl rfl ?_
    refine gf_X1_38 rfl dX1_save_54 ?_
    refine r_iload_n dX1_save_57 rfl ?_
    obtain ⟨hb, h⟩ := h
    refine r_iald (n := 8) rfl (by decide) dX1_save_58 hb ?_
    refine r_bipush dX1_save_59 (by decide) rfl ?_
    refine r_ishl dX1_save_61 ?_
    refine r_iload dX1_save_62 rfl ?_
    refine r_iconst dX1_save_64 (by decide) ?_
    refine r_ishl dX1_save_65 ?_
    refine r_ior dX1_save_66 ?_
    refine r_aload_n dX1_save_67 rfl rfl ?_
    refine gf_X1_41 rfl dX1_save_68 ?_
    refine r_iload_n dX1_save_71 rfl ?_
    obtain ⟨hb, h⟩ := h
    refine r_iald (n := 8) rfl (by decide) dX1_save_72 hb ?_
    refine r_ior dX1_save_73 ?_
    obtain ⟨hb, h⟩ := h
    refine r_iast (n := 71) rfl (by decide) dX1_save_74 hb ?_
    have h := h _ rfl
    generalize hs_s4 : ups s v2 (w32 (3 + v3)) (bOr (bOr (bShl (s (v1 + 2) v3) 12) (bShl (w32 ((s (v1 + 3) v3) + 1)) 4)) (s (v1 + 1) v3)) = s4 at h ⊢
    refine r_iinc (ls2 := [(10, 65), (19, v1), (43, v2), (0, (w32 (v3 + 1))), (0, (w32 ((s (v1 + 3) v3) + 1)))]) dX1_save_75 rfl (by decide) rfl ?_
    refine r_goto (tgt := 33) dX1_save_78 (by decide) ?_
    exact r_fgt [true, true, true, true, false] rfl h
set_option maxRecDepth 20000 in
theorem S_X1_save {g : GT} {e : Nat} {Q : Int → Sg → Prop} {s : Sg} {v1 : Int} (h : (gr g v1 ∧ tg v1 = 19) → ((0 ≤ (s 65 2) ∧ (s 65 2) < 20) ∧ (∀ s1, s1 = ups s (67 + (s 65 2)) 0 (s v1 1) → (∀ s2, s2 = ups s1 (67 + (s 65 2)) 1 (s1 v1 2) → (∀ s3, s3 = ups s2 (67 + (s 65 2)) 2 (s2 v1 9) → P_X1_save_33 g e Q s3 v1 (67 + (s 65 2)) 0))))) : Mw g (e + 1) M_X1_save [(10, 65), (19, v1)] s Q := by
  refine Mw.of (ls := [(10, 65), (19, v1), (9, 0), (9, 0), (9, 0)]) pn_X1_save (Nat.le_of_ble_eq_true rfl) rfl (fun hv => ?_)
  have h := h (vld_o (by decide) (hv _ (List.Mem.tail _ (List.Mem.head _))))
  refine r_aload_n dX1_save_0 rfl rfl ?_
  refine gf_X1_13 rfl dX1_save_1 ?_
  refine r_aload_n dX1_save_4 rfl rfl ?_
  refine gf_X1_20 rfl dX1_save_5 ?_
  obtain ⟨hb, h⟩ := h
  refine r_aald (n := 20) (t2 := 43) rfl (by decide) rfl dX1_save_8 hb ?_
  show Wp g (e + 1) M_X1_save Q 9 [(10, 65), (19, v1), (9, 0), (9, 0), (9, 0)] [(43, (67 + (s 65 2)))] s
  refine r_astore_n (ls2 := [(10, 65), (19, v1), (43, (67 + (s 65 2))), (9, 0), (9, 0)]) dX1_save_9 rfl (by decide) rfl ?_
  refine r_aload_n dX1_save_10 rfl rfl ?_
  refine r_iconst dX1_save_11 (by decide) ?_
  refine r_aload_n dX1_save_12 rfl rfl ?_
  refine gf_X1_23 rfl dX1_save_13 ?_
  refine r_iast (n := 71) rfl (by decide) dX1_save_16 (by decide) ?_
  have h := h _ rfl
  generalize hs_s1 : ups s (67 + (s 65 2)) 0 (s v1 1) = s1 at h ⊢
  refine r_aload_n dX1_save_17 rfl rfl ?_
  refine r_iconst dX1_save_18 (by decide) ?_
  refine r_aload_n dX1_save_19 rfl rfl ?_
  refine gf_X1_28 rfl dX1_save_20 ?_
  refine r_iast (n := 71) rfl (by decide) dX1_save_23 (by decide) ?_
  have h := h _ rfl
  generalize hs_s2 : ups s1 (67 + (s 65 2)) 1 (s1 v1 2) = s2 at h ⊢
  refine r_aload_n dX1_save_24 rfl rfl ?_
  refine r_iconst dX1_save_25 (by decide) ?_
  refine r_aload_n dX1_save_26 rfl rfl ?_
  refine gf_X1_31 rfl dX1_save_27 ?_
  refine r_iast (n := 71) rfl (by decide) dX1_save_30 (by decide) ?_
  have h := h _ rfl
  generalize hs_s3 : ups s2 (67 + (s 65 2)) 2 (s2 v1 9) = s3 at h ⊢
  refine r_iconst dX1_save_31 (by decide) ?_
  refine r_istore_n (ls2 := [(10, 65), (19, v1), (43, (67 + (s 65 2))), (0, 0), (9, 0)]) dX1_save_32 (by decide) rfl ?_
  exact h
abbrev P_X1_takeBack_72 (g : GT) (e : Nat) (Q : Int → Sg → Prop) (s : Sg) (v1 : Int) (v2 : Int) (v3 : Int) : Prop := Wp g (e + 1) M_X1_takeBack Q 72 [(9, 0), (19, v1), (43, v2), (0, v3), (9, 0), (9, 0)] [] s
set_option maxRecDepth 20000 in
theorem S_X1_takeBack_72 {g : GT} {e : Nat} {Q : Int → Sg → Prop} {s : Sg} {v1 : Int} {v2 : Int} {v3 : Int} (h : ((8 ≤ v3 → (∀ s1, s1 = cpy s v2 11 (v1 + 6) 0 60 → Q 1 s1)) ∧ (¬ 8 ≤ v3 → ((0 ≤ (w32 (3 + v3)) ∧ (w32 (3 + v3)) < 71) ∧ ((0 ≤ v3 ∧ v3 < 8) ∧ ∀ s2, s2 = ups s (v1 + 2) v3 (bShr (s v2 (w32 (3 + v3))) 12) → ((0 ≤ v3 ∧ v3 < 8) ∧ ∀ s3, s3 = ups s2 (v1 + 1) v3 (bAnd (s v2 (w32 (3 + v3))) 15) → (((bAnd (bShr (s v2 (w32 (3 + v3))) 4) 255) ≤ 0 → P_X1_takeBack_72 g e Q s3 v1 v2 (w32 (v3 + 1))) ∧ (¬ (bAnd (bShr (s v2 (w32 (3 + v3))) 4) 255) ≤ 0 → (Mw g e M_X11_put [(19, v1), (0, v3), (0, (w32 ((bAnd (bShr (s v2 (w32 (3 + v3))) 4) 255) - 1)))] s3 (fun _ s5 => P_X1_takeBack_72 g e Q s5 v1 v2 (w32 (v3 + 1)))))))))))) : P_X1_takeBack_72 g e Q s v1 v2 v3 := by
  refine r_iload_n dX1_takeBack_72 rfl ?_
  refine r_bipush dX1_takeBack_73 (by decide) rfl ?_
  refine r_icmp_ge (tgt := 137) dX1_takeBack_75 (by decide) (fun hc => ?_) (fun hc => ?_)
  · have h := h.1 hc
    refine r_aload_n dX1_takeBack_137 rfl rfl ?_
    refine r_bipush dX1_takeBack_138 (by decide) rfl ?_
    refine r_aload_n dX1_takeBack_140 rfl rfl ?_
    refine gf_X1_44 rfl dX1_takeBack_141 ?_
    refine r_iconst dX1_takeBack_144 (by decide) ?_
    refine r_bipush dX1_takeBack_145 (by decide) rfl ?_
    refine r_copy (n0 := 71) (n1 := 60) lm_X1_47 (Nat.le_of_ble_eq_true rfl) rfl (by decide) rfl (by decide) dX1_takeBack_147 (by decide) ?_
    have h := h _ rfl
    generalize hs_s1 : cpy s v2 11 (v1 + 6) 0 60 = s1 at h ⊢
    refine r_iconst dX1_takeBack_150 (by decide) ?_
    exact r_zret dX1_takeBack_151 rfl (by decide) h
  · have h := h.2 hc
    refine r_aload_n dX1_takeBack_78 rfl rfl ?_
    refine r_iconst dX1_takeBack_79 (by decide) ?_
    refine r_iload_n dX1_takeBack_80 rfl ?_
    refine r_iadd dX1_takeBack_81 ?_
    obtain ⟨hb, h⟩ := h
    refine r_iald (n := 71) rfl (by decide) dX1_takeBack_82 hb ?_
    refine r_istore (ls2 := [(9, 0), (19, v1), (43, v2), (0, v3), (0, (s v2 (w32 (3 + v3)))), (9, 0)]) dX1_takeBack_83 (by decide) rfl ?_
    refine r_iload dX1_takeBack_85 rfl ?_
    refine r_iconst dX1_takeBack_87 (by decide) ?_
    refine r_ishr dX1_takeBack_88 ?_
    refine r_sipush dX1_takeBack_89 (by decide) rfl ?_
    refine r_iand dX1_takeBack_92 ?_
    refine r_istore (ls2 := [(9, 0), (19, v1), (43, v2), (0, v3), (0, (s v2 (w32 (3 + v3)))), (0, (bAnd (bShr (s v2 (w32 (3 + v3))) 4) 255))]) dX1_takeBack_93 (by decide) rfl ?_
    refine r_aload_n dX1_takeBack_95 rfl rfl ?_
    refine gf_X1_38 rfl dX1_takeBack_96 ?_
    refine r_iload_n dX1_takeBack_99 rfl ?_
    refine r_iload dX1_takeBack_100 rfl ?_
    refine r_bipush dX1_takeBack_102 (by decide) rfl ?_
    refine r_ishr dX1_takeBack_104 ?_
    obtain ⟨hb, h⟩ := h
    refine r_iast (n := 8) rfl (by decide) dX1_takeBack_105 hb ?_
    have h := h _ rfl
    generalize hs_s2 : ups s (v1 + 2) v3 (bShr (s v2 (w32 (3 + v3))) 12) = s2 at h ⊢
    refine r_aload_n dX1_takeBack_106 rfl rfl ?_
    refine gf_X1_41 rfl dX1_takeBack_107 ?_
    refine r_iload_n dX1_takeBack_110 rfl ?_
    refine r_iload dX1_takeBack_111 rfl ?_
    refine r_bipush dX1_takeBack_113 (by decide) rfl ?_
    refine r_iand dX1_takeBack_115 ?_
    obtain ⟨hb, h⟩ := h
    refine r_iast (n := 8) rfl (by decide) dX1_takeBack_116 hb ?_
    have h := h _ rfl
    generalize hs_s3 : ups s2 (v1 + 1) v3 (bAnd (s v2 (w32 (3 + v3))) 15) = s3 at h ⊢
    refine r_iload dX1_takeBack_117 rfl ?_
    refine r_if_le (tgt := 131) dX1_takeBack_119 (by decide) (fun hc => ?_) (fun hc => ?_)
    · have h := h.1 hc
      refine r_iinc (ls2 := [(9, 0), (19, v1), (43, v2), (0, (w32 (v3 + 1))), (0, (s v2 (w32 (3 + v3)))), (0, (bAnd (bShr (s v2 (w32 (3 + v3))) 4) 255))]) dX1_takeBack_131 rfl (by decide) rfl ?_
      refine r_goto (tgt := 72) dX1_takeBack_134 (by decide) ?_
      exact r_fgt [false, true, true, true, false, false] rfl h
    · have h := h.2 hc
      refine r_aload_n dX1_takeBack_122 rfl rfl ?_
      refine r_iload_n dX1_takeBack_123 rfl ?_
      refine r_iload dX1_takeBack_124 rfl ?_
      refine r_iconst dX1_takeBack_126 (by decide) ?_
      refine r_isub dX1_takeBack_127 ?_
      refine r_callV (ci := 9) (As := [(0, v3), (0, (w32 ((bAnd (bShr (s v2 (w32 (3 + v3))) 4) 255) - 1)))]) (st := []) (by decide) ok_X1_62 rfl rfl (Nat.le_of_ble_eq_true rfl) dX1_takeBack_128 h (fun r4 s5 hv h => ?_)
      refine r_iinc (ls2 := [(9, 0), (19, v1), (43, v2), (0, (w32 (v3 + 1))), (0, (s v2 (w32 (3 + v3)))), (0, (bAnd (bShr (s v2 (w32 (3 + v3))) 4) 255))]) dX1_takeBack_131 rfl (by decide) rfl ?_
      refine r_goto (tgt := 72) dX1_takeBack_134 (by decide) ?_
      exact r_fgt [false, true, true, true, false, false] rfl h
set_option maxRecDepth 20000 in
theorem S_X1_takeBack {g : GT} {e : Nat} {Q : Int → Sg → Prop} {s : Sg} {v1 : Int} (h : (gr g v1 ∧ tg v1 = 19) → ((¬ (s 65 1) = 0 → (∀ s1, s1 = ups s 65 1 (w32 ((s 65 1) - 1)) → (∀ s2, s2 = ups s1 65 2 (Int.tmod (w32 ((w32 ((s1 65 2) + 20)) - 1)) 20) → ((0 ≤ (s2 65 2) ∧ (s2 65 2) < 20) ∧ (∀ s3, s3 = ups s2 v1 1 (s2 (67 + (s2 65 2)) 0) → (∀ s4, s4 = ups s3 v1 2 (s3 (67 + (s2 65 2)) 1) → (∀ s5, s5 = ups s4 v1 9 (s4 (67 + (s2 65 2)) 2) → (Mw g e M_X11_clearWalls [(19, v1)] s5 (fun _ s7 => P_X1_takeBack_72 g e Q s7 v1 (67 + (s2 65 2)) 0))))))))) ∧ ((s 65 1) = 0 → Q 0 s))) : Mw g (e + 1) M_X1_takeBack [(10, 65), (19, v1)] s Q := by
  refine Mw.of (ls := [(10, 65), (19, v1), (9, 0), (9, 0), (9, 0), (9, 0)]) pn_X1_takeBack (Nat.le_of_ble_eq_true rfl) rfl (fun hv => ?_)
  have h := h (vld_o (by decide) (hv _ (List.Mem.tail _ (List.Mem.head _))))
  refine r_aload_n dX1_takeBack_0 rfl rfl ?_
  refine gf_X1_16 rfl dX1_takeBack_1 ?_
  refine r_if_ne (tgt := 9) dX1_takeBack_4 (by decide) (fun hc => ?_) (fun hc => ?_)
  · have h := h.1 hc
    refine r_aload_n dX1_takeBack_9 rfl rfl ?_
    refine r_dup dX1_takeBack_10 (show (10 : Nat) ≠ 2 by decide) ?_
    refine gf_X1_16 rfl dX1_takeBack_11 ?_
    refine r_iconst dX1_takeBack_14 (by decide) ?_
    refine r_isub dX1_takeBack_15 ?_
    refine pf_X1_16 rfl dX1_takeBack_16 ?_
    have h := h _ rfl
    generalize hs_s1 : ups s 65 1 (w32 ((s 65 1) - 1)) = s1 at h ⊢
    refine r_aload_n dX1_takeBack_19 rfl rfl ?_
    refine r_aload_n dX1_takeBack_20 rfl rfl ?_
    refine gf_X1_20 rfl dX1_takeBack_21 ?_
    refine r_bipush dX1_takeBack_24 (by decide) rfl ?_
    refine r_iadd dX1_takeBack_26 ?_
    refine r_iconst dX1_takeBack_27 (by decide) ?_
    refine r_isub dX1_takeBack_28 ?_
    refine r_bipush dX1_takeBack_29 (by decide) rfl ?_
    refine r_irem dX1_takeBack_31 (by decide) ?_
    refine pf_X1_20 rfl dX1_takeBack_32 ?_
    have h := h _ rfl
    generalize hs_s2 : ups s1 65 2 (Int.tmod (w32 ((w32 ((s1 65 2) + 20)) - 1)) 20) = s2 at h ⊢
    refine r_aload_n dX1_takeBack_35 rfl rfl ?_
    refine gf_X1_13 rfl dX1_takeBack_36 ?_
    refine r_aload_n dX1_takeBack_39 rfl rfl ?_
    refine gf_X1_20 rfl dX1_takeBack_40 ?_
    obtain ⟨hb, h⟩ := h
    refine r_aald (n := 20) (t2 := 43) rfl (by decide) rfl dX1_takeBack_43 hb ?_
    show Wp g (e + 1) M_X1_takeBack Q 44 [(10, 65), (19, v1), (9, 0), (9, 0), (9, 0), (9, 0)] [(43, (67 + (s2 65 2)))] s2
    refine r_astore_n (ls2 := [(10, 65), (19, v1), (43, (67 + (s2 65 2))), (9, 0), (9, 0), (9, 0)]) dX1_takeBack_44 rfl (by decide) rfl ?_
    refine r_aload_n dX1_takeBack_45 rfl rfl ?_
    refine r_aload_n dX1_takeBack_46 rfl rfl ?_
    refine r_iconst dX1_takeBack_47 (by decide) ?_
    refine r_iald (n := 71) rfl (by decide) dX1_takeBack_48 (by decide) ?_
    refine pf_X1_23 rfl dX1_takeBack_49 ?_
    have h := h _ rfl
    generalize hs_s3 : ups s2 v1 1 (s2 (67 + (s2 65 2)) 0) = s3 at h ⊢
    refine r_aload_n dX1_takeBack_52 rfl rfl ?_
    refine r_aload_n dX1_takeBack_53 rfl rfl ?_
    refine r_iconst dX1_takeBack_54 (by decide) ?_
    refine r_iald (n := 71) rfl (by decide) dX1_takeBack_55 (by decide) ?_
    refine pf_X1_28 rfl dX1_takeBack_56 ?_
    have h := h _ rfl
    generalize hs_s4 : ups s3 v1 2 (s3 (67 + (s2 65 2)) 1) = s4 at h ⊢
    refine r_aload_n dX1_takeBack_59 rfl rfl ?_
    refine r_aload_n dX1_takeBack_60 rfl rfl ?_
    refine r_iconst dX1_takeBack_61 (by decide) ?_
    refine r_iald (n := 71) rfl (by decide) dX1_takeBack_62 (by decide) ?_
    refine pf_X1_31 rfl dX1_takeBack_63 ?_
    have h := h _ rfl
    generalize hs_s5 : ups s4 v1 9 (s4 (67 + (s2 65 2)) 2) = s5 at h ⊢
    refine r_aload_n dX1_takeBack_66 rfl rfl ?_
    refine r_callV (ci := 9) (As := []) (st := []) (by decide) ok_X1_59 rfl rfl (Nat.le_of_ble_eq_true rfl) dX1_takeBack_67 h (fun r6 s7 hv h => ?_)
    refine r_iconst dX1_takeBack_70 (by decide) ?_
    refine r_istore_n (ls2 := [(10, 65), (19, v1), (43, (67 + (s2 65 2))), (0, 0), (9, 0), (9, 0)]) dX1_takeBack_71 (by decide) rfl ?_
    exact r_fgt [false, true, true, true, false, false] rfl h
  · have h := h.2 hc
    refine r_iconst dX1_takeBack_7 (by decide) ?_
    exact r_zret dX1_takeBack_8 rfl (by decide) h
set_option maxRecDepth 20000 in
theorem S_X3_add {g : GT} {e : Nat} {Q : Int → Sg → Prop} {s : Sg} {v1 : Int} (h : inR v1 → ((61 ≤ (s 89 1) → Q 0 s) ∧ (¬ 61 ≤ (s 89 1) → ((0 ≤ (s 89 1) ∧ (s 89 1) < 61) ∧ ∀ s1, s1 = ups s 90 (s 89 1) v1 → (∀ s2, s2 = ups s1 89 1 (w32 ((s1 89 1) + 1)) → Q 0 s2))))) : Mw g (e + 1) M_X3_add [(12, 89), (0, v1)] s Q := by
  refine Mw.of (ls := [(12, 89), (0, v1)]) pn_X3_add (Nat.le_of_ble_eq_true rfl) rfl (fun hv => ?_)
  have h := h (hv _ (List.Mem.tail _ (List.Mem.head _)))
  refine r_aload_n dX3_add_0 rfl rfl ?_
  refine gf_X3_15 rfl dX3_add_1 ?_
  refine r_aload_n dX3_add_4 rfl rfl ?_
  refine gf_X3_11 rfl dX3_add_5 ?_
  refine r_alen (n := 61) rfl (by decide) (by decide) dX3_add_8 ?_
  refine r_icmp_ge (tgt := 32) dX3_add_9 (by decide) (fun hc => ?_) (fun hc => ?_)
  · have h := h.1 hc
    exact r_ret dX3_add_32 rfl h
  · have h := h.2 hc
    refine r_aload_n dX3_add_12 rfl rfl ?_
    refine gf_X3_11 rfl dX3_add_13 ?_
    refine r_aload_n dX3_add_16 rfl rfl ?_
    refine gf_X3_15 rfl dX3_add_17 ?_
    refine r_iload_n dX3_add_20 rfl ?_
    obtain ⟨hb, h⟩ := h
    refine r_iast (n := 61) rfl (by decide) dX3_add_21 hb ?_
    have h := h _ rfl
    generalize hs_s1 : ups s 90 (s 89 1) v1 = s1 at h ⊢
    refine r_aload_n dX3_add_22 rfl rfl ?_
    refine r_dup dX3_add_23 (show (12 : Nat) ≠ 2 by decide) ?_
    refine gf_X3_15 rfl dX3_add_24 ?_
    refine r_iconst dX3_add_27 (by decide) ?_
    refine r_iadd dX3_add_28 ?_
    refine pf_X3_15 rfl dX3_add_29 ?_
    have h := h _ rfl
    generalize hs_s2 : ups s1 89 1 (w32 ((s1 89 1) + 1)) = s2 at h ⊢
    exact r_ret dX3_add_32 rfl h
set_option maxRecDepth 20000 in
theorem S_X3_addPair {g : GT} {e : Nat} {Q : Int → Sg → Prop} {s : Sg} {v1 : Int} (h : inR v1 → (Mw g e M_X3_add [(12, 89), (0, (w32 (Int.tdiv v1 256)))] s (fun _ s2 => (Mw g e M_X3_add [(12, 89), (0, (Int.tmod v1 256))] s2 (fun _ s4 => Q 0 s4))))) : Mw g (e + 1) M_X3_addPair [(12, 89), (0, v1)] s Q := by
  refine Mw.of (ls := [(12, 89), (0, v1)]) pn_X3_addPair (Nat.le_of_ble_eq_true rfl) rfl (fun hv => ?_)
  have h := h (hv _ (List.Mem.tail _ (List.Mem.head _)))
  refine r_aload_n dX3_addPair_0 rfl rfl ?_
  refine r_iload_n dX3_addPair_1 rfl ?_
  refine r_sipush dX3_addPair_2 (by decide) rfl ?_
  refine r_idiv dX3_addPair_5 (by decide) ?_
  refine r_callV (ci := 2) (As := [(0, (w32 (Int.tdiv v1 256)))]) (st := []) (by decide) ok_X3_44 rfl rfl (Nat.le_of_ble_eq_true rfl) dX3_addPair_6 h (fun r1 s2 hv h => ?_)
  refine r_aload_n dX3_addPair_9 rfl rfl ?_
  refine r_iload_n dX3_addPair_10 rfl ?_
  refine r_sipush dX3_addPair_11 (by decide) rfl ?_
  refine r_irem dX3_addPair_14 (by decide) ?_
  refine r_callV (ci := 2) (As := [(0, (Int.tmod v1 256))]) (st := []) (by decide) ok_X3_44 rfl rfl (Nat.le_of_ble_eq_true rfl) dX3_addPair_15 h (fun r3 s4 hv h => ?_)
  exact r_ret dX3_addPair_18 rfl h
set_option maxRecDepth 20000 in
theorem S_X3_sumWith {g : GT} {e : Nat} {Q : Int → Sg → Prop} {s : Sg} {v0 : Int} {v1 : Int} (h : inR v0 → inR v1 → Q (Int.tmod (w32 ((w32 (5 * v0)) + v1)) 251) s) : Mw g (e + 1) M_X3_sumWith [(0, v0), (0, v1)] s Q := by
  refine Mw.of (ls := [(0, v0), (0, v1)]) pn_X3_sumWith (Nat.le_of_ble_eq_true rfl) rfl (fun hv => ?_)
  have h := h (hv _ (List.Mem.head _)) (hv _ (List.Mem.tail _ (List.Mem.head _)))
  refine r_iconst dX3_sumWith_0 (by decide) ?_
  refine r_iload_n dX3_sumWith_1 rfl ?_
  refine r_imul dX3_sumWith_2 ?_
  refine r_iload_n dX3_sumWith_3 rfl ?_
  refine r_iadd dX3_sumWith_4 ?_
  refine r_sipush dX3_sumWith_5 (by decide) rfl ?_
  refine r_irem dX3_sumWith_8 (by decide) ?_
  exact r_iret dX3_sumWith_9 rfl h
abbrev P_X3_write_15 (g : GT) (e : Nat) (Q : Int → Sg → Prop) (s : Sg) (v1 : Int) (v2 : Int) : Prop := Wp g (e + 1) M_X3_write Q 15 [(12, 89), (19, v1), (0, v2), (9, 0), (9, 0)] [] s
abbrev P_X3_write_43 (g : GT) (e : Nat) (Q : Int → Sg → Prop) (s : Sg) (v1 : Int) (v2 : Int) (v3 : Int) (x0 : Int) : Prop := Wp g (e + 1) M_X3_write Q 43 [(12, 89), (19, v1), (0, v2), (0, v3), (9, 0)] [(0, x0)] s
abbrev P_X3_write_81 (g : GT) (e : Nat) (Q : Int → Sg → Prop) (s : Sg) (v1 : Int) (v2 : Int) (v3 : Int) (v4 : Int) (x1 : Int) : Prop := Wp g (e + 1) M_X3_write Q 81 [(12, 89), (19, v1), (0, v2), (0, v3), (0, v4)] [(0, x1), (12, 89)] s
abbrev P_X3_write_99 (g : GT) (e : Nat) (Q : Int → Sg → Prop) (s : Sg) (v1 : Int) (v2 : Int) (v3 : Int) (v4 : Int) (x1 : Int) : Prop := Wp g (e + 1) M_X3_write Q 99 [(12, 89), (19, v1), (0, v2), (0, v3), (0, v4)] [(0, x1), (12, 89)] s
abbrev P_X3_write_115 (g : GT) (e : Nat) (Q : Int → Sg → Prop) (s : Sg) (v1 : Int) (v2 : Int) (x1 : Int) : Prop := Wp g (e + 1) M_X3_write Q 115 [(12, 89), (19, v1), (0, v2), (9, 0), (9, 0)] [(0, x1), (12, 89)] s
abbrev P_X3_write_126 (g : GT) (e : Nat) (Q : Int → Sg → Prop) (s : Sg) (v1 : Int) (v2 : Int) : Prop := Wp g (e + 1) M_X3_write Q 126 [(12, 89), (19, v1), (0, v2), (9, 0), (9, 0)] [] s
abbrev P_X3_write_161 (g : GT) (e : Nat) (Q : Int → Sg → Prop) (s : Sg) (v2 : Int) (v3 : Int) : Prop := Wp g (e + 1) M_X3_write Q 161 [(12, 89), (9, 0), (0, v2), (0, v3), (9, 0)] [] s
set_option maxRecDepth 20000 in
theorem S_X3_write_15 {g : GT} {e : Nat} {Q : Int → Sg → Prop} {s : Sg} {v1 : Int} {v2 : Int} (h : (Mw g e M_X9_childCount [(18, (s v1 0))] s (fun r1 s2 => ((r1 ≤ v2 → P_X3_write_126 g e Q s2 v1 0) ∧ (¬ r1 ≤ v2 → ((0 ≤ v2 ∧ v2 < 8) ∧ (((s2 (v1 + 3) v2) = (-1) → P_X3_write_43 g e Q s2 v1 v2 (s2 (v1 + 3) v2) 0) ∧ (¬ (s2 (v1 + 3) v2) = (-1) → P_X3_write_43 g e Q s2 v1 v2 (s2 (v1 + 3) v2) 1)))))))) : P_X3_write_15 g e Q s v1 v2 := by
  refine r_iload_n dX3_write_15 rfl ?_
  refine r_aload_n dX3_write_16 rfl rfl ?_
  refine gf_X3_28 rfl dX3_write_17 ?_
  refine r_callV (ci := 8) (As := []) (st := [(0, v2)]) (by decide) ok_X3_32 rfl rfl (Nat.le_of_ble_eq_true rfl) dX3_write_20 h (fun r1 s2 hv h => ?_)
  refine r_icmp_ge (tgt := 124) dX3_write_23 (by decide) (fun hc => ?_) (fun hc => ?_)
  · have h := h.1 hc
    refine r_iconst dX3_write_124 (by decide) ?_
    refine r_istore_n (ls2 := [(12, 89), (19, v1), (0, 0), (9, 0), (9, 0)]) dX3_write_125 (by decide) rfl ?_
    exact h
  · have h := h.2 hc
    refine r_aload_n dX3_write_26 rfl rfl ?_
    refine gf_X3_38 rfl dX3_write_27 ?_
    refine r_iload_n dX3_write_30 rfl ?_
    obtain ⟨hb, h⟩ := h
    refine r_iald (n := 8) rfl (by decide) dX3_write_31 hb ?_
    refine r_istore_n (ls2 := [(12, 89), (19, v1), (0, v2), (0, (s2 (v1 + 3) v2)), (9, 0)]) dX3_write_32 (by decide) rfl ?_
    refine r_iload_n dX3_write_33 rfl ?_
    refine r_iconst dX3_write_34 (by decide) ?_
    refine r_icmp_eq (tgt := 42) dX3_write_35 (by decide) (fun hc => ?_) (fun hc => ?_)
    · have h := h.1 hc
      refine r_iconst dX3_write_42 (by decide) ?_
      exact h
    · have h := h.2 hc
      refine r_iconst dX3_write_38 (by decide) ?_
      refine r_goto (tgt := 43) dX3_write_39 (by decide) ?_
      exact h
set_option maxRecDepth 20000 in
theorem S_X3_write_43 {g : GT} {e : Nat} {Q : Int → Sg → Prop} {s : Sg} {v1 : Int} {v2 : Int} {v3 : Int} {x0 : Int} (h : ((0 ≤ v2 ∧ v2 < 8) ∧ (Mw g e M_X3_add [(12, 89), (0, (s (v1 + 1) v2))] s (fun _ s2 => ((0 ≤ v2 ∧ v2 < 8) ∧ (Mw g e M_X3_addPair [(12, 89), (0, (s2 (v1 + 2) v2))] s2 (fun _ s4 => ((x0 = 0 → P_X3_write_81 g e Q s4 v1 v2 v3 x0 0) ∧ (¬ x0 = 0 → (Mw g e M_X11_wallAt [(0, v3)] s4 (fun r5 s6 => P_X3_write_81 g e Q s6 v1 v2 v3 x0 (w32 (r5 + 1))))))))))))) : P_X3_write_43 g e Q s v1 v2 v3 x0 := by
  refine r_istore (ls2 := [(12, 89), (19, v1), (0, v2), (0, v3), (0, x0)]) dX3_write_43 (by decide) rfl ?_
  refine r_aload_n dX3_write_45 rfl rfl ?_
  refine r_aload_n dX3_write_46 rfl rfl ?_
  refine gf_X3_41 rfl dX3_write_47 ?_
  refine r_iload_n dX3_write_50 rfl ?_
  obtain ⟨hb, h⟩ := h
  refine r_iald (n := 8) rfl (by decide) dX3_write_51 hb ?_
  refine r_callV (ci := 2) (As := [(0, (s (v1 + 1) v2))]) (st := []) (by decide) ok_X3_44 rfl rfl (Nat.le_of_ble_eq_true rfl) dX3_write_52 h (fun r1 s2 hv h => ?_)
  refine r_aload_n dX3_write_55 rfl rfl ?_
  refine r_aload_n dX3_write_56 rfl rfl ?_
  refine gf_X3_47 rfl dX3_write_57 ?_
  refine r_iload_n dX3_write_60 rfl ?_
  obtain ⟨hb, h⟩ := h
  refine r_iald (n := 8) rfl (by decide) dX3_write_61 hb ?_
  refine r_callV (ci := 2) (As := [(0, (s2 (v1 + 2) v2))]) (st := []) (by decide) ok_X3_24 rfl rfl (Nat.le_of_ble_eq_true rfl) dX3_write_62 h (fun r3 s4 hv h => ?_)
  refine r_aload_n dX3_write_65 rfl rfl ?_
  refine r_iload dX3_write_66 rfl ?_
  refine r_if_eq (tgt := 80) dX3_write_68 (by decide) (fun hc => ?_) (fun hc => ?_)
  · have h := h.1 hc
    refine r_iconst dX3_write_80 (by decide) ?_
    exact h
  · have h := h.2 hc
    refine r_iload_n dX3_write_71 rfl ?_
    refine r_callS (As := [(0, v3)]) (st := [(12, 89)]) ok_X3_50 rfl rfl (Nat.le_of_ble_eq_true rfl) dX3_write_72 h (fun r5 s6 hv h => ?_)
    refine r_iconst dX3_write_75 (by decide) ?_
    refine r_iadd dX3_write_76 ?_
    refine r_goto (tgt := 81) dX3_write_77 (by decide) ?_
    exact h
set_option maxRecDepth 20000 in
theorem S_X3_write_81 {g : GT} {e : Nat} {Q : Int → Sg → Prop} {s : Sg} {v1 : Int} {v2 : Int} {v3 : Int} {v4 : Int} {x1 : Int} (h : (Mw g e M_X3_add [(12, 89), (0, x1)] s (fun _ s2 => ((v4 = 0 → P_X3_write_99 g e Q s2 v1 v2 v3 v4 0) ∧ (¬ v4 = 0 → P_X3_write_99 g e Q s2 v1 v2 v3 v4 (Int.tmod (w32 (Int.tdiv v3 4)) 4)))))) : P_X3_write_81 g e Q s v1 v2 v3 v4 x1 := by
  refine r_callV (ci := 2) (As := [(0, x1)]) (st := []) (by decide) ok_X3_44 rfl rfl (Nat.le_of_ble_eq_true rfl) dX3_write_81 h (fun r1 s2 hv h => ?_)
  refine r_aload_n dX3_write_84 rfl rfl ?_
  refine r_iload dX3_write_85 rfl ?_
  refine r_if_eq (tgt := 98) dX3_write_87 (by decide) (fun hc => ?_) (fun hc => ?_)
  · have h := h.1 hc
    refine r_iconst dX3_write_98 (by decide) ?_
    exact h
  · have h := h.2 hc
    refine r_iload_n dX3_write_90 rfl ?_
    refine r_iconst dX3_write_91 (by decide) ?_
    refine r_idiv dX3_write_92 (by decide) ?_
    refine r_iconst dX3_write_93 (by decide) ?_
    refine r_irem dX3_write_94 (by decide) ?_
    refine r_goto (tgt := 99) dX3_write_95 (by decide) ?_
    exact h
set_option maxRecDepth 20000 in
theorem S_X3_write_99 {g : GT} {e : Nat} {Q : Int → Sg → Prop} {s : Sg} {v1 : Int} {v2 : Int} {v3 : Int} {v4 : Int} {x1 : Int} (h : (Mw g e M_X3_add [(12, 89), (0, x1)] s (fun _ s2 => ((v4 = 0 → P_X3_write_115 g e Q s2 v1 v2 0) ∧ (¬ v4 = 0 → P_X3_write_115 g e Q s2 v1 v2 (Int.tmod v3 4)))))) : P_X3_write_99 g e Q s v1 v2 v3 v4 x1 := by
  refine r_callV (ci := 2) (As := [(0, x1)]) (st := []) (by decide) ok_X3_44 rfl rfl (Nat.le_of_ble_eq_true rfl) dX3_write_99 h (fun r1 s2 hv h => ?_)
  refine r_aload_n dX3_write_102 rfl rfl ?_
  refine r_iload dX3_write_103 rfl ?_
  refine r_if_eq (tgt := 114) dX3_write_105 (by decide) (fun hc => ?_) (fun hc => ?_)
  · have h := h.1 hc
    refine r_iconst dX3_write_114 (by decide) ?_
    exact r_fgt [true, true, true, false, false] rfl h
  · have h := h.2 hc
    refine r_iload_n dX3_write_108 rfl ?_
    refine r_iconst dX3_write_109 (by decide) ?_
    refine r_irem dX3_write_110 (by decide) ?_
    refine r_goto (tgt := 115) dX3_write_111 (by decide) ?_
    exact r_fgt [true, true, true, false, false] rfl h
set_option maxRecDepth 20000 in
theorem S_X3_write_115 {g : GT} {e : Nat} {Q : Int → Sg → Prop} {s : Sg} {v1 : Int} {v2 : Int} {x1 : Int} (h : (Mw g e M_X3_add [(12, 89), (0, x1)] s (fun _ s2 => P_X3_write_15 g e Q s2 v1 (w32 (v2 + 1))))) : P_X3_write_115 g e Q s v1 v2 x1 := by
  refine r_callV (ci := 2) (As := [(0, x1)]) (st := []) (by decide) ok_X3_44 rfl rfl (Nat.le_of_ble_eq_true rfl) dX3_write_115 h (fun r1 s2 hv h => ?_)
  refine r_iinc (ls2 := [(12, 89), (19, v1), (0, (w32 (v2 + 1))), (9, 0), (9, 0)]) dX3_write_118 rfl (by decide) rfl ?_
  refine r_goto (tgt := 15) dX3_write_121 (by decide) ?_
  exact h
set_option maxRecDepth 20000 in
theorem S_X3_write_126 {g : GT} {e : Nat} {Q : Int → Sg → Prop} {s : Sg} {v1 : Int} {v2 : Int} (h : (((s (s v1 0) 13) ≤ v2 → P_X3_write_161 g e Q s 167 0) ∧ (¬ (s (s v1 0) 13) ≤ v2 → (Mw g e M_X3_add [(12, 89), (0, (bAnd (bShr (s v1 2) v2) 1))] s (fun _ s2 => P_X3_write_126 g e Q s2 v1 (w32 (v2 + 1))))))) : P_X3_write_126 g e Q s v1 v2 := by
  refine r_iload_n dX3_write_126 rfl ?_
  refine r_aload_n dX3_write_127 rfl rfl ?_
  refine gf_X3_28 rfl dX3_write_128 ?_
  refine gf_X3_54 rfl dX3_write_131 ?_
  refine r_icmp_ge (tgt := 155) dX3_write_134 (by decide) (fun hc => ?_) (fun hc => ?_)
  · have h := h.1 hc
    refine r_sipush dX3_write_155 (by decide) rfl ?_
    refine r_istore_n (ls2 := [(12, 89), (19, v1), (0, 167), (9, 0), (9, 0)]) dX3_write_158 (by decide) rfl ?_
    refine r_iconst dX3_write_159 (by decide) ?_
    refine r_istore_n (ls2 := [(12, 89), (19, v1), (0, 167), (0, 0), (9, 0)]) dX3_write_160 (by decide) rfl ?_
    exact r_fgt [true, false, true, true, false] rfl h
  · have h := h.2 hc
    refine r_aload_n dX3_write_137 rfl rfl ?_
    refine r_aload_n dX3_write_138 rfl rfl ?_
    refine gf_X3_57 rfl dX3_write_139 ?_
    refine r_iload_n dX3_write_142 rfl ?_
    refine r_ishr dX3_write_143 ?_
    refine r_iconst dX3_write_144 (by decide) ?_
    refine r_iand dX3_write_145 ?_
    refine r_callV (ci := 2) (As := [(0, (bAnd (bShr (s v1 2) v2) 1))]) (st := []) (by decide) ok_X3_44 rfl rfl (Nat.le_of_ble_eq_true rfl) dX3_write_146 h (fun r1 s2 hv h => ?_)
    refine r_iinc (ls2 := [(12, 89), (19, v1), (0, (w32 (v2 + 1))), (9, 0), (9, 0)]) dX3_write_149 rfl (by decide) rfl ?_
    refine r_goto (tgt := 126) dX3_write_152 (by decide) ?_
    exact h
set_option maxRecDepth 20000 in
theorem S_X3_write_161 {g : GT} {e : Nat} {Q : Int → Sg → Prop} {s : Sg} {v2 : Int} {v3 : Int} (h : (((s 89 1) ≤ v3 → (Mw g e M_X3_add [(12, 89), (0, v2)] s (fun _ s2 => Q 0 s2))) ∧ (¬ (s 89 1) ≤ v3 → ((0 ≤ v3 ∧ v3 < 61) ∧ (Mw g e M_X3_sumWith [(0, v2), (0, (s 90 v3))] s (fun r3 s4 => P_X3_write_161 g e Q s4 r3 (w32 (v3 + 1)))))))) : P_X3_write_161 g e Q s v2 v3 := by
  refine r_iload_n dX3_write_161 rfl ?_
  refine r_aload_n dX3_write_162 rfl rfl ?_
  refine gf_X3_15 rfl dX3_write_163 ?_
  refine r_icmp_ge (tgt := 186) dX3_write_166 (by decide) (fun hc => ?_) (fun hc => ?_)
  · have h := h.1 hc
    refine r_aload_n dX3_write_186 rfl rfl ?_
    refine r_iload_n dX3_write_187 rfl ?_
    refine r_callV (ci := 2) (As := [(0, v2)]) (st := []) (by decide) ok_X3_44 rfl rfl (Nat.le_of_ble_eq_true rfl) dX3_write_188 h (fun r1 s2 hv h => ?_)
    exact r_ret dX3_write_191 rfl h
  · have h := h.2 hc
    refine r_iload_n dX3_write_169 rfl ?_
    refine r_aload_n dX3_write_170 rfl rfl ?_
    refine gf_X3_11 rfl dX3_write_171 ?_
    refine r_iload_n dX3_write_174 rfl ?_
    obtain ⟨hb, h⟩ := h
    refine r_iald (n := 61) rfl (by decide) dX3_write_175 hb ?_
    refine r_callS (As := [(0, v2), (0, (s 90 v3))]) (st := []) ok_X3_60 rfl rfl (Nat.le_of_ble_eq_true rfl) dX3_write_176 h (fun r3 s4 hv h => ?_)
    refine r_istore_n (ls2 := [(12, 89), (9, 0), (0, r3), (0, v3), (9, 0)]) dX3_write_179 (by decide) rfl ?_
    refine r_iinc (ls2 := [(12, 89), (9, 0), (0, r3), (0, (w32 (v3 + 1))), (9, 0)]) dX3_write_180 rfl (by decide) rfl ?_
    refine r_goto (tgt := 161) dX3_write_183 (by decide) ?_
    exact h
set_option maxRecDepth 20000 in
theorem S_X3_write {g : GT} {e : Nat} {Q : Int → Sg → Prop} {s : Sg} {v1 : Int} (h : (gr g v1 ∧ tg v1 = 19) → (∀ s1, s1 = ups s 89 1 0 → (Mw g e M_X3_addPair [(12, 89), (0, (s1 v1 1))] s1 (fun _ s3 => P_X3_write_15 g e Q s3 v1 0)))) : Mw g (e + 1) M_X3_write [(12, 89), (19, v1)] s Q := by
  refine Mw.of (ls := [(12, 89), (19, v1), (9, 0), (9, 0), (9, 0)]) pn_X3_write (Nat.le_of_ble_eq_true rfl) rfl (fun hv => ?_)
  have h := h (vld_o (by decide) (hv _ (List.Mem.tail _ (List.Mem.head _))))
  refine r_aload_n dX3_write_0 rfl rfl ?_
  refine r_iconst dX3_write_1 (by decide) ?_
  refine pf_X3_15 rfl dX3_write_2 ?_
  have h := h _ rfl
  generalize hs_s1 : ups s 89 1 0 = s1 at h ⊢
  refine r_aload_n dX3_write_5 rfl rfl ?_
  refine r_aload_n dX3_write_6 rfl rfl ?_
  refine gf_X3_19 rfl dX3_write_7 ?_
  refine r_callV (ci := 2) (As := [(0, (s1 v1 1))]) (st := []) (by decide) ok_X3_24 rfl rfl (Nat.le_of_ble_eq_true rfl) dX3_write_10 h (fun r2 s3 hv h => ?_)
  refine r_iconst dX3_write_13 (by decide) ?_
  refine r_istore_n (ls2 := [(12, 89), (19, v1), (0, 0), (9, 0), (9, 0)]) dX3_write_14 (by decide) rfl ?_
  exact h
abbrev P_X3_sumFits_6 (g : GT) (e : Nat) (Q : Int → Sg → Prop) (s : Sg) (v1 : Int) (v2 : Int) : Prop := Wp g (e + 1) M_X3_sumFits Q 6 [(17, 2), (0, v1), (0, v2)] [] s
set_option maxRecDepth 20000 in
theorem S_X3_sumFits_6 {g : GT} {e : Nat} {Q : Int → Sg → Prop} {s : Sg} {v1 : Int} {v2 : Int} (h : (((w32 ((s 2 1) - 1)) ≤ v2 → (Mw g e M_X8_byteAt [(17, 2), (0, (w32 ((s 2 1) - 1)))] s (fun r1 s2 => ((¬ r1 = v1 → Q 0 s2) ∧ (r1 = v1 → Q 1 s2))))) ∧ (¬ (w32 ((s 2 1) - 1)) ≤ v2 → (Mw g e M_X8_byteAt [(17, 2), (0, v2)] s (fun r3 s4 => (Mw g e M_X3_sumWith [(0, v1), (0, r3)] s4 (fun r5 s6 => P_X3_sumFits_6 g e Q s6 r5 (w32 (v2 + 1))))))))) : P_X3_sumFits_6 g e Q s v1 v2 := by
  refine r_iload_n dX3_sumFits_6 rfl ?_
  refine r_aload_n dX3_sumFits_7 rfl rfl ?_
  refine gf_X3_64 rfl dX3_sumFits_8 ?_
  refine r_iconst dX3_sumFits_11 (by decide) ?_
  refine r_isub dX3_sumFits_12 ?_
  refine r_icmp_ge (tgt := 32) dX3_sumFits_13 (by decide) (fun hc => ?_) (fun hc => ?_)
  · have h := h.1 hc
    refine r_aload_n dX3_sumFits_32 rfl rfl ?_
    refine r_aload_n dX3_sumFits_33 rfl rfl ?_
    refine gf_X3_64 rfl dX3_sumFits_34 ?_
    refine r_iconst dX3_sumFits_37 (by decide) ?_
    refine r_isub dX3_sumFits_38 ?_
    refine r_callV (ci := 7) (As := [(0, (w32 ((s 2 1) - 1)))]) (st := []) (by decide) ok_X3_82 rfl rfl (Nat.le_of_ble_eq_true rfl) dX3_sumFits_39 h (fun r1 s2 hv h => ?_)
    refine r_iload_n dX3_sumFits_42 rfl ?_
    refine r_icmp_ne (tgt := 50) dX3_sumFits_43 (by decide) (fun hc => ?_) (fun hc => ?_)
    · have h := h.1 hc
      refine r_iconst dX3_sumFits_50 (by decide) ?_
      exact r_zret dX3_sumFits_51 rfl (by decide) h
    · have h := h.2 hc
      refine r_iconst dX3_sumFits_46 (by decide) ?_
      refine r_goto (tgt := 51) dX3_sumFits_47 (by decide) ?_
      exact r_zret dX3_sumFits_51 rfl (by decide) h
  · have h := h.2 hc
    refine r_iload_n dX3_sumFits_16 rfl ?_
    refine r_aload_n dX3_sumFits_17 rfl rfl ?_
    refine r_iload_n dX3_sumFits_18 rfl ?_
    refine r_callV (ci := 7) (As := [(0, v2)]) (st := [(0, v1)]) (by decide) ok_X3_82 rfl rfl (Nat.le_of_ble_eq_true rfl) dX3_sumFits_19 h (fun r3 s4 hv h => ?_)
    refine r_callS (As := [(0, v1), (0, r3)]) (st := []) ok_X3_60 rfl rfl (Nat.le_of_ble_eq_true rfl) dX3_sumFits_22 h (fun r5 s6 hv h => ?_)
    refine r_istore_n (ls2 := [(17, 2), (0, r5), (0, v2)]) dX3_sumFits_25 (by decide) rfl ?_
    refine r_iinc (ls2 := [(17, 2), (0, r5), (0, (w32 (v2 + 1)))]) dX3_sumFits_26 rfl (by decide) rfl ?_
    refine r_goto (tgt := 6) dX3_sumFits_29 (by decide) ?_
    exact h
set_option maxRecDepth 20000 in
theorem S_X3_sumFits {g : GT} {e : Nat} {Q : Int → Sg → Prop} {s : Sg} (h : P_X3_sumFits_6 g e Q s 167 0) : Mw g (e + 1) M_X3_sumFits [(17, 2)] s Q := by
  refine Mw.of (ls := [(17, 2), (9, 0), (9, 0)]) pn_X3_sumFits (Nat.le_of_ble_eq_true rfl) rfl (fun hv => ?_)
  refine r_sipush dX3_sumFits_0 (by decide) rfl ?_
  refine r_istore_n (ls2 := [(17, 2), (0, 167), (9, 0)]) dX3_sumFits_3 (by decide) rfl ?_
  refine r_iconst dX3_sumFits_4 (by decide) ?_
  refine r_istore_n (ls2 := [(17, 2), (0, 167), (0, 0)]) dX3_sumFits_5 (by decide) rfl ?_
  exact h
set_option maxRecDepth 20000 in
theorem S_X3_readStone {g : GT} {e : Nat} {Q : Int → Sg → Prop} {s : Sg} {v1 : Int} {v2 : Int} (h : inR v1 → (gr g v2 ∧ tg v2 = 19) → (Mw g e M_X8_byteAt [(17, 2), (0, (w32 (2 + (w32 (6 * v1)))))] s (fun r1 s2 => (Mw g e M_X8_pairAt [(17, 2), (0, (w32 ((w32 (2 + (w32 (6 * v1)))) + 1)))] s2 (fun r3 s4 => (Mw g e M_X8_byteAt [(17, 2), (0, (w32 ((w32 (2 + (w32 (6 * v1)))) + 3)))] s4 (fun r5 s6 => (Mw g e M_X8_byteAt [(17, 2), (0, (w32 ((w32 (2 + (w32 (6 * v1)))) + 4)))] s6 (fun r7 s8 => (Mw g e M_X8_byteAt [(17, 2), (0, (w32 ((w32 (2 + (w32 (6 * v1)))) + 5)))] s8 (fun r9 s10 => (Mw g e M_X9_homeCount [(18, (s v2 0))] s10 (fun r11 s12 => ((r11 ≤ r1 → Q 0 s12) ∧ (¬ r11 ≤ r1 → ((r3 ≤ 999 → ((0 ≤ v1 ∧ v1 < 8) ∧ ∀ s13, s13 = ups s12 (v2 + 1) v1 r1 → ((0 ≤ v1 ∧ v1 < 8) ∧ ∀ s14, s14 = ups s13 (v2 + 2) v1 r3 → ((¬ (w32 (r5 - 1)) = (-1) → (Mw g e M_X9_wallCount [(18, (s v2 0))] s14 (fun r15 s16 => ((r15 ≤ (w32 (r5 - 1)) → Q 0 s16) ∧ (¬ r15 ≤ (w32 (r5 - 1)) → (Mw g e M_X11_isDone [(19, v2), (0, v1)] s16 (fun r17 s18 => ((¬ r17 = 0 → ((0 ≤ (w32 (r5 - 1)) ∧ (w32 (r5 - 1)) < 4) ∧ (((s18 ((s v2 0) + 11) (w32 (r5 - 1))) ≤ r7 → Q 0 s18) ∧ (¬ (s18 ((s v2 0) + 11) (w32 (r5 - 1))) ≤ r7 → ((0 ≤ (w32 (r5 - 1)) ∧ (w32 (r5 - 1)) < 4) ∧ ((r9 < (s18 ((s v2 0) + 12) (w32 (r5 - 1))) → (Mw g e M_X11_spot [(0, (w32 (r5 - 1))), (0, r7), (0, r9)] s18 (fun r19 s20 => ((0 ≤ r19 ∧ r19 < 64) ∧ (((s20 (v2 + 4) r19) = (-1) → (Mw g e M_X11_put [(19, v2), (0, v1), (0, r19)] s20 (fun _ s22 => Q 1 s22))) ∧ (¬ (s20 (v2 + 4) r19) = (-1) → Q 0 s20)))))) ∧ (¬ r9 < (s18 ((s v2 0) + 12) (w32 (r5 - 1))) → Q 0 s18))))))) ∧ (r17 = 0 → Q 0 s18))))))))) ∧ ((w32 (r5 - 1)) = (-1) → ((¬ r7 = 0 → Q 0 s14) ∧ (r7 = 0 → ((¬ r9 = 0 → Q 0 s14) ∧ (r9 = 0 → Q 1 s14))))))))) ∧ (¬ r3 ≤ 999 → Q 0 s12))))))))))))))))) : Mw g (e + 1) M_X3_readStone [(17, 2), (0, v1), (19, v2)] s Q := by
  refine Mw.of (ls := [(17, 2), (0, v1), (19, v2), (9, 0), (9, 0), (9, 0), (9, 0), (9, 0), (9, 0), (9, 0), (9, 0)]) pn_X3_readStone (Nat.le_of_ble_eq_true rfl) rfl (fun hv => ?_)
  have h := h (hv _ (List.Mem.tail _ (List.Mem.head _))) (vld_o (by decide) (hv _ (List.Mem.tail _ (List.Mem.tail _ (List.Mem.head _)))))
  refine r_iconst dX3_readStone_0 (by decide) ?_
  refine r_bipush dX3_readStone_1 (by decide) rfl ?_
  refine r_iload_n dX3_readStone_3 rfl ?_
  refine r_imul dX3_readStone_4 ?_
  refine r_iadd dX3_readStone_5 ?_
  refine r_istore_n (ls2 := [(17, 2), (0, v1), (19, v2), (0, (w32 (2 + (w32 (6 * v1))))), (9, 0), (9, 0), (9, 0), (9, 0), (9, 0), (9, 0), (9, 0)]) dX3_readStone_6 (by decide) rfl ?_
  refine r_aload_n dX3_readStone_7 rfl rfl ?_
  refine gf_X3_28 rfl dX3_readStone_8 ?_
  refine r_astore (ls2 := [(17, 2), (0, v1), (19, v2), (0, (w32 (2 + (w32 (6 * v1))))), (18, (s v2 0)), (9, 0), (9, 0), (9, 0), (9, 0), (9, 0), (9, 0)]) dX3_readStone_11 rfl (by decide) rfl ?_
  refine r_aload_n dX3_readStone_13 rfl rfl ?_
  refine r_iload_n dX3_readStone_14 rfl ?_
  refine r_callV (ci := 7) (As := [(0, (w32 (2 + (w32 (6 * v1)))))]) (st := []) (by decide) ok_X3_82 rfl rfl (Nat.le_of_ble_eq_true rfl) dX3_readStone_15 h (fun r1 s2 hv h => ?_)
  refine r_istore (ls2 := [(17, 2), (0, v1), (19, v2), (0, (w32 (2 + (w32 (6 * v1))))), (18, (s v2 0)), (0, r1), (9, 0), (9, 0), (9, 0), (9, 0), (9, 0)]) dX3_readStone_18 (by decide) rfl ?_
  refine r_aload_n dX3_readStone_20 rfl rfl ?_
  refine r_iload_n dX3_readStone_21 rfl ?_
  refine r_iconst dX3_readStone_22 (by decide) ?_
  refine r_iadd dX3_readStone_23 ?_
  refine r_callV (ci := 7) (As := [(0, (w32 ((w32 (2 + (w32 (6 * v1)))) + 1)))]) (st := []) (by decide) ok_X3_75 rfl rfl (Nat.le_of_ble_eq_true rfl) dX3_readStone_24 h (fun r3 s4 hv h => ?_)
  refine r_istore (ls2 := [(17, 2), (0, v1), (19, v2), (0, (w32 (2 + (w32 (6 * v1))))), (18, (s v2 0)), (0, r1), (0, r3), (9, 0), (9, 0), (9, 0), (9, 0)]) dX3_readStone_27 (by decide) rfl ?_
  refine r_aload_n dX3_readStone_29 rfl rfl ?_
  refine r_iload_n dX3_readStone_30 rfl ?_
  refine r_iconst dX3_readStone_31 (by decide) ?_
  refine r_iadd dX3_readStone_32 ?_
  refine r_callV (ci := 7) (As := [(0, (w32 ((w32 (2 + (w32 (6 * v1)))) + 3)))]) (st := []) (by decide) ok_X3_82 rfl rfl (Nat.le_of_ble_eq_true rfl) dX3_readStone_33 h (fun r5 s6 hv h => ?_)
  refine r_iconst dX3_readStone_36 (by decide) ?_
  refine r_isub dX3_readStone_37 ?_
  refine r_istore (ls2 := [(17, 2), (0, v1), (19, v2), (0, (w32 (2 + (w32 (6 * v1))))), (18, (s v2 0)), (0, r1), (0, r3), (0, (w32 (r5 - 1))), (9, 0), (9, 0), (9, 0)]) dX3_readStone_38 (by decide) rfl ?_
  refine r_aload_n dX3_readStone_40 rfl rfl ?_
  refine r_iload_n dX3_readStone_41 rfl ?_
  refine r_iconst dX3_readStone_42 (by decide) ?_
  refine r_iadd dX3_readStone_43 ?_
  refine r_callV (ci := 7) (As := [(0, (w32 ((w32 (2 + (w32 (6 * v1)))) + 4)))]) (st := []) (by decide) ok_X3_82 rfl rfl (Nat.le_of_ble_eq_true rfl) dX3_readStone_44 h (fun r7 s8 hv h => ?_)
  refine r_istore (ls2 := [(17, 2), (0, v1), (19, v2), (0, (w32 (2 + (w32 (6 * v1))))), (18, (s v2 0)), (0, r1), (0, r3), (0, (w32 (r5 - 1))), (0, r7), (9, 0), (9, 0)]) dX3_readStone_47 (by decide) rfl ?_
  refine r_aload_n dX3_readStone_49 rfl rfl ?_
  refine r_iload_n dX3_readStone_50 rfl ?_
  refine r_iconst dX3_readStone_51 (by decide) ?_
  refine r_iadd dX3_readStone_52 ?_
  refine r_callV (ci := 7) (As := [(0, (w32 ((w32 (2 + (w32 (6 * v1)))) + 5)))]) (st := []) (by decide) ok_X3_82 rfl rfl (Nat.le_of_ble_eq_true rfl) dX3_readStone_53 h (fun r9 s10 hv h => ?_)
  refine r_istore (ls2 := [(17, 2), (0, v1), (19, v2), (0, (w32 (2 + (w32 (6 * v1))))), (18, (s v2 0)), (0, r1), (0, r3), (0, (w32 (r5 - 1))), (0, r7), (0, r9), (9, 0)]) dX3_readStone_56 (by decide) rfl ?_
  refine r_iload dX3_readStone_58 rfl ?_
  refine r_aload dX3_readStone_60 rfl rfl ?_
  refine r_callV (ci := 8) (As := []) (st := [(0, r1)]) (by decide) ok_X3_89 rfl rfl (Nat.le_of_ble_eq_true rfl) dX3_readStone_62 h (fun r11 s12 hv h => ?_)
  refine r_icmp_ge (tgt := 76) dX3_readStone_65 (by decide) (fun hc => ?_) (fun hc => ?_)
  · have h := h.1 hc
    refine r_iconst dX3_readStone_76 (by decide) ?_
    exact r_zret dX3_readStone_77 rfl (by decide) h
  · have h := h.2 hc
    refine r_iload dX3_readStone_68 rfl ?_
    refine r_sipush dX3_readStone_70 (by decide) rfl ?_
    refine r_icmp_le (tgt := 78) dX3_readStone_73 (by decide) (fun hc => ?_) (fun hc => ?_)
    · have h := h.1 hc
      refine r_aload_n dX3_readStone_78 rfl rfl ?_
      refine gf_X3_41 rfl dX3_readStone_79 ?_
      refine r_iload_n dX3_readStone_82 rfl ?_
      refine r_iload dX3_readStone_83 rfl ?_
      obtain ⟨hb, h⟩ := h
      refine r_iast (n := 8) rfl (by decide) dX3_readStone_85 hb ?_
      have h := h _ rfl
      generalize hs_s13 : ups s12 (v2 + 1) v1 r1 = s13 at h ⊢
      refine r_aload_n dX3_readStone_86 rfl rfl ?_
      refine gf_X3_47 rfl dX3_readStone_87 ?_
      refine r_iload_n dX3_readStone_90 rfl ?_
      refine r_iload dX3_readStone_91 rfl ?_
      obtain ⟨hb, h⟩ := h
      refine r_iast (n := 8) rfl (by decide) dX3_readStone_93 hb ?_
      have h := h _ rfl
      generalize hs_s14 : ups s13 (v2 + 2) v1 r3 = s14 at h ⊢
      refine r_iload dX3_readStone_94 rfl ?_
      refine r_iconst dX3_readStone_96 (by decide) ?_
      refine r_icmp_ne (tgt := 116) dX3_readStone_97 (by decide) (fun hc => ?_) (fun hc => ?_)
      · have h := h.1 hc
        refine r_iload dX3_readStone_116 rfl ?_
        refine r_aload dX3_readStone_118 rfl rfl ?_
        refine r_callV (ci := 8) (As := []) (st := [(0, (w32 (r5 - 1)))]) (by decide) ok_X3_92 rfl rfl (Nat.le_of_ble_eq_true rfl) dX3_readStone_120 h (fun r15 s16 hv h => ?_)
        refine r_icmp_ge (tgt := 134) dX3_readStone_123 (by decide) (fun hc => ?_) (fun hc => ?_)
        · have h := h.1 hc
          refine r_iconst dX3_readStone_134 (by decide) ?_
          exact r_zret dX3_readStone_135 rfl (by decide) h
        · have h := h.2 hc
          refine r_aload_n dX3_readStone_126 rfl rfl ?_
          refine r_iload_n dX3_readStone_127 rfl ?_
          refine r_callV (ci := 9) (As := [(0, v1)]) (st := []) (by decide) ok_X3_95 rfl rfl (Nat.le_of_ble_eq_true rfl) dX3_readStone_128 h (fun r17 s18 hv h => ?_)
          refine r_if_ne (tgt := 136) dX3_readStone_131 (by decide) (fun hc => ?_) (fun hc => ?_)
          · have h := h.1 hc
            refine r_iload dX3_readStone_136 rfl ?_
            refine r_aload dX3_readStone_138 rfl rfl ?_
            refine gf_X3_99 rfl dX3_readStone_140 ?_
            refine r_iload dX3_readStone_143 rfl ?_
            obtain ⟨hb, h⟩ := h
            refine r_iald (n := 4) rfl (by decide) dX3_readStone_145 hb ?_
            refine r_icmp_ge (tgt := 162) dX3_readStone_146 (by decide) (fun hc => ?_) (fun hc => ?_)
            · have h := h.1 hc
              refine r_iconst dX3_readStone_162 (by decide) ?_
              exact r_zret dX3_readStone_163 rfl (by decide) h
            · have h := h.2 hc
              refine r_iload dX3_readStone_149 rfl ?_
              refine r_aload dX3_readStone_151 rfl rfl ?_
              refine gf_X3_102 rfl dX3_readStone_153 ?_
              refine r_iload dX3_readStone_156 rfl ?_
              obtain ⟨hb, h⟩ := h
              refine r_iald (n := 4) rfl (by decide) dX3_readStone_158 hb ?_
              refine r_icmp_lt (tgt := 164) dX3_readStone_159 (by decide) (fun hc => ?_) (fun hc => ?_)
              · have h := h.1 hc
                refine r_iload dX3_readStone_164 rfl ?_
                refine r_iload dX3_readStone_166 rfl ?_
                refine r_iload dX3_readStone_168 rfl ?_
                refine r_callS (As := [(0, (w32 (r5 - 1))), (0, r7), (0, r9)]) (st := []) ok_X3_105 rfl rfl (Nat.le_of_ble_eq_true rfl) dX3_readStone_170 h (fun r19 s20 hv h => ?_)
                refine r_istore (ls2 := [(17, 2), (0, v1), (19, v2), (0, (w32 (2 + (w32 (6 * v1))))), (18, (s v2 0)), (0, r1), (0, r3), (0, (w32 (r5 - 1))), (0, r7), (0, r9), (0, r19)]) dX3_readStone_173 (by decide) rfl ?_
                refine r_aload_n dX3_readStone_175 rfl rfl ?_
                refine gf_X3_109 rfl dX3_readStone_176 ?_
                refine r_iload dX3_readStone_179 rfl ?_
                obtain ⟨hb, h⟩ := h
                refine r_iald (n := 64) rfl (by decide) dX3_readStone_181 hb ?_
                refine r_iconst dX3_readStone_182 (by decide) ?_
                refine r_icmp_eq (tgt := 188) dX3_readStone_183 (by decide) (fun hc => ?_) (fun hc => ?_)
                · have h := h.1 hc
                  refine r_aload_n dX3_readStone_188 rfl rfl ?_
                  refine r_iload_n dX3_readStone_189 rfl ?_
                  refine r_iload dX3_readStone_190 rfl ?_
                  refine r_callV (ci := 9) (As := [(0, v1), (0, r19)]) (st := []) (by decide) ok_X3_112 rfl rfl (Nat.le_of_ble_eq_true rfl) dX3_readStone_192 h (fun r21 s22 hv h => ?_)
                  refine r_iconst dX3_readStone_195 (by decide) ?_
                  exact r_zret dX3_readStone_196 rfl (by decide) h
                · have h := h.2 hc
                  refine r_iconst dX3_readStone_186 (by decide) ?_
                  exact r_zret dX3_readStone_187 rfl (by decide) h
              · have h := h.2 hc
                refine r_iconst dX3_readStone_162 (by decide) ?_
                exact r_zret dX3_readStone_163 rfl (by decide) h
          · have h := h.2 hc
            refine r_iconst dX3_readStone_134 (by decide) ?_
            exact r_zret dX3_readStone_135 rfl (by decide) h
      · have h := h.2 hc
        refine r_iload dX3_readStone_100 rfl ?_
        refine r_if_ne (tgt := 114) dX3_readStone_102 (by decide) (fun hc => ?_) (fun hc => ?_)
        · have h := h.1 hc
          refine r_iconst dX3_readStone_114 (by decide) ?_
          exact r_zret dX3_readStone_115 rfl (by decide) h
        · have h := h.2 hc
          refine r_iload dX3_readStone_105 rfl ?_
          refine r_if_ne (tgt := 114) dX3_readStone_107 (by decide) (fun hc => ?_) (fun hc => ?_)
          · have h := h.1 hc
            refine r_iconst dX3_readStone_114 (by decide) ?_
            exact r_zret dX3_readStone_115 rfl (by decide) h
          · have h := h.2 hc
            refine r_iconst dX3_readStone_110 (by decide) ?_
            refine r_goto (tgt := 115) dX3_readStone_111 (by decide) ?_
            exact r_zret dX3_readStone_115 rfl (by decide) h
    · have h := h.2 hc
      refine r_iconst dX3_readStone_76 (by decide) ?_
      exact r_zret dX3_readStone_77 rfl (by decide) h
abbrev P_X3_allRest_2 (g : GT) (e : Nat) (Q : Int → Sg → Prop) (s : Sg) (v0 : Int) (v1 : Int) : Prop := Wp g (e + 1) M_X3_allRest Q 2 [(19, v0), (0, v1), (9, 0)] [] s
set_option maxRecDepth 20000 in
theorem S_X3_allRest_2 {g : GT} {e : Nat} {Q : Int → Sg → Prop} {s : Sg} {v0 : Int} {v1 : Int} (h : (Mw g e M_X9_childCount [(18, (s v0 0))] s (fun r1 s2 => ((r1 ≤ v1 → Q 1 s2) ∧ (¬ r1 ≤ v1 → ((0 ≤ v1 ∧ v1 < 8) ∧ (((s2 (v0 + 3) v1) = (-1) → P_X3_allRest_2 g e Q s2 v0 (w32 (v1 + 1))) ∧ (¬ (s2 (v0 + 3) v1) = (-1) → (((Int.tmod (s2 (v0 + 3) v1) 4) ≤ 0 → P_X3_allRest_2 g e Q s2 v0 (w32 (v1 + 1))) ∧ (¬ (Int.tmod (s2 (v0 + 3) v1) 4) ≤ 0 → ((0 ≤ (w32 ((s2 (v0 + 3) v1) - 1)) ∧ (w32 ((s2 (v0 + 3) v1) - 1)) < 64) ∧ ((¬ (s2 (v0 + 4) (w32 ((s2 (v0 + 3) v1) - 1))) = (-1) → P_X3_allRest_2 g e Q s2 v0 (w32 (v1 + 1))) ∧ ((s2 (v0 + 4) (w32 ((s2 (v0 + 3) v1) - 1))) = (-1) → Q 0 s2))))))))))))) : P_X3_allRest_2 g e Q s v0 v1 := by
  refine r_iload_n dX3_allRest_2 rfl ?_
  refine r_aload_n dX3_allRest_3 rfl rfl ?_
  refine gf_X3_28 rfl dX3_allRest_4 ?_
  refine r_callV (ci := 8) (As := []) (st := [(0, v1)]) (by decide) ok_X3_32 rfl rfl (Nat.le_of_ble_eq_true rfl) dX3_allRest_7 h (fun r1 s2 hv h => ?_)
  refine r_icmp_ge (tgt := 51) dX3_allRest_10 (by decide) (fun hc => ?_) (fun hc => ?_)
  · have h := h.1 hc
    refine r_iconst dX3_allRest_51 (by decide) ?_
    exact r_zret dX3_allRest_52 rfl (by decide) h
  · have h := h.2 hc
    refine r_aload_n dX3_allRest_13 rfl rfl ?_
    refine gf_X3_38 rfl dX3_allRest_14 ?_
    refine r_iload_n dX3_allRest_17 rfl ?_
    obtain ⟨hb, h⟩ := h
    refine r_iald (n := 8) rfl (by decide) dX3_allRest_18 hb ?_
    refine r_istore_n (ls2 := [(19, v0), (0, v1), (0, (s2 (v0 + 3) v1))]) dX3_allRest_19 (by decide) rfl ?_
    refine r_iload_n dX3_allRest_20 rfl ?_
    refine r_iconst dX3_allRest_21 (by decide) ?_
    refine r_icmp_eq (tgt := 45) dX3_allRest_22 (by decide) (fun hc => ?_) (fun hc => ?_)
    · have h := h.1 hc
      refine r_iinc (ls2 := [(19, v0), (0, (w32 (v1 + 1))), (0, (s2 (v0 + 3) v1))]) dX3_allRest_45 rfl (by decide) rfl ?_
      refine r_goto (tgt := 2) dX3_allRest_48 (by decide) ?_
      exact r_fgt [true, true, false] rfl h
    · have h := h.2 hc
      refine r_iload_n dX3_allRest_25 rfl ?_
      refine r_iconst dX3_allRest_26 (by decide) ?_
      refine r_irem dX3_allRest_27 (by decide) ?_
      refine r_if_le (tgt := 45) dX3_allRest_28 (by decide) (fun hc => ?_) (fun hc => ?_)
      · have h := h.1 hc
        refine r_iinc (ls2 := [(19, v0), (0, (w32 (v1 + 1))), (0, (s2 (v0 + 3) v1))]) dX3_allRest_45 rfl (by decide) rfl ?_
        refine r_goto (tgt := 2) dX3_allRest_48 (by decide) ?_
        exact r_fgt [true, true, false] rfl h
      · have h := h.2 hc
        refine r_aload_n dX3_allRest_31 rfl rfl ?_
        refine gf_X3_109 rfl dX3_allRest_32 ?_
        refine r_iload_n dX3_allRest_35 rfl ?_
        refine r_iconst dX3_allRest_36 (by decide) ?_
        refine r_isub dX3_allRest_37 ?_
        obtain ⟨hb, h⟩ := h
        refine r_iald (n := 64) rfl (by decide) dX3_allRest_38 hb ?_
        refine r_iconst dX3_allRest_39 (by decide) ?_
        refine r_icmp_ne (tgt := 45) dX3_allRest_40 (by decide) (fun hc => ?_) (fun hc => ?_)
        · have h := h.1 hc
          refine r_iinc (ls2 := [(19, v0), (0, (w32 (v1 + 1))), (0, (s2 (v0 + 3) v1))]) dX3_allRest_45 rfl (by decide) rfl ?_
          refine r_goto (tgt := 2) dX3_allRest_48 (by decide) ?_
          exact r_fgt [true, true, false] rfl h
        · have h := h.2 hc
          refine r_iconst dX3_allRest_43 (by decide) ?_
          exact r_zret dX3_allRest_44 rfl (by decide) h
set_option maxRecDepth 20000 in
theorem S_X3_allRest {g : GT} {e : Nat} {Q : Int → Sg → Prop} {s : Sg} {v0 : Int} (h : (gr g v0 ∧ tg v0 = 19) → P_X3_allRest_2 g e Q s v0 0) : Mw g (e + 1) M_X3_allRest [(19, v0)] s Q := by
  refine Mw.of (ls := [(19, v0), (9, 0), (9, 0)]) pn_X3_allRest (Nat.le_of_ble_eq_true rfl) rfl (fun hv => ?_)
  have h := h (vld_o (by decide) (hv _ (List.Mem.head _)))
  refine r_iconst dX3_allRest_0 (by decide) ?_
  refine r_istore_n (ls2 := [(19, v0), (0, 0), (9, 0)]) dX3_allRest_1 (by decide) rfl ?_
  exact h
abbrev P_X3_read_68 (g : GT) (e : Nat) (Q : Int → Sg → Prop) (s : Sg) (v1 : Int) (v2 : Int) (v3 : Int) (v4 : Int) (v5 : Int) : Prop := Wp g (e + 1) M_X3_read Q 68 [(17, 2), (18, v1), (19, v2), (0, v3), (0, v4), (0, v5), (9, 0)] [] s
abbrev P_X3_read_100 (g : GT) (e : Nat) (Q : Int → Sg → Prop) (s : Sg) (v1 : Int) (v2 : Int) (v3 : Int) (v4 : Int) (v5 : Int) : Prop := Wp g (e + 1) M_X3_read Q 100 [(17, 2), (18, v1), (19, v2), (0, v3), (0, v4), (0, v5), (9, 0)] [] s
abbrev P_X3_read_132 (g : GT) (e : Nat) (Q : Int → Sg → Prop) (s : Sg) (v1 : Int) (v2 : Int) (v3 : Int) (v5 : Int) (v6 : Int) (x0 : Int) (x1 : Int) : Prop := Wp g (e + 1) M_X3_read Q 132 [(17, 2), (18, v1), (19, v2), (0, v3), (9, 0), (0, v5), (0, v6)] [(0, x1), (0, x0)] s
set_option maxRecDepth 20000 in
theorem S_X3_read_68 {g : GT} {e : Nat} {Q : Int → Sg → Prop} {s : Sg} {v1 : Int} {v2 : Int} {v3 : Int} {v4 : Int} {v5 : Int} (h : (Mw g e M_X9_childCount [(18, v1)] s (fun r1 s2 => ((r1 ≤ v5 → P_X3_read_100 g e Q s2 v1 v2 v3 v4 0) ∧ (¬ r1 ≤ v5 → ((v4 = 0 → P_X3_read_100 g e Q s2 v1 v2 v3 v4 0) ∧ (¬ v4 = 0 → (Mw g e M_X3_readStone [(17, 2), (0, v5), (19, v2)] s2 (fun r3 s4 => P_X3_read_68 g e Q s4 v1 v2 v3 r3 (w32 (v5 + 1))))))))))) : P_X3_read_68 g e Q s v1 v2 v3 v4 v5 := by
  refine r_iload dX3_read_68 rfl ?_
  refine r_aload_n dX3_read_70 rfl rfl ?_
  refine r_callV (ci := 8) (As := []) (st := [(0, v5)]) (by decide) ok_X3_32 rfl rfl (Nat.le_of_ble_eq_true rfl) dX3_read_71 h (fun r1 s2 hv h => ?_)
  refine r_icmp_ge (tgt := 97) dX3_read_74 (by decide) (fun hc => ?_) (fun hc => ?_)
  · have h := h.1 hc
    refine r_iconst dX3_read_97 (by decide) ?_
    refine r_istore (ls2 := [(17, 2), (18, v1), (19, v2), (0, v3), (0, v4), (0, 0), (9, 0)]) dX3_read_98 (by decide) rfl ?_
    exact h
  · have h := h.2 hc
    refine r_iload dX3_read_77 rfl ?_
    refine r_if_eq (tgt := 97) dX3_read_79 (by decide) (fun hc => ?_) (fun hc => ?_)
    · have h := h.1 hc
      refine r_iconst dX3_read_97 (by decide) ?_
      refine r_istore (ls2 := [(17, 2), (18, v1), (19, v2), (0, v3), (0, v4), (0, 0), (9, 0)]) dX3_read_98 (by decide) rfl ?_
      exact h
    · have h := h.2 hc
      refine r_aload_n dX3_read_82 rfl rfl ?_
      refine r_iload dX3_read_83 rfl ?_
      refine r_aload_n dX3_read_85 rfl rfl ?_
      refine r_callS (As := [(17, 2), (0, v5), (19, v2)]) (st := []) ok_X3_78 rfl rfl (Nat.le_of_ble_eq_true rfl) dX3_read_86 h (fun r3 s4 hv h => ?_)
      refine r_istore (ls2 := [(17, 2), (18, v1), (19, v2), (0, v3), (0, r3), (0, v5), (9, 0)]) dX3_read_89 (by decide) rfl ?_
      refine r_iinc (ls2 := [(17, 2), (18, v1), (19, v2), (0, v3), (0, r3), (0, (w32 (v5 + 1))), (9, 0)]) dX3_read_91 rfl (by decide) rfl ?_
      refine r_goto (tgt := 68) dX3_read_94 (by decide) ?_
      exact h
set_option maxRecDepth 20000 in
theorem S_X3_read_100 {g : GT} {e : Nat} {Q : Int → Sg → Prop} {s : Sg} {v1 : Int} {v2 : Int} {v3 : Int} {v4 : Int} {v5 : Int} (h : (((s v1 13) ≤ v5 → ((v4 = 0 → Q 0 s) ∧ (¬ v4 = 0 → (Mw g e M_X3_allRest [(19, v2)] s (fun r1 s2 => ((r1 = 0 → Q 0 s2) ∧ (¬ r1 = 0 → Q 1 s2))))))) ∧ (¬ (s v1 13) ≤ v5 → (Mw g e M_X8_byteAt [(17, 2), (0, (w32 (v3 + v5)))] s (fun r3 s4 => ((1 < r3 → P_X3_read_132 g e Q s4 v1 v2 v3 v5 r3 v4 0) ∧ (¬ 1 < r3 → P_X3_read_132 g e Q s4 v1 v2 v3 v5 r3 v4 1))))))) : P_X3_read_100 g e Q s v1 v2 v3 v4 v5 := by
  refine r_iload dX3_read_100 rfl ?_
  refine r_aload_n dX3_read_102 rfl rfl ?_
  refine gf_X3_54 rfl dX3_read_103 ?_
  refine r_icmp_ge (tgt := 164) dX3_read_106 (by decide) (fun hc => ?_) (fun hc => ?_)
  · have h := h.1 hc
    refine r_iload dX3_read_164 rfl ?_
    refine r_if_eq (tgt := 180) dX3_read_166 (by decide) (fun hc => ?_) (fun hc => ?_)
    · have h := h.1 hc
      refine r_iconst dX3_read_180 (by decide) ?_
      exact r_zret dX3_read_181 rfl (by decide) h
    · have h := h.2 hc
      refine r_aload_n dX3_read_169 rfl rfl ?_
      refine r_callS (As := [(19, v2)]) (st := []) ok_X3_85 rfl rfl (Nat.le_of_ble_eq_true rfl) dX3_read_170 h (fun r1 s2 hv h => ?_)
      refine r_if_eq (tgt := 180) dX3_read_173 (by decide) (fun hc => ?_) (fun hc => ?_)
      · have h := h.1 hc
        refine r_iconst dX3_read_180 (by decide) ?_
        exact r_zret dX3_read_181 rfl (by decide) h
      · have h := h.2 hc
        refine r_iconst dX3_read_176 (by decide) ?_
        refine r_goto (tgt := 181) dX3_read_177 (by decide) ?_
        exact r_zret dX3_read_181 rfl (by decide) h
  · have h := h.2 hc
    refine r_aload_n dX3_read_109 rfl rfl ?_
    refine r_iload_n dX3_read_110 rfl ?_
    refine r_iload dX3_read_111 rfl ?_
    refine r_iadd dX3_read_113 ?_
    refine r_callV (ci := 7) (As := [(0, (w32 (v3 + v5)))]) (st := []) (by decide) ok_X3_82 rfl rfl (Nat.le_of_ble_eq_true rfl) dX3_read_114 h (fun r3 s4 hv h => ?_)
    refine r_istore (ls2 := [(17, 2), (18, v1), (19, v2), (0, v3), (0, v4), (0, v5), (0, r3)]) dX3_read_117 (by decide) rfl ?_
    refine r_iload dX3_read_119 rfl ?_
    refine r_iload dX3_read_121 rfl ?_
    refine r_iconst dX3_read_123 (by decide) ?_
    refine r_icmp_gt (tgt := 131) dX3_read_124 (by decide) (fun hc => ?_) (fun hc => ?_)
    · have h := h.1 hc
      refine r_iconst dX3_read_131 (by decide) ?_
      exact r_fgt [true, true, true, true, false, true, true] rfl h
    · have h := h.2 hc
      refine r_iconst dX3_read_127 (by decide) ?_
      refine r_goto (tgt := 132) dX3_read_128 (by decide) ?_
      exact r_fgt [true, true, true, true, false, true, true] rfl h
set_option maxRecDepth 20000 in
theorem S_X3_read_132 {g : GT} {e : Nat} {Q : Int → Sg → Prop} {s : Sg} {v1 : Int} {v2 : Int} {v3 : Int} {v5 : Int} {v6 : Int} {x0 : Int} {x1 : Int} (h : ((¬ v6 = 1 → (∀ s1, s1 = ups s v2 2 (bOr (s v2 2) 0) → P_X3_read_100 g e Q s1 v1 v2 v3 (bAnd x0 x1) (w32 (v5 + 1)))) ∧ (v6 = 1 → (∀ s2, s2 = ups s v2 2 (bOr (s v2 2) (bShl 1 v5)) → P_X3_read_100 g e Q s2 v1 v2 v3 (bAnd x0 x1) (w32 (v5 + 1)))))) : P_X3_read_132 g e Q s v1 v2 v3 v5 v6 x0 x1 := by
  refine r_iand dX3_read_132 ?_
  refine r_istore (ls2 := [(17, 2), (18, v1), (19, v2), (0, v3), (0, (bAnd x0 x1)), (0, v5), (0, v6)]) dX3_read_133 (by decide) rfl ?_
  refine r_aload_n dX3_read_135 rfl rfl ?_
  refine r_dup dX3_read_136 (show (19 : Nat) ≠ 2 by decide) ?_
  refine gf_X3_57 rfl dX3_read_137 ?_
  refine r_iload dX3_read_140 rfl ?_
  refine r_iconst dX3_read_142 (by decide) ?_
  refine r_icmp_ne (tgt := 153) dX3_read_143 (by decide) (fun hc => ?_) (fun hc => ?_)
  · have h := h.1 hc
    refine r_iconst dX3_read_153 (by decide) ?_
    refine r_ior dX3_read_154 ?_
    refine pf_X3_57 rfl dX3_read_155 ?_
    have h := h _ rfl
    generalize hs_s1 : ups s v2 2 (bOr (s v2 2) 0) = s1 at h ⊢
    refine r_iinc (ls2 := [(17, 2), (18, v1), (19, v2), (0, v3), (0, (bAnd x0 x1)), (0, (w32 (v5 + 1))), (0, v6)]) dX3_read_158 rfl (by decide) rfl ?_
    refine r_goto (tgt := 100) dX3_read_161 (by decide) ?_
    exact r_fgt [true, true, true, true, true, true, false] rfl h
  · have h := h.2 hc
    refine r_iconst dX3_read_146 (by decide) ?_
    refine r_iload dX3_read_147 rfl ?_
    refine r_ishl dX3_read_149 ?_
    refine r_goto (tgt := 154) dX3_read_150 (by decide) ?_
    refine r_ior dX3_read_154 ?_
    refine pf_X3_57 rfl dX3_read_155 ?_
    have h := h _ rfl
    generalize hs_s2 : ups s v2 2 (bOr (s v2 2) (bShl 1 v5)) = s2 at h ⊢
    refine r_iinc (ls2 := [(17, 2), (18, v1), (19, v2), (0, v3), (0, (bAnd x0 x1)), (0, (w32 (v5 + 1))), (0, v6)]) dX3_read_158 rfl (by decide) rfl ?_
    refine r_goto (tgt := 100) dX3_read_161 (by decide) ?_
    exact r_fgt [true, true, true, true, true, true, false] rfl h
set_option maxRecDepth 20000 in
theorem S_X3_read {g : GT} {e : Nat} {Q : Int → Sg → Prop} {s : Sg} {v1 : Int} {v2 : Int} (h : (gr g v1 ∧ tg v1 = 18) → (gr g v2 ∧ tg v2 = 19) → (Mw g e M_X9_childCount [(18, v1)] s (fun r1 s2 => ((¬ (s2 2 1) = (w32 ((w32 ((w32 (2 + (w32 (6 * r1)))) + (s2 v1 13))) + 1)) → Q 0 s2) ∧ ((s2 2 1) = (w32 ((w32 ((w32 (2 + (w32 (6 * r1)))) + (s2 v1 13))) + 1)) → (Mw g e M_X3_sumFits [(17, 2)] s2 (fun r3 s4 => ((¬ r3 = 0 → (Mw g e M_X11_begin [(19, v2), (18, v1)] s4 (fun _ s6 => (Mw g e M_X8_pairAt [(17, 2), (0, 0)] s6 (fun r7 s8 => (∀ s9, s9 = ups s8 v2 1 r7 → ((999 < (s9 v2 1) → P_X3_read_68 g e Q s9 v1 v2 (w32 (2 + (w32 (6 * r1)))) 0 0) ∧ (¬ 999 < (s9 v2 1) → P_X3_read_68 g e Q s9 v1 v2 (w32 (2 + (w32 (6 * r1)))) 1 0)))))))) ∧ (r3 = 0 → Q 0 s4))))))))) : Mw g (e + 1) M_X3_read [(17, 2), (18, v1), (19, v2)] s Q := by
  refine Mw.of (ls := [(17, 2), (18, v1), (19, v2), (9, 0), (9, 0), (9, 0), (9, 0)]) pn_X3_read (Nat.le_of_ble_eq_true rfl) rfl (fun hv => ?_)
  have h := h (vld_o (by decide) (hv _ (List.Mem.tail _ (List.Mem.head _)))) (vld_o (by decide) (hv _ (List.Mem.tail _ (List.Mem.tail _ (List.Mem.head _)))))
  refine r_iconst dX3_read_0 (by decide) ?_
  refine r_bipush dX3_read_1 (by decide) rfl ?_
  refine r_aload_n dX3_read_3 rfl rfl ?_
  refine r_callV (ci := 8) (As := []) (st := [(0, 6), (0, 2)]) (by decide) ok_X3_32 rfl rfl (Nat.le_of_ble_eq_true rfl) dX3_read_4 h (fun r1 s2 hv h => ?_)
  refine r_imul dX3_read_7 ?_
  refine r_iadd dX3_read_8 ?_
  refine r_istore_n (ls2 := [(17, 2), (18, v1), (19, v2), (0, (w32 (2 + (w32 (6 * r1))))), (9, 0), (9, 0), (9, 0)]) dX3_read_9 (by decide) rfl ?_
  refine r_aload_n dX3_read_10 rfl rfl ?_
  refine gf_X3_64 rfl dX3_read_11 ?_
  refine r_iload_n dX3_read_14 rfl ?_
  refine r_aload_n dX3_read_15 rfl rfl ?_
  refine gf_X3_54 rfl dX3_read_16 ?_
  refine r_iadd dX3_read_19 ?_
  refine r_iconst dX3_read_20 (by decide) ?_
  refine r_iadd dX3_read_21 ?_
  refine r_icmp_ne (tgt := 32) dX3_read_22 (by decide) (fun hc => ?_) (fun hc => ?_)
  · have h := h.1 hc
    refine r_iconst dX3_read_32 (by decide) ?_
    exact r_zret dX3_read_33 rfl (by decide) h
  · have h := h.2 hc
    refine r_aload_n dX3_read_25 rfl rfl ?_
    refine r_callS (As := [(17, 2)]) (st := []) ok_X3_67 rfl rfl (Nat.le_of_ble_eq_true rfl) dX3_read_26 h (fun r3 s4 hv h => ?_)
    refine r_if_ne (tgt := 34) dX3_read_29 (by decide) (fun hc => ?_) (fun hc => ?_)
    · have h := h.1 hc
      refine r_aload_n dX3_read_34 rfl rfl ?_
      refine r_aload_n dX3_read_35 rfl rfl ?_
      refine r_callV (ci := 9) (As := [(18, v1)]) (st := []) (by decide) ok_X3_71 rfl rfl (Nat.le_of_ble_eq_true rfl) dX3_read_36 h (fun r5 s6 hv h => ?_)
      refine r_aload_n dX3_read_39 rfl rfl ?_
      refine r_aload_n dX3_read_40 rfl rfl ?_
      refine r_iconst dX3_read_41 (by decide) ?_
      refine r_callV (ci := 7) (As := [(0, 0)]) (st := [(19, v2)]) (by decide) ok_X3_75 rfl rfl (Nat.le_of_ble_eq_true rfl) dX3_read_42 h (fun r7 s8 hv h => ?_)
      refine pf_X3_19 rfl dX3_read_45 ?_
      have h := h _ rfl
      generalize hs_s9 : ups s8 v2 1 r7 = s9 at h ⊢
      refine r_aload_n dX3_read_48 rfl rfl ?_
      refine gf_X3_19 rfl dX3_read_49 ?_
      refine r_sipush dX3_read_52 (by decide) rfl ?_
      refine r_icmp_gt (tgt := 62) dX3_read_55 (by decide) (fun hc => ?_) (fun hc => ?_)
      · have h := h.1 hc
        refine r_iconst dX3_read_62 (by decide) ?_
        refine r_istore (ls2 := [(17, 2), (18, v1), (19, v2), (0, (w32 (2 + (w32 (6 * r1))))), (0, 0), (9, 0), (9, 0)]) dX3_read_63 (by decide) rfl ?_
        refine r_iconst dX3_read_65 (by decide) ?_
        refine r_istore (ls2 := [(17, 2), (18, v1), (19, v2), (0, (w32 (2 + (w32 (6 * r1))))), (0, 0), (0, 0), (9, 0)]) dX3_read_66 (by decide) rfl ?_
        exact h
      · have h := h.2 hc
        refine r_iconst dX3_read_58 (by decide) ?_
        refine r_goto (tgt := 63) dX3_read_59 (by decide) ?_
        refine r_istore (ls2 := [(17, 2), (18, v1), (19, v2), (0, (w32 (2 + (w32 (6 * r1))))), (0, 1), (9, 0), (9, 0)]) dX3_read_63 (by decide) rfl ?_
        refine r_iconst dX3_read_65 (by decide) ?_
        refine r_istore (ls2 := [(17, 2), (18, v1), (19, v2), (0, (w32 (2 + (w32 (6 * r1))))), (0, 1), (0, 0), (9, 0)]) dX3_read_66 (by decide) rfl ?_
        exact h
    · have h := h.2 hc
      refine r_iconst dX3_read_32 (by decide) ?_
      exact r_zret dX3_read_33 rfl (by decide) h
abbrev P_X5_goAhead_24 (g : GT) (e : Nat) (Q : Int → Sg → Prop) (s : Sg) (v2 : Int) (v4 : Int) : Prop := Wp g (e + 1) M_X5_goAhead Q 24 [(14, 55), (9, 0), (0, v2), (9, 0), (0, v4)] [] s
set_option maxRecDepth 20000 in
theorem S_X5_goAhead_24 {g : GT} {e : Nat} {Q : Int → Sg → Prop} {s : Sg} {v2 : Int} {v4 : Int} (h : ((v2 ≤ v4 → (Mw g e M_X11_bitsAt [(19, 58), (0, 3)] s (fun r1 s2 => (Mw g e M_J6_bitCount_0f7a4 [(0, r1)] s2 (fun r3 s4 => Q r3 s4))))) ∧ (¬ v2 ≤ v4 → (Mw g e M_X11_passYear [(19, 58), (0, 0)] s (fun _ s6 => P_X5_goAhead_24 g e Q s6 v2 (w32 (v4 + 1))))))) : P_X5_goAhead_24 g e Q s v2 v4 := by
  refine r_iload dX5_goAhead_24 rfl ?_
  refine r_iload_n dX5_goAhead_26 rfl ?_
  refine r_icmp_ge (tgt := 44) dX5_goAhead_27 (by decide) (fun hc => ?_) (fun hc => ?_)
  · have h := h.1 hc
    refine r_aload_n dX5_goAhead_44 rfl rfl ?_
    refine gf_X5_23 rfl dX5_goAhead_45 ?_
    refine r_iconst dX5_goAhead_48 (by decide) ?_
    refine r_callV (ci := 9) (As := [(0, 3)]) (st := []) (by decide) ok_X5_39 rfl rfl (Nat.le_of_ble_eq_true rfl) dX5_goAhead_49 h (fun r1 s2 hv h => ?_)
    refine r_callS (As := [(0, r1)]) (st := []) ok_X5_43 rfl rfl (Nat.le_of_ble_eq_true rfl) dX5_goAhead_52 h (fun r3 s4 hv h => ?_)
    exact r_iret dX5_goAhead_55 rfl h
  · have h := h.2 hc
    refine r_aload_n dX5_goAhead_30 rfl rfl ?_
    refine gf_X5_23 rfl dX5_goAhead_31 ?_
    refine r_iconst dX5_goAhead_34 (by decide) ?_
    refine r_callV (ci := 9) (As := [(0, 0)]) (st := []) (by decide) ok_X5_35 rfl rfl (Nat.le_of_ble_eq_true rfl) dX5_goAhead_35 h (fun r5 s6 hv h => ?_)
    refine r_iinc (ls2 := [(14, 55), (9, 0), (0, v2), (9, 0), (0, (w32 (v4 + 1)))]) dX5_goAhead_38 rfl (by decide) rfl ?_
    refine r_goto (tgt := 24) dX5_goAhead_41 (by decide) ?_
    exact h
set_option maxRecDepth 20000 in
theorem S_X5_goAhead {g : GT} {e : Nat} {Q : Int → Sg → Prop} {s : Sg} {v1 : Int} {v2 : Int} {v3 : Int} (h : (gr g v1 ∧ tg v1 = 19) → inR v2 → inR v3 → (Mw g e M_X11_copy [(19, 58), (19, v1)] s (fun _ s2 => (∀ s3, s3 = ups s2 58 2 (bOr (s2 58 2) v3) → P_X5_goAhead_24 g e Q s3 v2 0)))) : Mw g (e + 1) M_X5_goAhead [(14, 55), (19, v1), (0, v2), (0, v3)] s Q := by
  refine Mw.of (ls := [(14, 55), (19, v1), (0, v2), (0, v3), (9, 0)]) pn_X5_goAhead (Nat.le_of_ble_eq_true rfl) rfl (fun hv => ?_)
  have h := h (vld_o (by decide) (hv _ (List.Mem.tail _ (List.Mem.head _)))) (hv _ (List.Mem.tail _ (List.Mem.tail _ (List.Mem.head _)))) (hv _ (List.Mem.tail _ (List.Mem.tail _ (List.Mem.tail _ (List.Mem.head _)))))
  refine r_aload_n dX5_goAhead_0 rfl rfl ?_
  refine gf_X5_23 rfl dX5_goAhead_1 ?_
  refine r_aload_n dX5_goAhead_4 rfl rfl ?_
  refine r_callV (ci := 9) (As := [(19, v1)]) (st := []) (by decide) ok_X5_27 rfl rfl (Nat.le_of_ble_eq_true rfl) dX5_goAhead_5 h (fun r1 s2 hv h => ?_)
  refine r_aload_n dX5_goAhead_8 rfl rfl ?_
  refine gf_X5_23 rfl dX5_goAhead_9 ?_
  refine r_dup dX5_goAhead_12 (show (19 : Nat) ≠ 2 by decide) ?_
  refine gf_X5_31 rfl dX5_goAhead_13 ?_
  refine r_iload_n dX5_goAhead_16 rfl ?_
  refine r_ior dX5_goAhead_17 ?_
  refine pf_X5_31 rfl dX5_goAhead_18 ?_
  have h := h _ rfl
  generalize hs_s3 : ups s2 58 2 (bOr (s2 58 2) v3) = s3 at h ⊢
  refine r_iconst dX5_goAhead_21 (by decide) ?_
  refine r_istore (ls2 := [(14, 55), (19, v1), (0, v2), (0, v3), (0, 0)]) dX5_goAhead_22 (by decide) rfl ?_
  exact r_fgt [true, false, true, false, true] rfl h
abbrev P_X5_firstBuilt_10 (g : GT) (e : Nat) (Q : Int → Sg → Prop) (s : Sg) (v1 : Int) (v2 : Int) (v3 : Int) : Prop := Wp g (e + 1) M_X5_firstBuilt Q 10 [(14, 55), (19, v1), (0, v2), (0, v3)] [] s
set_option maxRecDepth 20000 in
theorem S_X5_firstBuilt_10 {g : GT} {e : Nat} {Q : Int → Sg → Prop} {s : Sg} {v1 : Int} {v2 : Int} {v3 : Int} (h : ((60 < v3 → Q (-1) s) ∧ (¬ 60 < v3 → ((999 < (w32 ((s v1 1) + v3)) → Q (-1) s) ∧ (¬ 999 < (w32 ((s v1 1) + v3)) → ((0 ≤ v2 ∧ v2 < 8) ∧ (((s 61 v2) = (-1) → (Mw g e M_X11_passYear [(19, 58), (0, 0)] s (fun _ s2 => P_X5_firstBuilt_10 g e Q s2 v1 v2 (w32 (v3 + 1))))) ∧ (¬ (s 61 v2) = (-1) → Q v3 s)))))))) : P_X5_firstBuilt_10 g e Q s v1 v2 v3 := by
  refine r_iload_n dX5_firstBuilt_10 rfl ?_
  refine r_bipush dX5_firstBuilt_11 (by decide) rfl ?_
  refine r_icmp_gt (tgt := 57) dX5_firstBuilt_13 (by decide) (fun hc => ?_) (fun hc => ?_)
  · have h := h.1 hc
    refine r_iconst dX5_firstBuilt_57 (by decide) ?_
    exact r_iret dX5_firstBuilt_58 rfl h
  · have h := h.2 hc
    refine r_aload_n dX5_firstBuilt_16 rfl rfl ?_
    refine gf_X5_48 rfl dX5_firstBuilt_17 ?_
    refine r_iload_n dX5_firstBuilt_20 rfl ?_
    refine r_iadd dX5_firstBuilt_21 ?_
    refine r_sipush dX5_firstBuilt_22 (by decide) rfl ?_
    refine r_icmp_gt (tgt := 57) dX5_firstBuilt_25 (by decide) (fun hc => ?_) (fun hc => ?_)
    · have h := h.1 hc
      refine r_iconst dX5_firstBuilt_57 (by decide) ?_
      exact r_iret dX5_firstBuilt_58 rfl h
    · have h := h.2 hc
      refine r_aload_n dX5_firstBuilt_28 rfl rfl ?_
      refine gf_X5_23 rfl dX5_firstBuilt_29 ?_
      refine gf_X5_51 rfl dX5_firstBuilt_32 ?_
      show Wp g (e + 1) M_X5_firstBuilt Q 35 [(14, 55), (19, v1), (0, v2), (0, v3)] [(33, 61)] s
      refine r_iload_n dX5_firstBuilt_35 rfl ?_
      obtain ⟨hb, h⟩ := h
      refine r_iald (n := 8) rfl (by decide) dX5_firstBuilt_36 hb ?_
      refine r_iconst dX5_firstBuilt_37 (by decide) ?_
      refine r_icmp_eq (tgt := 43) dX5_firstBuilt_38 (by decide) (fun hc => ?_) (fun hc => ?_)
      · have h := h.1 hc
        refine r_aload_n dX5_firstBuilt_43 rfl rfl ?_
        refine gf_X5_23 rfl dX5_firstBuilt_44 ?_
        refine r_iconst dX5_firstBuilt_47 (by decide) ?_
        refine r_callV (ci := 9) (As := [(0, 0)]) (st := []) (by decide) ok_X5_35 rfl rfl (Nat.le_of_ble_eq_true rfl) dX5_firstBuilt_48 h (fun r1 s2 hv h => ?_)
        refine r_iinc (ls2 := [(14, 55), (19, v1), (0, v2), (0, (w32 (v3 + 1)))]) dX5_firstBuilt_51 rfl (by decide) rfl ?_
        refine r_goto (tgt := 10) dX5_firstBuilt_54 (by decide) ?_
        exact h
      · have h := h.2 hc
        refine r_iload_n dX5_firstBuilt_41 rfl ?_
        exact r_iret dX5_firstBuilt_42 rfl h
set_option maxRecDepth 20000 in
theorem S_X5_firstBuilt {g : GT} {e : Nat} {Q : Int → Sg → Prop} {s : Sg} {v1 : Int} {v2 : Int} (h : (gr g v1 ∧ tg v1 = 19) → inR v2 → (Mw g e M_X11_copy [(19, 58), (19, v1)] s (fun _ s2 => P_X5_firstBuilt_10 g e Q s2 v1 v2 0))) : Mw g (e + 1) M_X5_firstBuilt [(14, 55), (19, v1), (0, v2)] s Q := by
  refine Mw.of (ls := [(14, 55), (19, v1), (0, v2), (9, 0)]) pn_X5_firstBuilt (Nat.le_of_ble_eq_true rfl) rfl (fun hv => ?_)
  have h := h (vld_o (by decide) (hv _ (List.Mem.tail _ (List.Mem.head _)))) (hv _ (List.Mem.tail _ (List.Mem.tail _ (List.Mem.head _))))
  refine r_aload_n dX5_firstBuilt_0 rfl rfl ?_
  refine gf_X5_23 rfl dX5_firstBuilt_1 ?_
  refine r_aload_n dX5_firstBuilt_4 rfl rfl ?_
  refine r_callV (ci := 9) (As := [(19, v1)]) (st := []) (by decide) ok_X5_27 rfl rfl (Nat.le_of_ble_eq_true rfl) dX5_firstBuilt_5 h (fun r1 s2 hv h => ?_)
  refine r_iconst dX5_firstBuilt_8 (by decide) ?_
  refine r_istore_n (ls2 := [(14, 55), (19, v1), (0, v2), (0, 0)]) dX5_firstBuilt_9 (by decide) rfl ?_
  exact h
set_option maxRecDepth 20000 in
theorem S_X5_comingDown {g : GT} {e : Nat} {Q : Int → Sg → Prop} {s : Sg} {v1 : Int} {v2 : Int} (h : (gr g v1 ∧ tg v1 = 19) → inR v2 → (Mw g e M_X11_copy [(19, 58), (19, v1)] s (fun _ s2 => (Mw g e M_X11_pullOut [(19, 58), (0, v2)] s2 (fun _ s4 => (Mw g e M_X11_bitsAt [(19, v1), (0, 3)] s4 (fun r5 s6 => (Mw g e M_X11_bitsAt [(19, 58), (0, 3)] s6 (fun r7 s8 => Q (bAnd r5 (bXor r7 (-1))) s8))))))))) : Mw g (e + 1) M_X5_comingDown [(14, 55), (19, v1), (0, v2)] s Q := by
  refine Mw.of (ls := [(14, 55), (19, v1), (0, v2)]) pn_X5_comingDown (Nat.le_of_ble_eq_true rfl) rfl (fun hv => ?_)
  have h := h (vld_o (by decide) (hv _ (List.Mem.tail _ (List.Mem.head _)))) (hv _ (List.Mem.tail _ (List.Mem.tail _ (List.Mem.head _))))
  refine r_aload_n dX5_comingDown_0 rfl rfl ?_
  refine gf_X5_23 rfl dX5_comingDown_1 ?_
  refine r_aload_n dX5_comingDown_4 rfl rfl ?_
  refine r_callV (ci := 9) (As := [(19, v1)]) (st := []) (by decide) ok_X5_27 rfl rfl (Nat.le_of_ble_eq_true rfl) dX5_comingDown_5 h (fun r1 s2 hv h => ?_)
  refine r_aload_n dX5_comingDown_8 rfl rfl ?_
  refine gf_X5_23 rfl dX5_comingDown_9 ?_
  refine r_iload_n dX5_comingDown_12 rfl ?_
  refine r_callV (ci := 9) (As := [(0, v2)]) (st := []) (by decide) ok_X5_54 rfl rfl (Nat.le_of_ble_eq_true rfl) dX5_comingDown_13 h (fun r3 s4 hv h => ?_)
  refine r_aload_n dX5_comingDown_16 rfl rfl ?_
  refine r_iconst dX5_comingDown_17 (by decide) ?_
  refine r_callV (ci := 9) (As := [(0, 3)]) (st := []) (by decide) ok_X5_39 rfl rfl (Nat.le_of_ble_eq_true rfl) dX5_comingDown_18 h (fun r5 s6 hv h => ?_)
  refine r_aload_n dX5_comingDown_21 rfl rfl ?_
  refine gf_X5_23 rfl dX5_comingDown_22 ?_
  refine r_iconst dX5_comingDown_25 (by decide) ?_
  refine r_callV (ci := 9) (As := [(0, 3)]) (st := [(0, r5)]) (by decide) ok_X5_39 rfl rfl (Nat.le_of_ble_eq_true rfl) dX5_comingDown_26 h (fun r7 s8 hv h => ?_)
  refine r_iconst dX5_comingDown_29 (by decide) ?_
  refine r_ixor dX5_comingDown_30 ?_
  refine r_iand dX5_comingDown_31 ?_
  exact r_iret dX5_comingDown_32 rfl h
abbrev P_X5_holdsPropped_2 (g : GT) (e : Nat) (Q : Int → Sg → Prop) (s : Sg) (v0 : Int) (v1 : Int) (v2 : Int) (v3 : Int) : Prop := Wp g (e + 1) M_X5_holdsPropped Q 2 [(19, v0), (0, v1), (0, v2), (0, v3), (9, 0), (9, 0), (9, 0)] [] s
abbrev P_X5_holdsPropped_32 (g : GT) (e : Nat) (Q : Int → Sg → Prop) (s : Sg) (v0 : Int) (v1 : Int) (v2 : Int) (v3 : Int) (v4 : Int) (v5 : Int) : Prop := Wp g (e + 1) M_X5_holdsPropped Q 32 [(19, v0), (0, v1), (0, v2), (0, v3), (0, v4), (0, v5), (9, 0)] [] s
set_option maxRecDepth 20000 in
theorem S_X5_holdsPropped_2 {g : GT} {e : Nat} {Q : Int → Sg → Prop} {s : Sg} {v0 : Int} {v1 : Int} {v2 : Int} {v3 : Int} (h : ((0 ≤ v1 ∧ v1 < 4) ∧ (((s ((s v0 0) + 11) v1) ≤ v3 → Q 1 s) ∧ (¬ (s ((s v0 0) + 11) v1) ≤ v3 → ((0 ≤ (w32 ((w32 (v1 * 4)) + v3)) ∧ (w32 ((w32 (v1 * 4)) + v3)) < 16) ∧ P_X5_holdsPropped_32 g e Q s v0 v1 v2 v3 0 (w32 ((s (v0 + 5) (w32 ((w32 (v1 * 4)) + v3))) - 1))))))) : P_X5_holdsPropped_2 g e Q s v0 v1 v2 v3 := by
  refine r_iload_n dX5_holdsPropped_2 rfl ?_
  refine r_aload_n dX5_holdsPropped_3 rfl rfl ?_
  refine gf_X5_58 rfl dX5_holdsPropped_4 ?_
  refine gf_X5_75 rfl dX5_holdsPropped_7 ?_
  refine r_iload_n dX5_holdsPropped_10 rfl ?_
  obtain ⟨hb, h⟩ := h
  refine r_iald (n := 4) rfl (by decide) dX5_holdsPropped_11 hb ?_
  refine r_icmp_ge (tgt := 115) dX5_holdsPropped_12 (by decide) (fun hc => ?_) (fun hc => ?_)
  · have h := h.1 hc
    refine r_iconst dX5_holdsPropped_115 (by decide) ?_
    exact r_zret dX5_holdsPropped_116 rfl (by decide) h
  · have h := h.2 hc
    refine r_iconst dX5_holdsPropped_15 (by decide) ?_
    refine r_istore (ls2 := [(19, v0), (0, v1), (0, v2), (0, v3), (0, 0), (9, 0), (9, 0)]) dX5_holdsPropped_16 (by decide) rfl ?_
    refine r_aload_n dX5_holdsPropped_18 rfl rfl ?_
    refine gf_X5_78 rfl dX5_holdsPropped_19 ?_
    refine r_iload_n dX5_holdsPropped_22 rfl ?_
    refine r_iconst dX5_holdsPropped_23 (by decide) ?_
    refine r_imul dX5_holdsPropped_24 ?_
    refine r_iload_n dX5_holdsPropped_25 rfl ?_
    refine r_iadd dX5_holdsPropped_26 ?_
    obtain ⟨hb, h⟩ := h
    refine r_iald (n := 16) rfl (by decide) dX5_holdsPropped_27 hb ?_
    refine r_iconst dX5_holdsPropped_28 (by decide) ?_
    refine r_isub dX5_holdsPropped_29 ?_
    refine r_istore (ls2 := [(19, v0), (0, v1), (0, v2), (0, v3), (0, 0), (0, (w32 ((s (v0 + 5) (w32 ((w32 (v1 * 4)) + v3))) - 1))), (9, 0)]) dX5_holdsPropped_30 (by decide) rfl ?_
    exact h
set_option maxRecDepth 20000 in
theorem S_X5_holdsPropped_32 {g : GT} {e : Nat} {Q : Int → Sg → Prop} {s : Sg} {v0 : Int} {v1 : Int} {v2 : Int} {v3 : Int} {v4 : Int} {v5 : Int} (h : ((v5 < 0 → P_X5_holdsPropped_2 g e Q s v0 v1 v2 (w32 (v3 + 1))) ∧ (¬ v5 < 0 → (Mw g e M_X11_spot [(0, v1), (0, v3), (0, v5)] s (fun r1 s2 => ((0 ≤ r1 ∧ r1 < 64) ∧ (((s2 (v0 + 4) r1) = (-1) → P_X5_holdsPropped_32 g e Q s2 v0 v1 v2 v3 0 (w32 (v5 + (-1)))) ∧ (¬ (s2 (v0 + 4) r1) = (-1) → (((bAnd v2 (bShl 1 (s2 (v0 + 4) r1))) = 0 → (Mw g e M_X11_bears [(19, v0), (0, (s2 (v0 + 4) r1)), (0, (s2 (s2 v0 0) 18))] s2 (fun r3 s4 => (((w32 (v4 * (s4 (s4 v0 0) 16))) ≤ r3 → P_X5_holdsPropped_32 g e Q s4 v0 v1 v2 v3 (w32 (v4 + 1)) (w32 (v5 + (-1)))) ∧ (¬ (w32 (v4 * (s4 (s4 v0 0) 16))) ≤ r3 → Q 0 s4))))) ∧ (¬ (bAnd v2 (bShl 1 (s2 (v0 + 4) r1))) = 0 → P_X5_holdsPropped_32 g e Q s2 v0 v1 v2 v3 0 (w32 (v5 + (-1))))))))))))) : P_X5_holdsPropped_32 g e Q s v0 v1 v2 v3 v4 v5 := by
  refine r_iload dX5_holdsPropped_32 rfl ?_
  refine r_if_lt (tgt := 109) dX5_holdsPropped_34 (by decide) (fun hc => ?_) (fun hc => ?_)
  · have h := h.1 hc
    refine r_iinc (ls2 := [(19, v0), (0, v1), (0, v2), (0, (w32 (v3 + 1))), (0, v4), (0, v5), (9, 0)]) dX5_holdsPropped_109 rfl (by decide) rfl ?_
    refine r_goto (tgt := 2) dX5_holdsPropped_112 (by decide) ?_
    exact r_fgt [true, true, true, true, false, false, false] rfl h
  · have h := h.2 hc
    refine r_aload_n dX5_holdsPropped_37 rfl rfl ?_
    refine gf_X5_81 rfl dX5_holdsPropped_38 ?_
    refine r_iload_n dX5_holdsPropped_41 rfl ?_
    refine r_iload_n dX5_holdsPropped_42 rfl ?_
    refine r_iload dX5_holdsPropped_43 rfl ?_
    refine r_callS (As := [(0, v1), (0, v3), (0, v5)]) (st := [(39, (v0 + 4))]) ok_X5_84 rfl rfl (Nat.le_of_ble_eq_true rfl) dX5_holdsPropped_45 h (fun r1 s2 hv h => ?_)
    obtain ⟨hb, h⟩ := h
    refine r_iald (n := 64) rfl (by decide) dX5_holdsPropped_48 hb ?_
    refine r_istore (ls2 := [(19, v0), (0, v1), (0, v2), (0, v3), (0, v4), (0, v5), (0, (s2 (v0 + 4) r1))]) dX5_holdsPropped_49 (by decide) rfl ?_
    refine r_iload dX5_holdsPropped_51 rfl ?_
    refine r_iconst dX5_holdsPropped_53 (by decide) ?_
    refine r_icmp_eq (tgt := 66) dX5_holdsPropped_54 (by decide) (fun hc => ?_) (fun hc => ?_)
    · have h := h.1 hc
      refine r_iconst dX5_holdsPropped_66 (by decide) ?_
      refine r_istore (ls2 := [(19, v0), (0, v1), (0, v2), (0, v3), (0, 0), (0, v5), (0, (s2 (v0 + 4) r1))]) dX5_holdsPropped_67 (by decide) rfl ?_
      refine r_goto (tgt := 103) dX5_holdsPropped_69 (by decide) ?_
      refine r_iinc (ls2 := [(19, v0), (0, v1), (0, v2), (0, v3), (0, 0), (0, (w32 (v5 + (-1)))), (0, (s2 (v0 + 4) r1))]) dX5_holdsPropped_103 rfl (by decide) rfl ?_
      refine r_goto (tgt := 32) dX5_holdsPropped_106 (by decide) ?_
      exact r_fgt [true, true, true, true, true, true, false] rfl h
    · have h := h.2 hc
      refine r_iload_n dX5_holdsPropped_57 rfl ?_
      refine r_iconst dX5_holdsPropped_58 (by decide) ?_
      refine r_iload dX5_holdsPropped_59 rfl ?_
      refine r_ishl dX5_holdsPropped_61 ?_
      refine r_iand dX5_holdsPropped_62 ?_
      refine r_if_eq (tgt := 72) dX5_holdsPropped_63 (by decide) (fun hc => ?_) (fun hc => ?_)
      · have h := h.1 hc
        refine r_aload_n dX5_holdsPropped_72 rfl rfl ?_
        refine r_iload dX5_holdsPropped_73 rfl ?_
        refine r_aload_n dX5_holdsPropped_75 rfl rfl ?_
        refine gf_X5_58 rfl dX5_holdsPropped_76 ?_
        refine gf_X5_88 rfl dX5_holdsPropped_79 ?_
        refine r_callV (ci := 9) (As := [(0, (s2 (v0 + 4) r1)), (0, (s2 (s2 v0 0) 18))]) (st := []) (by decide) ok_X5_91 rfl rfl (Nat.le_of_ble_eq_true rfl) dX5_holdsPropped_82 h (fun r3 s4 hv h => ?_)
        refine r_iload dX5_holdsPropped_85 rfl ?_
        refine r_aload_n dX5_holdsPropped_87 rfl rfl ?_
        refine gf_X5_58 rfl dX5_holdsPropped_88 ?_
        refine gf_X5_95 rfl dX5_holdsPropped_91 ?_
        refine r_imul dX5_holdsPropped_94 ?_
        refine r_icmp_ge (tgt := 100) dX5_holdsPropped_95 (by decide) (fun hc => ?_) (fun hc => ?_)
        · have h := h.1 hc
          refine r_iinc (ls2 := [(19, v0), (0, v1), (0, v2), (0, v3), (0, (w32 (v4 + 1))), (0, v5), (0, (s2 (v0 + 4) r1))]) dX5_holdsPropped_100 rfl (by decide) rfl ?_
          refine r_iinc (ls2 := [(19, v0), (0, v1), (0, v2), (0, v3), (0, (w32 (v4 + 1))), (0, (w32 (v5 + (-1)))), (0, (s2 (v0 + 4) r1))]) dX5_holdsPropped_103 rfl (by decide) rfl ?_
          refine r_goto (tgt := 32) dX5_holdsPropped_106 (by decide) ?_
          exact r_fgt [true, true, true, true, true, true, false] rfl h
        · have h := h.2 hc
          refine r_iconst dX5_holdsPropped_98 (by decide) ?_
          exact r_zret dX5_holdsPropped_99 rfl (by decide) h
      · have h := h.2 hc
        refine r_iconst dX5_holdsPropped_66 (by decide) ?_
        refine r_istore (ls2 := [(19, v0), (0, v1), (0, v2), (0, v3), (0, 0), (0, v5), (0, (s2 (v0 + 4) r1))]) dX5_holdsPropped_67 (by decide) rfl ?_
        refine r_goto (tgt := 103) dX5_holdsPropped_69 (by decide) ?_
        refine r_iinc (ls2 := [(19, v0), (0, v1), (0, v2), (0, v3), (0, 0), (0, (w32 (v5 + (-1)))), (0, (s2 (v0 + 4) r1))]) dX5_holdsPropped_103 rfl (by decide) rfl ?_
        refine r_goto (tgt := 32) dX5_holdsPropped_106 (by decide) ?_
        exact r_fgt [true, true, true, true, true, true, false] rfl h
set_option maxRecDepth 20000 in
theorem S_X5_holdsPropped {g : GT} {e : Nat} {Q : Int → Sg → Prop} {s : Sg} {v0 : Int} {v1 : Int} {v2 : Int} (h : (gr g v0 ∧ tg v0 = 19) → inR v1 → inR v2 → P_X5_holdsPropped_2 g e Q s v0 v1 v2 0) : Mw g (e + 1) M_X5_holdsPropped [(19, v0), (0, v1), (0, v2)] s Q := by
  refine Mw.of (ls := [(19, v0), (0, v1), (0, v2), (9, 0), (9, 0), (9, 0), (9, 0)]) pn_X5_holdsPropped (Nat.le_of_ble_eq_true rfl) rfl (fun hv => ?_)
  have h := h (vld_o (by decide) (hv _ (List.Mem.head _))) (hv _ (List.Mem.tail _ (List.Mem.head _))) (hv _ (List.Mem.tail _ (List.Mem.tail _ (List.Mem.head _))))
  refine r_iconst dX5_holdsPropped_0 (by decide) ?_
  refine r_istore_n (ls2 := [(19, v0), (0, v1), (0, v2), (0, 0), (9, 0), (9, 0), (9, 0)]) dX5_holdsPropped_1 (by decide) rfl ?_
  exact h
abbrev P_X5_fewestProps_5 (g : GT) (e : Nat) (Q : Int → Sg → Prop) (s : Sg) (v1 : Int) (v2 : Int) (v3 : Int) (v4 : Int) : Prop := Wp g (e + 1) M_X5_fewestProps Q 5 [(9, 0), (19, v1), (0, v2), (0, v3), (0, v4), (9, 0), (9, 0)] [] s
abbrev P_X5_fewestProps_46 (g : GT) (e : Nat) (Q : Int → Sg → Prop) (s : Sg) (v1 : Int) (v2 : Int) (v3 : Int) (v4 : Int) : Prop := Wp g (e + 1) M_X5_fewestProps Q 46 [(9, 0), (19, v1), (0, v2), (0, v3), (0, v4), (9, 0), (9, 0)] [] s
abbrev P_X5_fewestProps_47 (g : GT) (e : Nat) (Q : Int → Sg → Prop) (s : Sg) (v1 : Int) (v2 : Int) (v3 : Int) (v4 : Int) (x0 : Int) : Prop := Wp g (e + 1) M_X5_fewestProps Q 47 [(9, 0), (19, v1), (0, v2), (0, v3), (0, v4), (9, 0), (9, 0)] [(0, x0)] s
abbrev P_X5_fewestProps_77 (g : GT) (e : Nat) (Q : Int → Sg → Prop) (s : Sg) (v1 : Int) (v2 : Int) (v3 : Int) (v4 : Int) (v5 : Int) : Prop := Wp g (e + 1) M_X5_fewestProps Q 77 [(9, 0), (19, v1), (0, v2), (0, v3), (0, v4), (0, v5), (9, 0)] [] s
abbrev P_X5_fewestProps_103 (g : GT) (e : Nat) (Q : Int → Sg → Prop) (s : Sg) (v1 : Int) (v2 : Int) (v3 : Int) (v4 : Int) (v5 : Int) (x0 : Int) : Prop := Wp g (e + 1) M_X5_fewestProps Q 103 [(9, 0), (19, v1), (0, v2), (0, v3), (0, v4), (0, v5), (9, 0)] [(0, x0)] s
set_option maxRecDepth 20000 in
theorem S_X5_fewestProps_5 {g : GT} {e : Nat} {Q : Int → Sg → Prop} {s : Sg} {v1 : Int} {v2 : Int} {v3 : Int} {v4 : Int} (h : (Mw g e M_X9_childCount [(18, (s v1 0))] s (fun r1 s2 => ((r1 ≤ v4 → P_X5_fewestProps_77 g e Q s2 v1 v2 v3 v3 0) ∧ (¬ r1 ≤ v4 → ((0 ≤ v4 ∧ v4 < 8) ∧ (((s2 (v1 + 3) v4) = (-1) → P_X5_fewestProps_46 g e Q s2 v1 v2 v3 v4) ∧ (¬ (s2 (v1 + 3) v4) = (-1) → ((0 ≤ v4 ∧ v4 < 8) ∧ (Mw g e M_X11_wallAt [(0, (s2 (v1 + 3) v4))] s2 (fun r3 s4 => ((¬ r3 = v2 → P_X5_fewestProps_46 g e Q s4 v1 v2 v3 v4) ∧ (r3 = v2 → P_X5_fewestProps_47 g e Q s4 v1 v2 v3 v4 1))))))))))))) : P_X5_fewestProps_5 g e Q s v1 v2 v3 v4 := by
  refine r_iload dX5_fewestProps_5 rfl ?_
  refine r_aload_n dX5_fewestProps_7 rfl rfl ?_
  refine gf_X5_58 rfl dX5_fewestProps_8 ?_
  refine r_callV (ci := 8) (As := []) (st := [(0, v4)]) (by decide) ok_X5_62 rfl rfl (Nat.le_of_ble_eq_true rfl) dX5_fewestProps_11 h (fun r1 s2 hv h => ?_)
  refine r_icmp_ge (tgt := 71) dX5_fewestProps_14 (by decide) (fun hc => ?_) (fun hc => ?_)
  · have h := h.1 hc
    refine r_iload_n dX5_fewestProps_71 rfl ?_
    refine r_istore (ls2 := [(9, 0), (19, v1), (0, v2), (0, v3), (0, v3), (9, 0), (9, 0)]) dX5_fewestProps_72 (by decide) rfl ?_
    refine r_iconst dX5_fewestProps_74 (by decide) ?_
    refine r_istore (ls2 := [(9, 0), (19, v1), (0, v2), (0, v3), (0, v3), (0, 0), (9, 0)]) dX5_fewestProps_75 (by decide) rfl ?_
    exact h
  · have h := h.2 hc
    refine r_aload_n dX5_fewestProps_17 rfl rfl ?_
    refine gf_X5_51 rfl dX5_fewestProps_18 ?_
    refine r_iload dX5_fewestProps_21 rfl ?_
    obtain ⟨hb, h⟩ := h
    refine r_iald (n := 8) rfl (by decide) dX5_fewestProps_23 hb ?_
    refine r_iconst dX5_fewestProps_24 (by decide) ?_
    refine r_icmp_eq (tgt := 46) dX5_fewestProps_25 (by decide) (fun hc => ?_) (fun hc => ?_)
    · have h := h.1 hc
      exact h
    · have h := h.2 hc
      refine r_aload_n dX5_fewestProps_28 rfl rfl ?_
      refine gf_X5_51 rfl dX5_fewestProps_29 ?_
      refine r_iload dX5_fewestProps_32 rfl ?_
      obtain ⟨hb, h⟩ := h
      refine r_iald (n := 8) rfl (by decide) dX5_fewestProps_34 hb ?_
      refine r_callS (As := [(0, (s2 (v1 + 3) v4))]) (st := []) ok_X5_68 rfl rfl (Nat.le_of_ble_eq_true rfl) dX5_fewestProps_35 h (fun r3 s4 hv h => ?_)
      refine r_iload_n dX5_fewestProps_38 rfl ?_
      refine r_icmp_ne (tgt := 46) dX5_fewestProps_39 (by decide) (fun hc => ?_) (fun hc => ?_)
      · have h := h.1 hc
        exact h
      · have h := h.2 hc
        refine r_iconst dX5_fewestProps_42 (by decide) ?_
        refine r_goto (tgt := 47) dX5_fewestProps_43 (by decide) ?_
        exact h
set_option maxRecDepth 20000 in
theorem S_X5_fewestProps_46 {g : GT} {e : Nat} {Q : Int → Sg → Prop} {s : Sg} {v1 : Int} {v2 : Int} {v3 : Int} {v4 : Int} (h : P_X5_fewestProps_47 g e Q s v1 v2 v3 v4 0) : P_X5_fewestProps_46 g e Q s v1 v2 v3 v4 := by
  refine r_iconst dX5_fewestProps_46 (by decide) ?_
  exact h
set_option maxRecDepth 20000 in
theorem S_X5_fewestProps_47 {g : GT} {e : Nat} {Q : Int → Sg → Prop} {s : Sg} {v1 : Int} {v2 : Int} {v3 : Int} {v4 : Int} {x0 : Int} (h : ((x0 = 0 → P_X5_fewestProps_5 g e Q s v1 v2 (bOr v3 0) (w32 (v4 + 1))) ∧ (¬ x0 = 0 → P_X5_fewestProps_5 g e Q s v1 v2 (bOr v3 (bShl 1 v4)) (w32 (v4 + 1))))) : P_X5_fewestProps_47 g e Q s v1 v2 v3 v4 x0 := by
  refine r_istore (ls2 := [(9, 0), (19, v1), (0, v2), (0, v3), (0, v4), (0, x0), (9, 0)]) dX5_fewestProps_47 (by decide) rfl ?_
  refine r_iload_n dX5_fewestProps_49 rfl ?_
  refine r_iload dX5_fewestProps_50 rfl ?_
  refine r_if_eq (tgt := 62) dX5_fewestProps_52 (by decide) (fun hc => ?_) (fun hc => ?_)
  · have h := h.1 hc
    refine r_iconst dX5_fewestProps_62 (by decide) ?_
    refine r_ior dX5_fewestProps_63 ?_
    refine r_istore_n (ls2 := [(9, 0), (19, v1), (0, v2), (0, (bOr v3 0)), (0, v4), (0, x0), (9, 0)]) dX5_fewestProps_64 (by decide) rfl ?_
    refine r_iinc (ls2 := [(9, 0), (19, v1), (0, v2), (0, (bOr v3 0)), (0, (w32 (v4 + 1))), (0, x0), (9, 0)]) dX5_fewestProps_65 rfl (by decide) rfl ?_
    refine r_goto (tgt := 5) dX5_fewestProps_68 (by decide) ?_
    exact r_fgt [false, true, true, true, true, false, false] rfl h
  · have h := h.2 hc
    refine r_iconst dX5_fewestProps_55 (by decide) ?_
    refine r_iload dX5_fewestProps_56 rfl ?_
    refine r_ishl dX5_fewestProps_58 ?_
    refine r_goto (tgt := 63) dX5_fewestProps_59 (by decide) ?_
    refine r_ior dX5_fewestProps_63 ?_
    refine r_istore_n (ls2 := [(9, 0), (19, v1), (0, v2), (0, (bOr v3 (bShl 1 v4))), (0, v4), (0, x0), (9, 0)]) dX5_fewestProps_64 (by decide) rfl ?_
    refine r_iinc (ls2 := [(9, 0), (19, v1), (0, v2), (0, (bOr v3 (bShl 1 v4))), (0, (w32 (v4 + 1))), (0, x0), (9, 0)]) dX5_fewestProps_65 rfl (by decide) rfl ?_
    refine r_goto (tgt := 5) dX5_fewestProps_68 (by decide) ?_
    exact r_fgt [false, true, true, true, true, false, false] rfl h
set_option maxRecDepth 20000 in
theorem S_X5_fewestProps_77 {g : GT} {e : Nat} {Q : Int → Sg → Prop} {s : Sg} {v1 : Int} {v2 : Int} {v3 : Int} {v4 : Int} {v5 : Int} (h : ((256 ≤ v5 → Q v4 s) ∧ (¬ 256 ≤ v5 → (Mw g e M_J6_bitCount_0f7a4 [(0, v5)] s (fun r1 s2 => (Mw g e M_J6_bitCount_0f7a4 [(0, v4)] s2 (fun r3 s4 => ((r3 ≤ r1 → P_X5_fewestProps_103 g e Q s4 v1 v2 v3 v4 v5 0) ∧ (¬ r3 ≤ r1 → P_X5_fewestProps_103 g e Q s4 v1 v2 v3 v4 v5 1))))))))) : P_X5_fewestProps_77 g e Q s v1 v2 v3 v4 v5 := by
  refine r_iload dX5_fewestProps_77 rfl ?_
  refine r_sipush dX5_fewestProps_79 (by decide) rfl ?_
  refine r_icmp_ge (tgt := 139) dX5_fewestProps_82 (by decide) (fun hc => ?_) (fun hc => ?_)
  · have h := h.1 hc
    refine r_iload dX5_fewestProps_139 rfl ?_
    exact r_iret dX5_fewestProps_141 rfl h
  · have h := h.2 hc
    refine r_iload dX5_fewestProps_85 rfl ?_
    refine r_callS (As := [(0, v5)]) (st := []) ok_X5_43 rfl rfl (Nat.le_of_ble_eq_true rfl) dX5_fewestProps_87 h (fun r1 s2 hv h => ?_)
    refine r_iload dX5_fewestProps_90 rfl ?_
    refine r_callS (As := [(0, v4)]) (st := [(0, r1)]) ok_X5_43 rfl rfl (Nat.le_of_ble_eq_true rfl) dX5_fewestProps_92 h (fun r3 s4 hv h => ?_)
    refine r_icmp_ge (tgt := 102) dX5_fewestProps_95 (by decide) (fun hc => ?_) (fun hc => ?_)
    · have h := h.1 hc
      refine r_iconst dX5_fewestProps_102 (by decide) ?_
      exact h
    · have h := h.2 hc
      refine r_iconst dX5_fewestProps_98 (by decide) ?_
      refine r_goto (tgt := 103) dX5_fewestProps_99 (by decide) ?_
      exact h
set_option maxRecDepth 20000 in
theorem S_X5_fewestProps_103 {g : GT} {e : Nat} {Q : Int → Sg → Prop} {s : Sg} {v1 : Int} {v2 : Int} {v3 : Int} {v4 : Int} {v5 : Int} {x0 : Int} (h : ((¬ (bAnd v5 (bXor v3 (-1))) = 0 → P_X5_fewestProps_77 g e Q s v1 v2 v3 v4 (w32 (v5 + 1))) ∧ ((bAnd v5 (bXor v3 (-1))) = 0 → ((x0 = 0 → P_X5_fewestProps_77 g e Q s v1 v2 v3 v4 (w32 (v5 + 1))) ∧ (¬ x0 = 0 → (Mw g e M_X5_holdsPropped [(19, v1), (0, v2), (0, v5)] s (fun r1 s2 => ((r1 = 0 → P_X5_fewestProps_77 g e Q s2 v1 v2 v3 v4 (w32 (v5 + 1))) ∧ (¬ r1 = 0 → P_X5_fewestProps_77 g e Q s2 v1 v2 v3 v5 (w32 (v5 + 1))))))))))) : P_X5_fewestProps_103 g e Q s v1 v2 v3 v4 v5 x0 := by
  refine r_istore (ls2 := [(9, 0), (19, v1), (0, v2), (0, v3), (0, v4), (0, v5), (0, x0)]) dX5_fewestProps_103 (by decide) rfl ?_
  refine r_iload dX5_fewestProps_105 rfl ?_
  refine r_iload_n dX5_fewestProps_107 rfl ?_
  refine r_iconst dX5_fewestProps_108 (by decide) ?_
  refine r_ixor dX5_fewestProps_109 ?_
  refine r_iand dX5_fewestProps_110 ?_
  refine r_if_ne (tgt := 133) dX5_fewestProps_111 (by decide) (fun hc => ?_) (fun hc => ?_)
  · have h := h.1 hc
    refine r_iinc (ls2 := [(9, 0), (19, v1), (0, v2), (0, v3), (0, v4), (0, (w32 (v5 + 1))), (0, x0)]) dX5_fewestProps_133 rfl (by decide) rfl ?_
    refine r_goto (tgt := 77) dX5_fewestProps_136 (by decide) ?_
    exact r_fgt [false, true, true, true, true, true, false] rfl h
  · have h := h.2 hc
    refine r_iload dX5_fewestProps_114 rfl ?_
    refine r_if_eq (tgt := 133) dX5_fewestProps_116 (by decide) (fun hc => ?_) (fun hc => ?_)
    · have h := h.1 hc
      refine r_iinc (ls2 := [(9, 0), (19, v1), (0, v2), (0, v3), (0, v4), (0, (w32 (v5 + 1))), (0, x0)]) dX5_fewestProps_133 rfl (by decide) rfl ?_
      refine r_goto (tgt := 77) dX5_fewestProps_136 (by decide) ?_
      exact r_fgt [false, true, true, true, true, true, false] rfl h
    · have h := h.2 hc
      refine r_aload_n dX5_fewestProps_119 rfl rfl ?_
      refine r_iload_n dX5_fewestProps_120 rfl ?_
      refine r_iload dX5_fewestProps_121 rfl ?_
      refine r_callS (As := [(19, v1), (0, v2), (0, v5)]) (st := []) ok_X5_71 rfl rfl (Nat.le_of_ble_eq_true rfl) dX5_fewestProps_123 h (fun r1 s2 hv h => ?_)
      refine r_if_eq (tgt := 133) dX5_fewestProps_126 (by decide) (fun hc => ?_) (fun hc => ?_)
      · have h := h.1 hc
        refine r_iinc (ls2 := [(9, 0), (19, v1), (0, v2), (0, v3), (0, v4), (0, (w32 (v5 + 1))), (0, x0)]) dX5_fewestProps_133 rfl (by decide) rfl ?_
        refine r_goto (tgt := 77) dX5_fewestProps_136 (by decide) ?_
        exact r_fgt [false, true, true, true, true, true, false] rfl h
      · have h := h.2 hc
        refine r_iload dX5_fewestProps_129 rfl ?_
        refine r_istore (ls2 := [(9, 0), (19, v1), (0, v2), (0, v3), (0, v5), (0, v5), (0, x0)]) dX5_fewestProps_131 (by decide) rfl ?_
        refine r_iinc (ls2 := [(9, 0), (19, v1), (0, v2), (0, v3), (0, v5), (0, (w32 (v5 + 1))), (0, x0)]) dX5_fewestProps_133 rfl (by decide) rfl ?_
        refine r_goto (tgt := 77) dX5_fewestProps_136 (by decide) ?_
        exact r_fgt [false, true, true, true, true, true, false] rfl h
set_option maxRecDepth 20000 in
theorem S_X5_fewestProps {g : GT} {e : Nat} {Q : Int → Sg → Prop} {s : Sg} {v1 : Int} {v2 : Int} (h : (gr g v1 ∧ tg v1 = 19) → inR v2 → P_X5_fewestProps_5 g e Q s v1 v2 0 0) : Mw g (e + 1) M_X5_fewestProps [(14, 55), (19, v1), (0, v2)] s Q := by
  refine Mw.of (ls := [(14, 55), (19, v1), (0, v2), (9, 0), (9, 0), (9, 0), (9, 0)]) pn_X5_fewestProps (Nat.le_of_ble_eq_true rfl) rfl (fun hv => ?_)
  have h := h (vld_o (by decide) (hv _ (List.Mem.tail _ (List.Mem.head _)))) (hv _ (List.Mem.tail _ (List.Mem.tail _ (List.Mem.head _))))
  refine r_iconst dX5_fewestProps_0 (by decide) ?_
  refine r_istore_n (ls2 := [(14, 55), (19, v1), (0, v2), (0, 0), (9, 0), (9, 0), (9, 0)]) dX5_fewestProps_1 (by decide) rfl ?_
  refine r_iconst dX5_fewestProps_2 (by decide) ?_
  refine r_istore (ls2 := [(14, 55), (19, v1), (0, v2), (0, 0), (0, 0), (9, 0), (9, 0)]) dX5_fewestProps_3 (by decide) rfl ?_
  exact r_fgt [false, true, true, true, true, false, false] rfl h
abbrev P_X5_strongestHome_8 (g : GT) (e : Nat) (Q : Int → Sg → Prop) (s : Sg) (v1 : Int) (v2 : Int) (v3 : Int) (v4 : Int) (v5 : Int) : Prop := Wp g (e + 1) M_X5_strongestHome Q 8 [(9, 0), (19, v1), (0, v2), (0, v3), (0, v4), (0, v5), (9, 0)] [] s
set_option maxRecDepth 20000 in
theorem S_X5_strongestHome_8 {g : GT} {e : Nat} {Q : Int → Sg → Prop} {s : Sg} {v1 : Int} {v2 : Int} {v3 : Int} {v4 : Int} {v5 : Int} (h : (Mw g e M_X9_homeCount [(18, (s v1 0))] s (fun r1 s2 => ((r1 ≤ v5 → Q v3 s2) ∧ (¬ r1 ≤ v5 → (Mw g e M_X11_strongWhenDone [(19, v1), (0, v2), (0, v5)] s2 (fun r3 s4 => ((r3 ≤ v4 → P_X5_strongestHome_8 g e Q s4 v1 v2 v3 v4 (w32 (v5 + 1))) ∧ (¬ r3 ≤ v4 → P_X5_strongestHome_8 g e Q s4 v1 v2 v5 r3 (w32 (v5 + 1))))))))))) : P_X5_strongestHome_8 g e Q s v1 v2 v3 v4 v5 := by
  refine r_iload dX5_strongestHome_8 rfl ?_
  refine r_aload_n dX5_strongestHome_10 rfl rfl ?_
  refine gf_X5_58 rfl dX5_strongestHome_11 ?_
  refine r_callV (ci := 8) (As := []) (st := [(0, v5)]) (by decide) ok_X5_98 rfl rfl (Nat.le_of_ble_eq_true rfl) dX5_strongestHome_14 h (fun r1 s2 hv h => ?_)
  refine r_icmp_ge (tgt := 49) dX5_strongestHome_17 (by decide) (fun hc => ?_) (fun hc => ?_)
  · have h := h.1 hc
    refine r_iload_n dX5_strongestHome_49 rfl ?_
    exact r_iret dX5_strongestHome_50 rfl h
  · have h := h.2 hc
    refine r_aload_n dX5_strongestHome_20 rfl rfl ?_
    refine r_iload_n dX5_strongestHome_21 rfl ?_
    refine r_iload dX5_strongestHome_22 rfl ?_
    refine r_callV (ci := 9) (As := [(0, v2), (0, v5)]) (st := []) (by decide) ok_X5_101 rfl rfl (Nat.le_of_ble_eq_true rfl) dX5_strongestHome_24 h (fun r3 s4 hv h => ?_)
    refine r_istore (ls2 := [(9, 0), (19, v1), (0, v2), (0, v3), (0, v4), (0, v5), (0, r3)]) dX5_strongestHome_27 (by decide) rfl ?_
    refine r_iload dX5_strongestHome_29 rfl ?_
    refine r_iload dX5_strongestHome_31 rfl ?_
    refine r_icmp_le (tgt := 43) dX5_strongestHome_33 (by decide) (fun hc => ?_) (fun hc => ?_)
    · have h := h.1 hc
      refine r_iinc (ls2 := [(9, 0), (19, v1), (0, v2), (0, v3), (0, v4), (0, (w32 (v5 + 1))), (0, r3)]) dX5_strongestHome_43 rfl (by decide) rfl ?_
      refine r_goto (tgt := 8) dX5_strongestHome_46 (by decide) ?_
      exact r_fgt [false, true, true, true, true, true, false] rfl h
    · have h := h.2 hc
      refine r_iload dX5_strongestHome_36 rfl ?_
      refine r_istore (ls2 := [(9, 0), (19, v1), (0, v2), (0, v3), (0, r3), (0, v5), (0, r3)]) dX5_strongestHome_38 (by decide) rfl ?_
      refine r_iload dX5_strongestHome_40 rfl ?_
      refine r_istore_n (ls2 := [(9, 0), (19, v1), (0, v2), (0, v5), (0, r3), (0, v5), (0, r3)]) dX5_strongestHome_42 (by decide) rfl ?_
      refine r_iinc (ls2 := [(9, 0), (19, v1), (0, v2), (0, v5), (0, r3), (0, (w32 (v5 + 1))), (0, r3)]) dX5_strongestHome_43 rfl (by decide) rfl ?_
      refine r_goto (tgt := 8) dX5_strongestHome_46 (by decide) ?_
      exact r_fgt [false, true, true, true, true, true, false] rfl h
set_option maxRecDepth 20000 in
theorem S_X5_strongestHome {g : GT} {e : Nat} {Q : Int → Sg → Prop} {s : Sg} {v1 : Int} {v2 : Int} (h : (gr g v1 ∧ tg v1 = 19) → inR v2 → P_X5_strongestHome_8 g e Q s v1 v2 0 (-1) 0) : Mw g (e + 1) M_X5_strongestHome [(14, 55), (19, v1), (0, v2)] s Q := by
  refine Mw.of (ls := [(14, 55), (19, v1), (0, v2), (9, 0), (9, 0), (9, 0), (9, 0)]) pn_X5_strongestHome (Nat.le_of_ble_eq_true rfl) rfl (fun hv => ?_)
  have h := h (vld_o (by decide) (hv _ (List.Mem.tail _ (List.Mem.head _)))) (hv _ (List.Mem.tail _ (List.Mem.tail _ (List.Mem.head _))))
  refine r_iconst dX5_strongestHome_0 (by decide) ?_
  refine r_istore_n (ls2 := [(14, 55), (19, v1), (0, v2), (0, 0), (9, 0), (9, 0), (9, 0)]) dX5_strongestHome_1 (by decide) rfl ?_
  refine r_iconst dX5_strongestHome_2 (by decide) ?_
  refine r_istore (ls2 := [(14, 55), (19, v1), (0, v2), (0, 0), (0, (-1)), (9, 0), (9, 0)]) dX5_strongestHome_3 (by decide) rfl ?_
  refine r_iconst dX5_strongestHome_5 (by decide) ?_
  refine r_istore (ls2 := [(14, 55), (19, v1), (0, v2), (0, 0), (0, (-1)), (0, 0), (9, 0)]) dX5_strongestHome_6 (by decide) rfl ?_
  exact r_fgt [false, true, true, true, true, true, false] rfl h
abbrev P_X5_orderFrom_14 (g : GT) (e : Nat) (Q : Int → Sg → Prop) (s : Sg) (v3 : Int) : Prop := Wp g (e + 1) M_X5_orderFrom Q 14 [(14, 55), (9, 0), (9, 0), (0, v3), (9, 0), (9, 0), (9, 0)] [] s
abbrev P_X5_orderFrom_46 (g : GT) (e : Nat) (Q : Int → Sg → Prop) (s : Sg) (v1 : Int) (v2 : Int) (v3 : Int) (v4 : Int) : Prop := Wp g (e + 1) M_X5_orderFrom Q 46 [(14, 55), (0, v1), (0, v2), (0, v3), (0, v4), (9, 0), (9, 0)] [] s
abbrev P_X5_orderFrom_73 (g : GT) (e : Nat) (Q : Int → Sg → Prop) (s : Sg) (v1 : Int) (v2 : Int) (v3 : Int) (v4 : Int) (x0 : Int) : Prop := Wp g (e + 1) M_X5_orderFrom Q 73 [(14, 55), (0, v1), (0, v2), (0, v3), (0, v4), (9, 0), (9, 0)] [(0, x0)] s
abbrev P_X5_orderFrom_131 (g : GT) (e : Nat) (Q : Int → Sg → Prop) (s : Sg) (v1 : Int) (v2 : Int) (v3 : Int) (v4 : Int) (x1 : Int) (x2 : Int) (x4 : Int) : Prop := Wp g (e + 1) M_X5_orderFrom Q 131 [(14, 55), (0, v1), (0, v2), (0, v3), (0, v4), (9, 0), (9, 0)] [(0, x4), (0, v3), (0, x2), (0, x1), (14, 55)] s
set_option maxRecDepth 20000 in
theorem S_X5_orderFrom_14 {g : GT} {e : Nat} {Q : Int → Sg → Prop} {s : Sg} {v3 : Int} (h : ((v3 ≤ (s 55 2) → Q 0 s) ∧ (¬ v3 ≤ (s 55 2) → (∀ s1, s1 = ups s 55 2 v3 → (∀ s2, s2 = cpy s1 57 0 56 0 6 → Q 0 s2))))) : P_X5_orderFrom_14 g e Q s v3 := by
  refine r_iload_n dX5_orderFrom_14 rfl ?_
  refine r_aload_n dX5_orderFrom_15 rfl rfl ?_
  refine gf_X5_107 rfl dX5_orderFrom_16 ?_
  refine r_icmp_le (tgt := 42) dX5_orderFrom_19 (by decide) (fun hc => ?_) (fun hc => ?_)
  · have h := h.1 hc
    exact r_ret dX5_orderFrom_42 rfl h
  · have h := h.2 hc
    refine r_aload_n dX5_orderFrom_22 rfl rfl ?_
    refine r_iload_n dX5_orderFrom_23 rfl ?_
    refine pf_X5_107 rfl dX5_orderFrom_24 ?_
    have h := h _ rfl
    generalize hs_s1 : ups s 55 2 v3 = s1 at h ⊢
    refine r_aload_n dX5_orderFrom_27 rfl rfl ?_
    refine gf_X5_15 rfl dX5_orderFrom_28 ?_
    refine r_iconst dX5_orderFrom_31 (by decide) ?_
    refine r_aload_n dX5_orderFrom_32 rfl rfl ?_
    refine gf_X5_9 rfl dX5_orderFrom_33 ?_
    refine r_iconst dX5_orderFrom_36 (by decide) ?_
    refine r_bipush dX5_orderFrom_37 (by decide) rfl ?_
    refine r_copy (n0 := 6) (n1 := 6) lm_X5_119 (Nat.le_of_ble_eq_true rfl) rfl (by decide) rfl (by decide) dX5_orderFrom_39 (by decide) ?_
    have h := h _ rfl
    generalize hs_s2 : cpy s1 57 0 56 0 6 = s2 at h ⊢
    exact r_ret dX5_orderFrom_42 rfl h
set_option maxRecDepth 20000 in
theorem S_X5_orderFrom_46 {g : GT} {e : Nat} {Q : Int → Sg → Prop} {s : Sg} {v1 : Int} {v2 : Int} {v3 : Int} {v4 : Int} (h : ((8 ≤ v4 → Q 0 s) ∧ (¬ 8 ≤ v4 → (((w32 ((w32 (v3 + (s 55 4))) - v1)) ≤ (s 55 2) → P_X5_orderFrom_73 g e Q s v1 v2 v3 v4 0) ∧ (¬ (w32 ((w32 (v3 + (s 55 4))) - v1)) ≤ (s 55 2) → P_X5_orderFrom_73 g e Q s v1 v2 v3 v4 1))))) : P_X5_orderFrom_46 g e Q s v1 v2 v3 v4 := by
  refine r_iload dX5_orderFrom_46 rfl ?_
  refine r_bipush dX5_orderFrom_48 (by decide) rfl ?_
  refine r_icmp_ge (tgt := 150) dX5_orderFrom_50 (by decide) (fun hc => ?_) (fun hc => ?_)
  · have h := h.1 hc
    exact r_ret dX5_orderFrom_150 rfl h
  · have h := h.2 hc
    refine r_iload_n dX5_orderFrom_53 rfl ?_
    refine r_aload_n dX5_orderFrom_54 rfl rfl ?_
    refine gf_X5_104 rfl dX5_orderFrom_55 ?_
    refine r_iadd dX5_orderFrom_58 ?_
    refine r_iload_n dX5_orderFrom_59 rfl ?_
    refine r_isub dX5_orderFrom_60 ?_
    refine r_aload_n dX5_orderFrom_61 rfl rfl ?_
    refine gf_X5_107 rfl dX5_orderFrom_62 ?_
    refine r_icmp_le (tgt := 72) dX5_orderFrom_65 (by decide) (fun hc => ?_) (fun hc => ?_)
    · have h := h.1 hc
      refine r_iconst dX5_orderFrom_72 (by decide) ?_
      exact h
    · have h := h.2 hc
      refine r_iconst dX5_orderFrom_68 (by decide) ?_
      refine r_goto (tgt := 73) dX5_orderFrom_69 (by decide) ?_
      exact h
set_option maxRecDepth 20000 in
theorem S_X5_orderFrom_73 {g : GT} {e : Nat} {Q : Int → Sg → Prop} {s : Sg} {v1 : Int} {v2 : Int} {v3 : Int} {v4 : Int} {x0 : Int} (h : (((bAnd v2 (bShl 1 v4)) = 0 → P_X5_orderFrom_46 g e Q s v1 v2 v3 (w32 (v4 + 1))) ∧ (¬ (bAnd v2 (bShl 1 v4)) = 0 → ((x0 = 0 → P_X5_orderFrom_46 g e Q s v1 v2 v3 (w32 (v4 + 1))) ∧ (¬ x0 = 0 → ((0 ≤ v1 ∧ v1 < 6) ∧ ∀ s1, s1 = ups s 57 v1 v4 → (Mw g e M_X11_buildIn [(19, 58), (0, v4)] s1 (fun r2 s3 => ((r2 = 0 → P_X5_orderFrom_131 g e Q s3 v1 v2 v3 v4 (w32 (v1 + 1)) (bAnd v2 (bXor (bShl 1 v4) (-1))) 0) ∧ (¬ r2 = 0 → P_X5_orderFrom_131 g e Q s3 v1 v2 v3 v4 (w32 (v1 + 1)) (bAnd v2 (bXor (bShl 1 v4) (-1))) 1)))))))))) : P_X5_orderFrom_73 g e Q s v1 v2 v3 v4 x0 := by
  refine r_istore (ls2 := [(14, 55), (0, v1), (0, v2), (0, v3), (0, v4), (0, x0), (9, 0)]) dX5_orderFrom_73 (by decide) rfl ?_
  refine r_iload_n dX5_orderFrom_75 rfl ?_
  refine r_iconst dX5_orderFrom_76 (by decide) ?_
  refine r_iload dX5_orderFrom_77 rfl ?_
  refine r_ishl dX5_orderFrom_79 ?_
  refine r_iand dX5_orderFrom_80 ?_
  refine r_if_eq (tgt := 144) dX5_orderFrom_81 (by decide) (fun hc => ?_) (fun hc => ?_)
  · have h := h.1 hc
    refine r_iinc (ls2 := [(14, 55), (0, v1), (0, v2), (0, v3), (0, (w32 (v4 + 1))), (0, x0), (9, 0)]) dX5_orderFrom_144 rfl (by decide) rfl ?_
    refine r_goto (tgt := 46) dX5_orderFrom_147 (by decide) ?_
    exact r_fgt [true, true, true, true, true, false, false] rfl h
  · have h := h.2 hc
    refine r_iload dX5_orderFrom_84 rfl ?_
    refine r_if_eq (tgt := 144) dX5_orderFrom_86 (by decide) (fun hc => ?_) (fun hc => ?_)
    · have h := h.1 hc
      refine r_iinc (ls2 := [(14, 55), (0, v1), (0, v2), (0, v3), (0, (w32 (v4 + 1))), (0, x0), (9, 0)]) dX5_orderFrom_144 rfl (by decide) rfl ?_
      refine r_goto (tgt := 46) dX5_orderFrom_147 (by decide) ?_
      exact r_fgt [true, true, true, true, true, false, false] rfl h
    · have h := h.2 hc
      refine r_aload_n dX5_orderFrom_89 rfl rfl ?_
      refine gf_X5_15 rfl dX5_orderFrom_90 ?_
      refine r_iload_n dX5_orderFrom_93 rfl ?_
      refine r_iload dX5_orderFrom_94 rfl ?_
      obtain ⟨hb, h⟩ := h
      refine r_iast (n := 6) rfl (by decide) dX5_orderFrom_96 hb ?_
      have h := h _ rfl
      generalize hs_s1 : ups s 57 v1 v4 = s1 at h ⊢
      refine r_aload_n dX5_orderFrom_97 rfl rfl ?_
      refine gf_X5_23 rfl dX5_orderFrom_98 ?_
      refine r_iload dX5_orderFrom_101 rfl ?_
      refine r_callV (ci := 9) (As := [(0, v4)]) (st := []) (by decide) ok_X5_125 rfl rfl (Nat.le_of_ble_eq_true rfl) dX5_orderFrom_103 h (fun r2 s3 hv h => ?_)
      refine r_istore (ls2 := [(14, 55), (0, v1), (0, v2), (0, v3), (0, v4), (0, x0), (0, r2)]) dX5_orderFrom_106 (by decide) rfl ?_
      refine r_aload_n dX5_orderFrom_108 rfl rfl ?_
      refine r_iload_n dX5_orderFrom_109 rfl ?_
      refine r_iconst dX5_orderFrom_110 (by decide) ?_
      refine r_iadd dX5_orderFrom_111 ?_
      refine r_iload_n dX5_orderFrom_112 rfl ?_
      refine r_iconst dX5_orderFrom_113 (by decide) ?_
      refine r_iload dX5_orderFrom_114 rfl ?_
      refine r_ishl dX5_orderFrom_116 ?_
      refine r_iconst dX5_orderFrom_117 (by decide) ?_
      refine r_ixor dX5_orderFrom_118 ?_
      refine r_iand dX5_orderFrom_119 ?_
      refine r_iload_n dX5_orderFrom_120 rfl ?_
      refine r_iload dX5_orderFrom_121 rfl ?_
      refine r_if_eq (tgt := 130) dX5_orderFrom_123 (by decide) (fun hc => ?_) (fun hc => ?_)
      · have h := h.1 hc
        refine r_iconst dX5_orderFrom_130 (by decide) ?_
        exact r_fgt [true, true, true, true, true, false, false] rfl h
      · have h := h.2 hc
        refine r_iconst dX5_orderFrom_126 (by decide) ?_
        refine r_goto (tgt := 131) dX5_orderFrom_127 (by decide) ?_
        exact r_fgt [true, true, true, true, true, false, false] rfl h
set_option maxRecDepth 20000 in
theorem S_X5_orderFrom_131 {g : GT} {e : Nat} {Q : Int → Sg → Prop} {s : Sg} {v1 : Int} {v2 : Int} {v3 : Int} {v4 : Int} {x1 : Int} {x2 : Int} {x4 : Int} (h : (Mw g e M_X5_orderFrom [(14, 55), (0, x1), (0, x2), (0, (w32 (v3 + x4)))] s (fun _ s2 => (Mw g e M_X11_lift [(19, 58), (0, v4)] s2 (fun _ s4 => P_X5_orderFrom_46 g e Q s4 v1 v2 v3 (w32 (v4 + 1))))))) : P_X5_orderFrom_131 g e Q s v1 v2 v3 v4 x1 x2 x4 := by
  refine r_iadd dX5_orderFrom_131 ?_
  refine r_callV (ci := 4) (As := [(0, x1), (0, x2), (0, (w32 (v3 + x4)))]) (st := []) (by decide) ok_X5_110 rfl rfl (Nat.le_of_ble_eq_true rfl) dX5_orderFrom_132 h (fun r1 s2 hv h => ?_)
  refine r_aload_n dX5_orderFrom_135 rfl rfl ?_
  refine gf_X5_23 rfl dX5_orderFrom_136 ?_
  refine r_iload dX5_orderFrom_139 rfl ?_
  refine r_callV (ci := 9) (As := [(0, v4)]) (st := []) (by decide) ok_X5_129 rfl rfl (Nat.le_of_ble_eq_true rfl) dX5_orderFrom_141 h (fun r3 s4 hv h => ?_)
  refine r_iinc (ls2 := [(14, 55), (0, v1), (0, v2), (0, v3), (0, (w32 (v4 + 1))), (9, 0), (9, 0)]) dX5_orderFrom_144 rfl (by decide) rfl ?_
  refine r_goto (tgt := 46) dX5_orderFrom_147 (by decide) ?_
  exact h
set_option maxRecDepth 20000 in
theorem S_X5_orderFrom {g : GT} {e : Nat} {Q : Int → Sg → Prop} {s : Sg} {v1 : Int} {v2 : Int} {v3 : Int} (h : inR v1 → inR v2 → inR v3 → (((s 55 4) ≤ v1 → P_X5_orderFrom_14 g e Q s v3) ∧ (¬ (s 55 4) ≤ v1 → ((v1 < 6 → P_X5_orderFrom_46 g e Q s v1 v2 v3 0) ∧ (¬ v1 < 6 → P_X5_orderFrom_14 g e Q s v3))))) : Mw g (e + 1) M_X5_orderFrom [(14, 55), (0, v1), (0, v2), (0, v3)] s Q := by
  refine Mw.of (ls := [(14, 55), (0, v1), (0, v2), (0, v3), (9, 0), (9, 0), (9, 0)]) pn_X5_orderFrom (Nat.le_of_ble_eq_true rfl) rfl (fun hv => ?_)
  have h := h (hv _ (List.Mem.tail _ (List.Mem.head _))) (hv _ (List.Mem.tail _ (List.Mem.tail _ (List.Mem.head _)))) (hv _ (List.Mem.tail _ (List.Mem.tail _ (List.Mem.tail _ (List.Mem.head _)))))
  refine r_iload_n dX5_orderFrom_0 rfl ?_
  refine r_aload_n dX5_orderFrom_1 rfl rfl ?_
  refine gf_X5_104 rfl dX5_orderFrom_2 ?_
  refine r_icmp_ge (tgt := 14) dX5_orderFrom_5 (by decide) (fun hc => ?_) (fun hc => ?_)
  · have h := h.1 hc
    exact r_fgt [true, false, false, true, false, false, false] rfl h
  · have h := h.2 hc
    refine r_iload_n dX5_orderFrom_8 rfl ?_
    refine r_bipush dX5_orderFrom_9 (by decide) rfl ?_
    refine r_icmp_lt (tgt := 43) dX5_orderFrom_11 (by decide) (fun hc => ?_) (fun hc => ?_)
    · have h := h.1 hc
      refine r_iconst dX5_orderFrom_43 (by decide) ?_
      refine r_istore (ls2 := [(14, 55), (0, v1), (0, v2), (0, v3), (0, 0), (9, 0), (9, 0)]) dX5_orderFrom_44 (by decide) rfl ?_
      exact h
    · have h := h.2 hc
      exact r_fgt [true, false, false, true, false, false, false] rfl h
set_option maxRecDepth 20000 in
theorem S_X5_findOrder {g : GT} {e : Nat} {Q : Int → Sg → Prop} {s : Sg} {v1 : Int} {v2 : Int} (h : (gr g v1 ∧ tg v1 = 19) → inR v2 → (Mw g e M_X11_copy [(19, 58), (19, v1)] s (fun _ s2 => (Mw g e M_J6_bitCount_0f7a4 [(0, v2)] s2 (fun r3 s4 => (∀ s5, s5 = ups s4 55 4 r3 → (∀ s6, s6 = ups s5 55 2 (-1) → (Mw g e M_X5_orderFrom [(14, 55), (0, 0), (0, v2), (0, 0)] s6 (fun _ s8 => (∀ s9, s9 = ups s8 55 2 (max 0 (s8 55 2)) → Q 0 s9)))))))))) : Mw g (e + 1) M_X5_findOrder [(14, 55), (19, v1), (0, v2)] s Q := by
  refine Mw.of (ls := [(14, 55), (19, v1), (0, v2)]) pn_X5_findOrder (Nat.le_of_ble_eq_true rfl) rfl (fun hv => ?_)
  have h := h (vld_o (by decide) (hv _ (List.Mem.tail _ (List.Mem.head _)))) (hv _ (List.Mem.tail _ (List.Mem.tail _ (List.Mem.head _))))
  refine r_aload_n dX5_findOrder_0 rfl rfl ?_
  refine gf_X5_23 rfl dX5_findOrder_1 ?_
  refine r_aload_n dX5_findOrder_4 rfl rfl ?_
  refine r_callV (ci := 9) (As := [(19, v1)]) (st := []) (by decide) ok_X5_27 rfl rfl (Nat.le_of_ble_eq_true rfl) dX5_findOrder_5 h (fun r1 s2 hv h => ?_)
  refine r_aload_n dX5_findOrder_8 rfl rfl ?_
  refine r_iload_n dX5_findOrder_9 rfl ?_
  refine r_callS (As := [(0, v2)]) (st := [(14, 55)]) ok_X5_43 rfl rfl (Nat.le_of_ble_eq_true rfl) dX5_findOrder_10 h (fun r3 s4 hv h => ?_)
  refine pf_X5_104 rfl dX5_findOrder_13 ?_
  have h := h _ rfl
  generalize hs_s5 : ups s4 55 4 r3 = s5 at h ⊢
  refine r_aload_n dX5_findOrder_16 rfl rfl ?_
  refine r_iconst dX5_findOrder_17 (by decide) ?_
  refine pf_X5_107 rfl dX5_findOrder_18 ?_
  have h := h _ rfl
  generalize hs_s6 : ups s5 55 2 (-1) = s6 at h ⊢
  refine r_aload_n dX5_findOrder_21 rfl rfl ?_
  refine r_iconst dX5_findOrder_22 (by decide) ?_
  refine r_iload_n dX5_findOrder_23 rfl ?_
  refine r_iconst dX5_findOrder_24 (by decide) ?_
  refine r_callV (ci := 4) (As := [(0, 0), (0, v2), (0, 0)]) (st := []) (by decide) ok_X5_110 rfl rfl (Nat.le_of_ble_eq_true rfl) dX5_findOrder_25 h (fun r7 s8 hv h => ?_)
  refine r_aload_n dX5_findOrder_28 rfl rfl ?_
  refine r_iconst dX5_findOrder_29 (by decide) ?_
  refine r_aload_n dX5_findOrder_30 rfl rfl ?_
  refine gf_X5_107 rfl dX5_findOrder_31 ?_
  refine r_maxI lm_X5_114 (Nat.le_of_ble_eq_true rfl) dX5_findOrder_34 ?_
  refine pf_X5_107 rfl dX5_findOrder_37 ?_
  have h := h _ rfl
  generalize hs_s9 : ups s8 55 2 (max 0 (s8 55 2)) = s9 at h ⊢
  exact r_ret dX5_findOrder_40 rfl h
abbrev P_X5_winsFrom_11 (g : GT) (e : Nat) (Q : Int → Sg → Prop) (s : Sg) (v1 : Int) (v2 : Int) (v3 : Int) (v4 : Int) (v5 : Int) : Prop := Wp g (e + 1) M_X5_winsFrom Q 11 [(14, 55), (0, v1), (0, v2), (0, v3), (0, v4), (0, v5), (9, 0), (9, 0)] [] s
abbrev P_X5_winsFrom_70 (g : GT) (e : Nat) (Q : Int → Sg → Prop) (s : Sg) (v1 : Int) (v2 : Int) (v3 : Int) (v4 : Int) (v5 : Int) (v6 : Int) (x0 : Int) : Prop := Wp g (e + 1) M_X5_winsFrom Q 70 [(14, 55), (0, v1), (0, v2), (0, v3), (0, v4), (0, v5), (0, v6), (9, 0)] [(0, x0)] s
abbrev P_X5_winsFrom_120 (g : GT) (e : Nat) (Q : Int → Sg → Prop) (s : Sg) (v1 : Int) (v2 : Int) (v4 : Int) (v5 : Int) (v6 : Int) (v7 : Int) : Prop := Wp g (e + 1) M_X5_winsFrom Q 120 [(14, 55), (0, v1), (0, v2), (9, 0), (0, v4), (0, v5), (0, v6), (0, v7)] [] s
abbrev P_X5_winsFrom_121 (g : GT) (e : Nat) (Q : Int → Sg → Prop) (s : Sg) (v1 : Int) (v2 : Int) (v4 : Int) (v5 : Int) (v6 : Int) (v7 : Int) (x0 : Int) : Prop := Wp g (e + 1) M_X5_winsFrom Q 121 [(14, 55), (0, v1), (0, v2), (9, 0), (0, v4), (0, v5), (0, v6), (0, v7)] [(0, x0)] s
set_option maxRecDepth 20000 in
theorem S_X5_winsFrom_11 {g : GT} {e : Nat} {Q : Int → Sg → Prop} {s : Sg} {v1 : Int} {v2 : Int} {v3 : Int} {v4 : Int} {v5 : Int} (h : (((w32 (v4 + 4)) ≤ v5 → ((v3 = 0 ∨ v3 = 1) ∧ Q v3 s)) ∧ (¬ (w32 (v4 + 4)) ≤ v5 → ((¬ v3 = 0 → ((v3 = 0 ∨ v3 = 1) ∧ Q v3 s)) ∧ (v3 = 0 → ((0 ≤ v5 ∧ v5 < 16) ∧ ((0 ≤ v5 ∧ v5 < 16) ∧ (((s 63 v5) ≤ 0 → P_X5_winsFrom_70 g e Q s v1 v2 v3 v4 v5 (w32 ((w32 ((w32 (v5 * 4)) + (s 63 v5))) - 1)) (-1)) ∧ (¬ (s 63 v5) ≤ 0 → ((0 ≤ (w32 ((w32 ((w32 (v5 * 4)) + (s 63 v5))) - 1)) ∧ (w32 ((w32 ((w32 (v5 * 4)) + (s 63 v5))) - 1)) < 64) ∧ P_X5_winsFrom_70 g e Q s v1 v2 v3 v4 v5 (w32 ((w32 ((w32 (v5 * 4)) + (s 63 v5))) - 1)) (s 62 (w32 ((w32 ((w32 (v5 * 4)) + (s 63 v5))) - 1))))))))))))) : P_X5_winsFrom_11 g e Q s v1 v2 v3 v4 v5 := by
  refine r_iload dX5_winsFrom_11 rfl ?_
  refine r_iload dX5_winsFrom_13 rfl ?_
  refine r_iconst dX5_winsFrom_15 (by decide) ?_
  refine r_iadd dX5_winsFrom_16 ?_
  refine r_icmp_ge (tgt := 139) dX5_winsFrom_17 (by decide) (fun hc => ?_) (fun hc => ?_)
  · have h := h.1 hc
    refine r_iload_n dX5_winsFrom_139 rfl ?_
    exact r_zret dX5_winsFrom_140 rfl h.1 h.2
  · have h := h.2 hc
    refine r_iload_n dX5_winsFrom_20 rfl ?_
    refine r_if_ne (tgt := 139) dX5_winsFrom_21 (by decide) (fun hc => ?_) (fun hc => ?_)
    · have h := h.1 hc
      refine r_iload_n dX5_winsFrom_139 rfl ?_
      exact r_zret dX5_winsFrom_140 rfl h.1 h.2
    · have h := h.2 hc
      refine r_iload dX5_winsFrom_24 rfl ?_
      refine r_iconst dX5_winsFrom_26 (by decide) ?_
      refine r_imul dX5_winsFrom_27 ?_
      refine r_aload_n dX5_winsFrom_28 rfl rfl ?_
      refine gf_X5_23 rfl dX5_winsFrom_29 ?_
      refine gf_X5_78 rfl dX5_winsFrom_32 ?_
      show Wp g (e + 1) M_X5_winsFrom Q 35 [(14, 55), (0, v1), (0, v2), (0, v3), (0, v4), (0, v5), (9, 0), (9, 0)] [(40, 63), (0, (w32 (v5 * 4)))] s
      refine r_iload dX5_winsFrom_35 rfl ?_
      obtain ⟨hb, h⟩ := h
      refine r_iald (n := 16) rfl (by decide) dX5_winsFrom_37 hb ?_
      refine r_iadd dX5_winsFrom_38 ?_
      refine r_iconst dX5_winsFrom_39 (by decide) ?_
      refine r_isub dX5_winsFrom_40 ?_
      refine r_istore (ls2 := [(14, 55), (0, v1), (0, v2), (0, v3), (0, v4), (0, v5), (0, (w32 ((w32 ((w32 (v5 * 4)) + (s 63 v5))) - 1))), (9, 0)]) dX5_winsFrom_41 (by decide) rfl ?_
      refine r_aload_n dX5_winsFrom_43 rfl rfl ?_
      refine gf_X5_23 rfl dX5_winsFrom_44 ?_
      refine gf_X5_78 rfl dX5_winsFrom_47 ?_
      show Wp g (e + 1) M_X5_winsFrom Q 50 [(14, 55), (0, v1), (0, v2), (0, v3), (0, v4), (0, v5), (0, (w32 ((w32 ((w32 (v5 * 4)) + (s 63 v5))) - 1))), (9, 0)] [(40, 63)] s
      refine r_iload dX5_winsFrom_50 rfl ?_
      obtain ⟨hb, h⟩ := h
      refine r_iald (n := 16) rfl (by decide) dX5_winsFrom_52 hb ?_
      refine r_if_le (tgt := 69) dX5_winsFrom_53 (by decide) (fun hc => ?_) (fun hc => ?_)
      · have h := h.1 hc
        refine r_iconst dX5_winsFrom_69 (by decide) ?_
        exact h
      · have h := h.2 hc
        refine r_aload_n dX5_winsFrom_56 rfl rfl ?_
        refine gf_X5_23 rfl dX5_winsFrom_57 ?_
        refine gf_X5_81 rfl dX5_winsFrom_60 ?_
        show Wp g (e + 1) M_X5_winsFrom Q 63 [(14, 55), (0, v1), (0, v2), (0, v3), (0, v4), (0, v5), (0, (w32 ((w32 ((w32 (v5 * 4)) + (s 63 v5))) - 1))), (9, 0)] [(39, 62)] s
        refine r_iload dX5_winsFrom_63 rfl ?_
        obtain ⟨hb, h⟩ := h
        refine r_iald (n := 64) rfl (by decide) dX5_winsFrom_65 hb ?_
        refine r_goto (tgt := 70) dX5_winsFrom_66 (by decide) ?_
        exact h
set_option maxRecDepth 20000 in
theorem S_X5_winsFrom_70 {g : GT} {e : Nat} {Q : Int → Sg → Prop} {s : Sg} {v1 : Int} {v2 : Int} {v3 : Int} {v4 : Int} {v5 : Int} {v6 : Int} {x0 : Int} (h : ((x0 = (-1) → P_X5_winsFrom_11 g e Q s v1 v2 v3 v4 (w32 (v5 + 1))) ∧ (¬ x0 = (-1) → ((8 ≤ v2 → P_X5_winsFrom_11 g e Q s v1 v2 v3 v4 (w32 (v5 + 1))) ∧ (¬ 8 ≤ v2 → (Mw g e M_X11_lift [(19, 58), (0, x0)] s (fun _ s2 => (Mw g e M_X11_weakSpot [(19, 58), (0, v1)] s2 (fun r3 s4 => ((¬ r3 = (-1) → P_X5_winsFrom_120 g e Q s4 v1 v2 v4 v5 v6 x0) ∧ (r3 = (-1) → (Mw g e M_X5_winsFrom [(14, 55), (0, v1), (0, (w32 (v2 + 1)))] s4 (fun r5 s6 => ((¬ r5 = 0 → P_X5_winsFrom_120 g e Q s6 v1 v2 v4 v5 v6 x0) ∧ (r5 = 0 → P_X5_winsFrom_121 g e Q s6 v1 v2 v4 v5 v6 x0 1))))))))))))))) : P_X5_winsFrom_70 g e Q s v1 v2 v3 v4 v5 v6 x0 := by
  refine r_istore (ls2 := [(14, 55), (0, v1), (0, v2), (0, v3), (0, v4), (0, v5), (0, v6), (0, x0)]) dX5_winsFrom_70 (by decide) rfl ?_
  refine r_iload dX5_winsFrom_72 rfl ?_
  refine r_iconst dX5_winsFrom_74 (by decide) ?_
  refine r_icmp_eq (tgt := 133) dX5_winsFrom_75 (by decide) (fun hc => ?_) (fun hc => ?_)
  · have h := h.1 hc
    refine r_iinc (ls2 := [(14, 55), (0, v1), (0, v2), (0, v3), (0, v4), (0, (w32 (v5 + 1))), (0, v6), (0, x0)]) dX5_winsFrom_133 rfl (by decide) rfl ?_
    refine r_goto (tgt := 11) dX5_winsFrom_136 (by decide) ?_
    exact r_fgt [true, true, true, true, true, true, false, false] rfl h
  · have h := h.2 hc
    refine r_iload_n dX5_winsFrom_78 rfl ?_
    refine r_bipush dX5_winsFrom_79 (by decide) rfl ?_
    refine r_icmp_ge (tgt := 133) dX5_winsFrom_81 (by decide) (fun hc => ?_) (fun hc => ?_)
    · have h := h.1 hc
      refine r_iinc (ls2 := [(14, 55), (0, v1), (0, v2), (0, v3), (0, v4), (0, (w32 (v5 + 1))), (0, v6), (0, x0)]) dX5_winsFrom_133 rfl (by decide) rfl ?_
      refine r_goto (tgt := 11) dX5_winsFrom_136 (by decide) ?_
      exact r_fgt [true, true, true, true, true, true, false, false] rfl h
    · have h := h.2 hc
      refine r_aload_n dX5_winsFrom_84 rfl rfl ?_
      refine gf_X5_23 rfl dX5_winsFrom_85 ?_
      refine r_iload dX5_winsFrom_88 rfl ?_
      refine r_callV (ci := 9) (As := [(0, x0)]) (st := []) (by decide) ok_X5_129 rfl rfl (Nat.le_of_ble_eq_true rfl) dX5_winsFrom_90 h (fun r1 s2 hv h => ?_)
      refine r_aload_n dX5_winsFrom_93 rfl rfl ?_
      refine gf_X5_23 rfl dX5_winsFrom_94 ?_
      refine r_iload_n dX5_winsFrom_97 rfl ?_
      refine r_callV (ci := 9) (As := [(0, v1)]) (st := []) (by decide) ok_X5_136 rfl rfl (Nat.le_of_ble_eq_true rfl) dX5_winsFrom_98 h (fun r3 s4 hv h => ?_)
      refine r_iconst dX5_winsFrom_101 (by decide) ?_
      refine r_icmp_ne (tgt := 120) dX5_winsFrom_102 (by decide) (fun hc => ?_) (fun hc => ?_)
      · have h := h.1 hc
        exact r_fgt [true, true, true, false, true, true, true, true] rfl h
      · have h := h.2 hc
        refine r_aload_n dX5_winsFrom_105 rfl rfl ?_
        refine r_iload_n dX5_winsFrom_106 rfl ?_
        refine r_iload_n dX5_winsFrom_107 rfl ?_
        refine r_iconst dX5_winsFrom_108 (by decide) ?_
        refine r_iadd dX5_winsFrom_109 ?_
        refine r_callV (ci := 4) (As := [(0, v1), (0, (w32 (v2 + 1)))]) (st := []) (by decide) ok_X5_132 rfl rfl (Nat.le_of_ble_eq_true rfl) dX5_winsFrom_110 h (fun r5 s6 hv h => ?_)
        refine r_if_ne (tgt := 120) dX5_winsFrom_113 (by decide) (fun hc => ?_) (fun hc => ?_)
        · have h := h.1 hc
          exact r_fgt [true, true, true, false, true, true, true, true] rfl h
        · have h := h.2 hc
          refine r_iconst dX5_winsFrom_116 (by decide) ?_
          refine r_goto (tgt := 121) dX5_winsFrom_117 (by decide) ?_
          exact r_fgt [true, true, true, false, true, true, true, true] rfl h
set_option maxRecDepth 20000 in
theorem S_X5_winsFrom_120 {g : GT} {e : Nat} {Q : Int → Sg → Prop} {s : Sg} {v1 : Int} {v2 : Int} {v4 : Int} {v5 : Int} {v6 : Int} {v7 : Int} (h : P_X5_winsFrom_121 g e Q s v1 v2 v4 v5 v6 v7 0) : P_X5_winsFrom_120 g e Q s v1 v2 v4 v5 v6 v7 := by
  refine r_iconst dX5_winsFrom_120 (by decide) ?_
  exact h
set_option maxRecDepth 20000 in
theorem S_X5_winsFrom_121 {g : GT} {e : Nat} {Q : Int → Sg → Prop} {s : Sg} {v1 : Int} {v2 : Int} {v4 : Int} {v5 : Int} {v6 : Int} {v7 : Int} {x0 : Int} (h : (Mw g e M_X11_put [(19, 58), (0, v7), (0, v6)] s (fun _ s2 => P_X5_winsFrom_11 g e Q s2 v1 v2 x0 v4 (w32 (v5 + 1))))) : P_X5_winsFrom_121 g e Q s v1 v2 v4 v5 v6 v7 x0 := by
  refine r_istore_n (ls2 := [(14, 55), (0, v1), (0, v2), (0, x0), (0, v4), (0, v5), (0, v6), (0, v7)]) dX5_winsFrom_121 (by decide) rfl ?_
  refine r_aload_n dX5_winsFrom_122 rfl rfl ?_
  refine gf_X5_23 rfl dX5_winsFrom_123 ?_
  refine r_iload dX5_winsFrom_126 rfl ?_
  refine r_iload dX5_winsFrom_128 rfl ?_
  refine r_callV (ci := 9) (As := [(0, v7), (0, v6)]) (st := []) (by decide) ok_X5_139 rfl rfl (Nat.le_of_ble_eq_true rfl) dX5_winsFrom_130 h (fun r1 s2 hv h => ?_)
  refine r_iinc (ls2 := [(14, 55), (0, v1), (0, v2), (0, x0), (0, v4), (0, (w32 (v5 + 1))), (0, v6), (0, v7)]) dX5_winsFrom_133 rfl (by decide) rfl ?_
  refine r_goto (tgt := 11) dX5_winsFrom_136 (by decide) ?_
  exact r_fgt [true, true, true, true, true, true, false, false] rfl h
set_option maxRecDepth 20000 in
theorem S_X5_winsFrom {g : GT} {e : Nat} {Q : Int → Sg → Prop} {s : Sg} {v1 : Int} {v2 : Int} (h : inR v1 → inR v2 → P_X5_winsFrom_11 g e Q s v1 v2 0 (w32 (v1 * 4)) (w32 (v1 * 4))) : Mw g (e + 1) M_X5_winsFrom [(14, 55), (0, v1), (0, v2)] s Q := by
  refine Mw.of (ls := [(14, 55), (0, v1), (0, v2), (9, 0), (9, 0), (9, 0), (9, 0), (9, 0)]) pn_X5_winsFrom (Nat.le_of_ble_eq_true rfl) rfl (fun hv => ?_)
  have h := h (hv _ (List.Mem.tail _ (List.Mem.head _))) (hv _ (List.Mem.tail _ (List.Mem.tail _ (List.Mem.head _))))
  refine r_iconst dX5_winsFrom_0 (by decide) ?_
  refine r_istore_n (ls2 := [(14, 55), (0, v1), (0, v2), (0, 0), (9, 0), (9, 0), (9, 0), (9, 0)]) dX5_winsFrom_1 (by decide) rfl ?_
  refine r_iload_n dX5_winsFrom_2 rfl ?_
  refine r_iconst dX5_winsFrom_3 (by decide) ?_
  refine r_imul dX5_winsFrom_4 ?_
  refine r_istore (ls2 := [(14, 55), (0, v1), (0, v2), (0, 0), (0, (w32 (v1 * 4))), (9, 0), (9, 0), (9, 0)]) dX5_winsFrom_5 (by decide) rfl ?_
  refine r_iload dX5_winsFrom_7 rfl ?_
  refine r_istore (ls2 := [(14, 55), (0, v1), (0, v2), (0, 0), (0, (w32 (v1 * 4))), (0, (w32 (v1 * 4))), (9, 0), (9, 0)]) dX5_winsFrom_9 (by decide) rfl ?_
  exact h
set_option maxRecDepth 20000 in
theorem S_X5_firstWins {g : GT} {e : Nat} {Q : Int → Sg → Prop} {s : Sg} {v1 : Int} {v2 : Int} (h : (gr g v1 ∧ tg v1 = 19) → inR v2 → (Mw g e M_X11_copy [(19, 58), (19, v1)] s (fun _ s2 => (Mw g e M_X5_winsFrom [(14, 55), (0, v2), (0, 0)] s2 (fun r3 s4 => ((r3 = 0 ∨ r3 = 1) ∧ Q r3 s4)))))) : Mw g (e + 1) M_X5_firstWins [(14, 55), (19, v1), (0, v2)] s Q := by
  refine Mw.of (ls := [(14, 55), (19, v1), (0, v2)]) pn_X5_firstWins (Nat.le_of_ble_eq_true rfl) rfl (fun hv => ?_)
  have h := h (vld_o (by decide) (hv _ (List.Mem.tail _ (List.Mem.head _)))) (hv _ (List.Mem.tail _ (List.Mem.tail _ (List.Mem.head _))))
  refine r_aload_n dX5_firstWins_0 rfl rfl ?_
  refine gf_X5_23 rfl dX5_firstWins_1 ?_
  refine r_aload_n dX5_firstWins_4 rfl rfl ?_
  refine r_callV (ci := 9) (As := [(19, v1)]) (st := []) (by decide) ok_X5_27 rfl rfl (Nat.le_of_ble_eq_true rfl) dX5_firstWins_5 h (fun r1 s2 hv h => ?_)
  refine r_aload_n dX5_firstWins_8 rfl rfl ?_
  refine r_iload_n dX5_firstWins_9 rfl ?_
  refine r_iconst dX5_firstWins_10 (by decide) ?_
  refine r_callV (ci := 4) (As := [(0, v2), (0, 0)]) (st := []) (by decide) ok_X5_132 rfl rfl (Nat.le_of_ble_eq_true rfl) dX5_firstWins_11 h (fun r3 s4 hv h => ?_)
  exact r_zret dX5_firstWins_14 rfl h.1 h.2
set_option maxRecDepth 20000 in
theorem S_X7_forget {g : GT} {e : Nat} {Q : Int → Sg → Prop} {s : Sg} {v1 : Int} (h : (gr g v1 ∧ tg v1 = 18) → (Mw g e M_X9_homeCount [(18, v1)] s (fun r1 s2 => (∀ s3, s3 = ups s2 87 0 (w32 ((bShl 1 r1) - 1)) → (∀ s4, s4 = ups s3 87 1 0 → Q 0 s4))))) : Mw g (e + 1) M_X7_forget [(16, 87), (18, v1)] s Q := by
  refine Mw.of (ls := [(16, 87), (18, v1)]) pn_X7_forget (Nat.le_of_ble_eq_true rfl) rfl (fun hv => ?_)
  have h := h (vld_o (by decide) (hv _ (List.Mem.tail _ (List.Mem.head _))))
  refine r_aload_n dX7_forget_0 rfl rfl ?_
  refine r_iconst dX7_forget_1 (by decide) ?_
  refine r_aload_n dX7_forget_2 rfl rfl ?_
  refine r_callV (ci := 8) (As := []) (st := [(0, 1), (16, 87)]) (by decide) ok_X7_15 rfl rfl (Nat.le_of_ble_eq_true rfl) dX7_forget_3 h (fun r1 s2 hv h => ?_)
  refine r_ishl dX7_forget_6 ?_
  refine r_iconst dX7_forget_7 (by decide) ?_
  refine r_isub dX7_forget_8 ?_
  refine pf_X7_21 rfl dX7_forget_9 ?_
  have h := h _ rfl
  generalize hs_s3 : ups s2 87 0 (w32 ((bShl 1 r1) - 1)) = s3 at h ⊢
  refine r_aload_n dX7_forget_12 rfl rfl ?_
  refine r_iconst dX7_forget_13 (by decide) ?_
  refine pf_X7_25 rfl dX7_forget_14 ?_
  have h := h _ rfl
  generalize hs_s4 : ups s3 87 1 0 = s4 at h ⊢
  exact r_ret dX7_forget_17 rfl h
set_option maxRecDepth 20000 in
theorem S_X7_raise {g : GT} {e : Nat} {Q : Int → Sg → Prop} {s : Sg} {v1 : Int} {v2 : Int} {v3 : Int} (h : (gr g v1 ∧ tg v1 = 18) → inR v2 → inR v3 → ((0 ≤ v2 ∧ v2 < 6) ∧ (Mw g e M_X9_grown [(18, v1), (0, v2), (0, (w32 ((w32 ((s v1 14) + v3)) - 1))), (0, (s 88 v2)), (0, (w32 ((s 87 1) + (w32 ((w32 ((s v1 14) + v3)) - 1)))))] s (fun r1 s2 => ((0 ≤ v2 ∧ v2 < 6) ∧ ∀ s3, s3 = ups s2 88 v2 r1 → Q 0 s3))))) : Mw g (e + 1) M_X7_raise [(16, 87), (18, v1), (0, v2), (0, v3)] s Q := by
  refine Mw.of (ls := [(16, 87), (18, v1), (0, v2), (0, v3), (9, 0)]) pn_X7_raise (Nat.le_of_ble_eq_true rfl) rfl (fun hv => ?_)
  have h := h (vld_o (by decide) (hv _ (List.Mem.tail _ (List.Mem.head _)))) (hv _ (List.Mem.tail _ (List.Mem.tail _ (List.Mem.head _)))) (hv _ (List.Mem.tail _ (List.Mem.tail _ (List.Mem.tail _ (List.Mem.head _)))))
  refine r_aload_n dX7_raise_0 rfl rfl ?_
  refine gf_X7_51 rfl dX7_raise_1 ?_
  refine r_iload_n dX7_raise_4 rfl ?_
  refine r_iadd dX7_raise_5 ?_
  refine r_iconst dX7_raise_6 (by decide) ?_
  refine r_isub dX7_raise_7 ?_
  refine r_istore (ls2 := [(16, 87), (18, v1), (0, v2), (0, v3), (0, (w32 ((w32 ((s v1 14) + v3)) - 1)))]) dX7_raise_8 (by decide) rfl ?_
  refine r_aload_n dX7_raise_10 rfl rfl ?_
  refine gf_X7_9 rfl dX7_raise_11 ?_
  refine r_iload_n dX7_raise_14 rfl ?_
  refine r_aload_n dX7_raise_15 rfl rfl ?_
  refine r_iload_n dX7_raise_16 rfl ?_
  refine r_iload dX7_raise_17 rfl ?_
  refine r_aload_n dX7_raise_19 rfl rfl ?_
  refine gf_X7_9 rfl dX7_raise_20 ?_
  refine r_iload_n dX7_raise_23 rfl ?_
  obtain ⟨hb, h⟩ := h
  refine r_iald (n := 6) rfl (by decide) dX7_raise_24 hb ?_
  refine r_aload_n dX7_raise_25 rfl rfl ?_
  refine gf_X7_25 rfl dX7_raise_26 ?_
  refine r_iload dX7_raise_29 rfl ?_
  refine r_iadd dX7_raise_31 ?_
  refine r_callV (ci := 8) (As := [(0, v2), (0, (w32 ((w32 ((s v1 14) + v3)) - 1))), (0, (s 88 v2)), (0, (w32 ((s 87 1) + (w32 ((w32 ((s v1 14) + v3)) - 1)))))]) (st := [(0, v2), (34, 88)]) (by decide) ok_X7_54 rfl rfl (Nat.le_of_ble_eq_true rfl) dX7_raise_32 h (fun r1 s2 hv h => ?_)
  obtain ⟨hb, h⟩ := h
  refine r_iast (n := 6) rfl (by decide) dX7_raise_35 hb ?_
  have h := h _ rfl
  generalize hs_s3 : ups s2 88 v2 r1 = s3 at h ⊢
  exact r_ret dX7_raise_36 rfl h
abbrev P_X7_canBe_10 (g : GT) (e : Nat) (Q : Int → Sg → Prop) (s : Sg) (v1 : Int) (v3 : Int) (v4 : Int) : Prop := Wp g (e + 1) M_X7_canBe Q 10 [(16, 87), (18, v1), (17, 2), (0, v3), (0, v4), (9, 0)] [] s
abbrev P_X7_canBe_30 (g : GT) (e : Nat) (Q : Int → Sg → Prop) (s : Sg) (v1 : Int) (v3 : Int) (v4 : Int) (v5 : Int) : Prop := Wp g (e + 1) M_X7_canBe Q 30 [(16, 87), (18, v1), (17, 2), (0, v3), (0, v4), (0, v5)] [] s
set_option maxRecDepth 20000 in
theorem S_X7_canBe_10 {g : GT} {e : Nat} {Q : Int → Sg → Prop} {s : Sg} {v1 : Int} {v3 : Int} {v4 : Int} (h : (Mw g e M_X9_span [(18, v1)] s (fun r1 s2 => ((r1 < v4 → Q 1 s2) ∧ (¬ r1 < v4 → (Mw g e M_X7_raise [(16, 87), (18, v1), (0, v3), (0, v4)] s2 (fun _ s4 => P_X7_canBe_30 g e Q s4 v1 v3 v4 0))))))) : P_X7_canBe_10 g e Q s v1 v3 v4 := by
  refine r_iload dX7_canBe_10 rfl ?_
  refine r_aload_n dX7_canBe_12 rfl rfl ?_
  refine r_callV (ci := 8) (As := []) (st := [(0, v4)]) (by decide) ok_X7_37 rfl rfl (Nat.le_of_ble_eq_true rfl) dX7_canBe_13 h (fun r1 s2 hv h => ?_)
  refine r_icmp_gt (tgt := 81) dX7_canBe_16 (by decide) (fun hc => ?_) (fun hc => ?_)
  · have h := h.1 hc
    refine r_iconst dX7_canBe_81 (by decide) ?_
    exact r_zret dX7_canBe_82 rfl (by decide) h
  · have h := h.2 hc
    refine r_aload_n dX7_canBe_19 rfl rfl ?_
    refine r_aload_n dX7_canBe_20 rfl rfl ?_
    refine r_iload_n dX7_canBe_21 rfl ?_
    refine r_iload dX7_canBe_22 rfl ?_
    refine r_callV (ci := 6) (As := [(18, v1), (0, v3), (0, v4)]) (st := []) (by decide) ok_X7_44 rfl rfl (Nat.le_of_ble_eq_true rfl) dX7_canBe_24 h (fun r3 s4 hv h => ?_)
    refine r_iconst dX7_canBe_27 (by decide) ?_
    refine r_istore (ls2 := [(16, 87), (18, v1), (17, 2), (0, v3), (0, v4), (0, 0)]) dX7_canBe_28 (by decide) rfl ?_
    exact h
set_option maxRecDepth 20000 in
theorem S_X7_canBe_30 {g : GT} {e : Nat} {Q : Int → Sg → Prop} {s : Sg} {v1 : Int} {v3 : Int} {v4 : Int} {v5 : Int} (h : (((s 2 1) ≤ v5 → P_X7_canBe_10 g e Q s v1 v3 (w32 (v4 + 1))) ∧ (¬ (s 2 1) ≤ v5 → (Mw g e M_X8_byteAt [(17, 2), (0, v5)] s (fun r1 s2 => ((¬ r1 = v4 → P_X7_canBe_30 g e Q s2 v1 v3 v4 (w32 (v5 + 3))) ∧ (r1 = v4 → (Mw g e M_X8_pairAt [(17, 2), (0, (w32 (v5 + 1)))] s2 (fun r3 s4 => ((0 ≤ v3 ∧ v3 < 6) ∧ ((r3 = (s4 88 v3) → P_X7_canBe_30 g e Q s4 v1 v3 v4 (w32 (v5 + 3))) ∧ (¬ r3 = (s4 88 v3) → Q 0 s4)))))))))))) : P_X7_canBe_30 g e Q s v1 v3 v4 v5 := by
  refine r_iload dX7_canBe_30 rfl ?_
  refine r_aload_n dX7_canBe_32 rfl rfl ?_
  refine gf_X7_28 rfl dX7_canBe_33 ?_
  refine r_icmp_ge (tgt := 75) dX7_canBe_36 (by decide) (fun hc => ?_) (fun hc => ?_)
  · have h := h.1 hc
    refine r_iinc (ls2 := [(16, 87), (18, v1), (17, 2), (0, v3), (0, (w32 (v4 + 1))), (0, v5)]) dX7_canBe_75 rfl (by decide) rfl ?_
    refine r_goto (tgt := 10) dX7_canBe_78 (by decide) ?_
    exact r_fgt [true, true, true, true, true, false] rfl h
  · have h := h.2 hc
    refine r_aload_n dX7_canBe_39 rfl rfl ?_
    refine r_iload dX7_canBe_40 rfl ?_
    refine r_callV (ci := 7) (As := [(0, v5)]) (st := []) (by decide) ok_X7_33 rfl rfl (Nat.le_of_ble_eq_true rfl) dX7_canBe_42 h (fun r1 s2 hv h => ?_)
    refine r_iload dX7_canBe_45 rfl ?_
    refine r_icmp_ne (tgt := 69) dX7_canBe_47 (by decide) (fun hc => ?_) (fun hc => ?_)
    · have h := h.1 hc
      refine r_iinc (ls2 := [(16, 87), (18, v1), (17, 2), (0, v3), (0, v4), (0, (w32 (v5 + 3)))]) dX7_canBe_69 rfl (by decide) rfl ?_
      refine r_goto (tgt := 30) dX7_canBe_72 (by decide) ?_
      exact h
    · have h := h.2 hc
      refine r_aload_n dX7_canBe_50 rfl rfl ?_
      refine r_iload dX7_canBe_51 rfl ?_
      refine r_iconst dX7_canBe_53 (by decide) ?_
      refine r_iadd dX7_canBe_54 ?_
      refine r_callV (ci := 7) (As := [(0, (w32 (v5 + 1)))]) (st := []) (by decide) ok_X7_48 rfl rfl (Nat.le_of_ble_eq_true rfl) dX7_canBe_55 h (fun r3 s4 hv h => ?_)
      refine r_aload_n dX7_canBe_58 rfl rfl ?_
      refine gf_X7_9 rfl dX7_canBe_59 ?_
      refine r_iload_n dX7_canBe_62 rfl ?_
      obtain ⟨hb, h⟩ := h
      refine r_iald (n := 6) rfl (by decide) dX7_canBe_63 hb ?_
      refine r_icmp_eq (tgt := 69) dX7_canBe_64 (by decide) (fun hc => ?_) (fun hc => ?_)
      · have h := h.1 hc
        refine r_iinc (ls2 := [(16, 87), (18, v1), (17, 2), (0, v3), (0, v4), (0, (w32 (v5 + 3)))]) dX7_canBe_69 rfl (by decide) rfl ?_
        refine r_goto (tgt := 30) dX7_canBe_72 (by decide) ?_
        exact h
      · have h := h.2 hc
        refine r_iconst dX7_canBe_67 (by decide) ?_
        exact r_zret dX7_canBe_68 rfl (by decide) h
set_option maxRecDepth 20000 in
theorem S_X7_canBe {g : GT} {e : Nat} {Q : Int → Sg → Prop} {s : Sg} {v1 : Int} {v3 : Int} (h : (gr g v1 ∧ tg v1 = 18) → inR v3 → ((0 ≤ v3 ∧ v3 < 6) ∧ ∀ s1, s1 = ups s 88 v3 0 → P_X7_canBe_10 g e Q s1 v1 v3 1)) : Mw g (e + 1) M_X7_canBe [(16, 87), (18, v1), (17, 2), (0, v3)] s Q := by
  refine Mw.of (ls := [(16, 87), (18, v1), (17, 2), (0, v3), (9, 0), (9, 0)]) pn_X7_canBe (Nat.le_of_ble_eq_true rfl) rfl (fun hv => ?_)
  have h := h (vld_o (by decide) (hv _ (List.Mem.tail _ (List.Mem.head _)))) (hv _ (List.Mem.tail _ (List.Mem.tail _ (List.Mem.tail _ (List.Mem.head _)))))
  refine r_aload_n dX7_canBe_0 rfl rfl ?_
  refine gf_X7_9 rfl dX7_canBe_1 ?_
  refine r_iload_n dX7_canBe_4 rfl ?_
  refine r_iconst dX7_canBe_5 (by decide) ?_
  obtain ⟨hb, h⟩ := h
  refine r_iast (n := 6) rfl (by decide) dX7_canBe_6 hb ?_
  have h := h _ rfl
  generalize hs_s1 : ups s 88 v3 0 = s1 at h ⊢
  refine r_iconst dX7_canBe_7 (by decide) ?_
  refine r_istore (ls2 := [(16, 87), (18, v1), (17, 2), (0, v3), (0, 1), (9, 0)]) dX7_canBe_8 (by decide) rfl ?_
  exact h
abbrev P_X7_take_47 (g : GT) (e : Nat) (Q : Int → Sg → Prop) (s : Sg) (v1 : Int) (v3 : Int) (v4 : Int) (v5 : Int) : Prop := Wp g (e + 1) M_X7_take Q 47 [(16, 87), (18, v1), (17, 2), (0, v3), (0, v4), (0, v5), (9, 0)] [] s
abbrev P_X7_take_100 (g : GT) (e : Nat) (Q : Int → Sg → Prop) (s : Sg) (v1 : Int) (v5 : Int) : Prop := Wp g (e + 1) M_X7_take Q 100 [(16, 87), (18, v1), (17, 2), (9, 0), (9, 0), (0, v5), (9, 0)] [] s
set_option maxRecDepth 20000 in
theorem S_X7_take_47 {g : GT} {e : Nat} {Q : Int → Sg → Prop} {s : Sg} {v1 : Int} {v3 : Int} {v4 : Int} {v5 : Int} (h : ((v4 ≤ v5 → (∀ s1, s1 = ups s 87 1 v3 → (∀ s2, s2 = ups s1 87 0 0 → P_X7_take_100 g e Q s2 v1 0))) ∧ (¬ v4 ≤ v5 → (Mw g e M_X8_byteAt [(17, 2), (0, (w32 (v5 * 3)))] s (fun r3 s4 => ((r3 < 1 → Q 0 s4) ∧ (¬ r3 < 1 → (Mw g e M_X9_span [(18, v1)] s4 (fun r5 s6 => ((r3 ≤ r5 → P_X7_take_47 g e Q s6 v1 v3 v4 (w32 (v5 + 1))) ∧ (¬ r3 ≤ r5 → Q 0 s6))))))))))) : P_X7_take_47 g e Q s v1 v3 v4 v5 := by
  refine r_iload dX7_take_47 rfl ?_
  refine r_iload dX7_take_49 rfl ?_
  refine r_icmp_ge (tgt := 87) dX7_take_51 (by decide) (fun hc => ?_) (fun hc => ?_)
  · have h := h.1 hc
    refine r_aload_n dX7_take_87 rfl rfl ?_
    refine r_iload_n dX7_take_88 rfl ?_
    refine pf_X7_25 rfl dX7_take_89 ?_
    have h := h _ rfl
    generalize hs_s1 : ups s 87 1 v3 = s1 at h ⊢
    refine r_aload_n dX7_take_92 rfl rfl ?_
    refine r_iconst dX7_take_93 (by decide) ?_
    refine pf_X7_21 rfl dX7_take_94 ?_
    have h := h _ rfl
    generalize hs_s2 : ups s1 87 0 0 = s2 at h ⊢
    refine r_iconst dX7_take_97 (by decide) ?_
    refine r_istore (ls2 := [(16, 87), (18, v1), (17, 2), (0, v3), (0, v4), (0, 0), (9, 0)]) dX7_take_98 (by decide) rfl ?_
    exact r_fgt [true, true, true, false, false, true, false] rfl h
  · have h := h.2 hc
    refine r_aload_n dX7_take_54 rfl rfl ?_
    refine r_iload dX7_take_55 rfl ?_
    refine r_iconst dX7_take_57 (by decide) ?_
    refine r_imul dX7_take_58 ?_
    refine r_callV (ci := 7) (As := [(0, (w32 (v5 * 3)))]) (st := []) (by decide) ok_X7_33 rfl rfl (Nat.le_of_ble_eq_true rfl) dX7_take_59 h (fun r3 s4 hv h => ?_)
    refine r_istore (ls2 := [(16, 87), (18, v1), (17, 2), (0, v3), (0, v4), (0, v5), (0, r3)]) dX7_take_62 (by decide) rfl ?_
    refine r_iload dX7_take_64 rfl ?_
    refine r_iconst dX7_take_66 (by decide) ?_
    refine r_icmp_lt (tgt := 79) dX7_take_67 (by decide) (fun hc => ?_) (fun hc => ?_)
    · have h := h.1 hc
      refine r_iconst dX7_take_79 (by decide) ?_
      exact r_zret dX7_take_80 rfl (by decide) h
    · have h := h.2 hc
      refine r_iload dX7_take_70 rfl ?_
      refine r_aload_n dX7_take_72 rfl rfl ?_
      refine r_callV (ci := 8) (As := []) (st := [(0, r3)]) (by decide) ok_X7_37 rfl rfl (Nat.le_of_ble_eq_true rfl) dX7_take_73 h (fun r5 s6 hv h => ?_)
      refine r_icmp_le (tgt := 81) dX7_take_76 (by decide) (fun hc => ?_) (fun hc => ?_)
      · have h := h.1 hc
        refine r_iinc (ls2 := [(16, 87), (18, v1), (17, 2), (0, v3), (0, v4), (0, (w32 (v5 + 1))), (0, r3)]) dX7_take_81 rfl (by decide) rfl ?_
        refine r_goto (tgt := 47) dX7_take_84 (by decide) ?_
        exact r_fgt [true, true, true, true, true, true, false] rfl h
      · have h := h.2 hc
        refine r_iconst dX7_take_79 (by decide) ?_
        exact r_zret dX7_take_80 rfl (by decide) h
set_option maxRecDepth 20000 in
theorem S_X7_take_100 {g : GT} {e : Nat} {Q : Int → Sg → Prop} {s : Sg} {v1 : Int} {v5 : Int} (h : (Mw g e M_X9_homeCount [(18, v1)] s (fun r1 s2 => ((r1 ≤ v5 → Q 1 s2) ∧ (¬ r1 ≤ v5 → (Mw g e M_X7_canBe [(16, 87), (18, v1), (17, 2), (0, v5)] s2 (fun r3 s4 => ((r3 = 0 → (∀ s5, s5 = ups s4 87 0 (bOr (s2 87 0) 0) → P_X7_take_100 g e Q s5 v1 (w32 (v5 + 1)))) ∧ (¬ r3 = 0 → (∀ s6, s6 = ups s4 87 0 (bOr (s2 87 0) (bShl 1 v5)) → P_X7_take_100 g e Q s6 v1 (w32 (v5 + 1)))))))))))) : P_X7_take_100 g e Q s v1 v5 := by
  refine r_iload dX7_take_100 rfl ?_
  refine r_aload_n dX7_take_102 rfl rfl ?_
  refine r_callV (ci := 8) (As := []) (st := [(0, v5)]) (by decide) ok_X7_15 rfl rfl (Nat.le_of_ble_eq_true rfl) dX7_take_103 h (fun r1 s2 hv h => ?_)
  refine r_icmp_ge (tgt := 143) dX7_take_106 (by decide) (fun hc => ?_) (fun hc => ?_)
  · have h := h.1 hc
    refine r_iconst dX7_take_143 (by decide) ?_
    exact r_zret dX7_take_144 rfl (by decide) h
  · have h := h.2 hc
    refine r_aload_n dX7_take_109 rfl rfl ?_
    refine r_dup dX7_take_110 (show (16 : Nat) ≠ 2 by decide) ?_
    refine gf_X7_21 rfl dX7_take_111 ?_
    refine r_aload_n dX7_take_114 rfl rfl ?_
    refine r_aload_n dX7_take_115 rfl rfl ?_
    refine r_aload_n dX7_take_116 rfl rfl ?_
    refine r_iload dX7_take_117 rfl ?_
    refine r_callV (ci := 6) (As := [(18, v1), (17, 2), (0, v5)]) (st := [(0, (s2 87 0)), (16, 87)]) (by decide) ok_X7_40 rfl rfl (Nat.le_of_ble_eq_true rfl) dX7_take_119 h (fun r3 s4 hv h => ?_)
    refine r_if_eq (tgt := 132) dX7_take_122 (by decide) (fun hc => ?_) (fun hc => ?_)
    · have h := h.1 hc
      refine r_iconst dX7_take_132 (by decide) ?_
      refine r_ior dX7_take_133 ?_
      refine pf_X7_21 rfl dX7_take_134 ?_
      have h := h _ rfl
      generalize hs_s5 : ups s4 87 0 (bOr (s2 87 0) 0) = s5 at h ⊢
      refine r_iinc (ls2 := [(16, 87), (18, v1), (17, 2), (9, 0), (9, 0), (0, (w32 (v5 + 1))), (9, 0)]) dX7_take_137 rfl (by decide) rfl ?_
      refine r_goto (tgt := 100) dX7_take_140 (by decide) ?_
      exact h
    · have h := h.2 hc
      refine r_iconst dX7_take_125 (by decide) ?_
      refine r_iload dX7_take_126 rfl ?_
      refine r_ishl dX7_take_128 ?_
      refine r_goto (tgt := 133) dX7_take_129 (by decide) ?_
      refine r_ior dX7_take_133 ?_
      refine pf_X7_21 rfl dX7_take_134 ?_
      have h := h _ rfl
      generalize hs_s6 : ups s4 87 0 (bOr (s2 87 0) (bShl 1 v5)) = s6 at h ⊢
      refine r_iinc (ls2 := [(16, 87), (18, v1), (17, 2), (9, 0), (9, 0), (0, (w32 (v5 + 1))), (9, 0)]) dX7_take_137 rfl (by decide) rfl ?_
      refine r_goto (tgt := 100) dX7_take_140 (by decide) ?_
      exact h
set_option maxRecDepth 20000 in
theorem S_X7_take {g : GT} {e : Nat} {Q : Int → Sg → Prop} {s : Sg} {v1 : Int} {v3 : Int} (h : (gr g v1 ∧ tg v1 = 18) → inR v3 → ((¬ (Int.tmod (s 2 1) 3) = 0 → Q 0 s) ∧ ((Int.tmod (s 2 1) 3) = 0 → (((w32 (Int.tdiv (s 2 1) 3)) < 1 → Q 0 s) ∧ (¬ (w32 (Int.tdiv (s 2 1) 3)) < 1 → (((w32 (Int.tdiv (s 2 1) 3)) ≤ 16 → ((v3 < 0 → Q 0 s) ∧ (¬ v3 < 0 → ((v3 ≤ 99 → P_X7_take_47 g e Q s v1 v3 (w32 (Int.tdiv (s 2 1) 3)) 0) ∧ (¬ v3 ≤ 99 → Q 0 s))))) ∧ (¬ (w32 (Int.tdiv (s 2 1) 3)) ≤ 16 → Q 0 s))))))) : Mw g (e + 1) M_X7_take [(16, 87), (18, v1), (17, 2), (0, v3)] s Q := by
  refine Mw.of (ls := [(16, 87), (18, v1), (17, 2), (0, v3), (9, 0), (9, 0), (9, 0)]) pn_X7_take (Nat.le_of_ble_eq_true rfl) rfl (fun hv => ?_)
  have h := h (vld_o (by decide) (hv _ (List.Mem.tail _ (List.Mem.head _)))) (hv _ (List.Mem.tail _ (List.Mem.tail _ (List.Mem.tail _ (List.Mem.head _)))))
  refine r_aload_n dX7_take_0 rfl rfl ?_
  refine gf_X7_28 rfl dX7_take_1 ?_
  refine r_iconst dX7_take_4 (by decide) ?_
  refine r_idiv dX7_take_5 (by decide) ?_
  refine r_istore (ls2 := [(16, 87), (18, v1), (17, 2), (0, v3), (0, (w32 (Int.tdiv (s 2 1) 3))), (9, 0), (9, 0)]) dX7_take_6 (by decide) rfl ?_
  refine r_aload_n dX7_take_8 rfl rfl ?_
  refine gf_X7_28 rfl dX7_take_9 ?_
  refine r_iconst dX7_take_12 (by decide) ?_
  refine r_irem dX7_take_13 (by decide) ?_
  refine r_if_ne (tgt := 30) dX7_take_14 (by decide) (fun hc => ?_) (fun hc => ?_)
  · have h := h.1 hc
    refine r_iconst dX7_take_30 (by decide) ?_
    exact r_zret dX7_take_31 rfl (by decide) h
  · have h := h.2 hc
    refine r_iload dX7_take_17 rfl ?_
    refine r_iconst dX7_take_19 (by decide) ?_
    refine r_icmp_lt (tgt := 30) dX7_take_20 (by decide) (fun hc => ?_) (fun hc => ?_)
    · have h := h.1 hc
      refine r_iconst dX7_take_30 (by decide) ?_
      exact r_zret dX7_take_31 rfl (by decide) h
    · have h := h.2 hc
      refine r_iload dX7_take_23 rfl ?_
      refine r_bipush dX7_take_25 (by decide) rfl ?_
      refine r_icmp_le (tgt := 32) dX7_take_27 (by decide) (fun hc => ?_) (fun hc => ?_)
      · have h := h.1 hc
        refine r_iload_n dX7_take_32 rfl ?_
        refine r_if_lt (tgt := 42) dX7_take_33 (by decide) (fun hc => ?_) (fun hc => ?_)
        · have h := h.1 hc
          refine r_iconst dX7_take_42 (by decide) ?_
          exact r_zret dX7_take_43 rfl (by decide) h
        · have h := h.2 hc
          refine r_iload_n dX7_take_36 rfl ?_
          refine r_bipush dX7_take_37 (by decide) rfl ?_
          refine r_icmp_le (tgt := 44) dX7_take_39 (by decide) (fun hc => ?_) (fun hc => ?_)
          · have h := h.1 hc
            refine r_iconst dX7_take_44 (by decide) ?_
            refine r_istore (ls2 := [(16, 87), (18, v1), (17, 2), (0, v3), (0, (w32 (Int.tdiv (s 2 1) 3))), (0, 0), (9, 0)]) dX7_take_45 (by decide) rfl ?_
            exact h
          · have h := h.2 hc
            refine r_iconst dX7_take_42 (by decide) ?_
            exact r_zret dX7_take_43 rfl (by decide) h
      · have h := h.2 hc
        refine r_iconst dX7_take_30 (by decide) ?_
        exact r_zret dX7_take_31 rfl (by decide) h
abbrev P_X7_mostAlike_4 (g : GT) (e : Nat) (Q : Int → Sg → Prop) (s : Sg) (v1 : Int) (v2 : Int) : Prop := Wp g (e + 1) M_X7_mostAlike Q 4 [(16, 87), (0, v1), (0, v2), (9, 0), (9, 0), (9, 0)] [] s
abbrev P_X7_mostAlike_15 (g : GT) (e : Nat) (Q : Int → Sg → Prop) (s : Sg) (v1 : Int) (v2 : Int) (v3 : Int) (v4 : Int) : Prop := Wp g (e + 1) M_X7_mostAlike Q 15 [(16, 87), (0, v1), (0, v2), (0, v3), (0, v4), (9, 0)] [] s
abbrev P_X7_mostAlike_49 (g : GT) (e : Nat) (Q : Int → Sg → Prop) (s : Sg) (v1 : Int) (v2 : Int) (v3 : Int) (v4 : Int) : Prop := Wp g (e + 1) M_X7_mostAlike Q 49 [(16, 87), (0, v1), (0, v2), (0, v3), (0, v4), (9, 0)] [] s
abbrev P_X7_mostAlike_50 (g : GT) (e : Nat) (Q : Int → Sg → Prop) (s : Sg) (v1 : Int) (v2 : Int) (v3 : Int) (v4 : Int) (x0 : Int) : Prop := Wp g (e + 1) M_X7_mostAlike Q 50 [(16, 87), (0, v1), (0, v2), (0, v3), (0, v4), (9, 0)] [(0, x0)] s
set_option maxRecDepth 20000 in
theorem S_X7_mostAlike_4 {g : GT} {e : Nat} {Q : Int → Sg → Prop} {s : Sg} {v1 : Int} {v2 : Int} (h : ((6 ≤ v2 → Q v1 s) ∧ (¬ 6 ≤ v2 → P_X7_mostAlike_15 g e Q s v1 v2 0 0))) : P_X7_mostAlike_4 g e Q s v1 v2 := by
  refine r_iload_n dX7_mostAlike_4 rfl ?_
  refine r_bipush dX7_mostAlike_5 (by decide) rfl ?_
  refine r_icmp_ge (tgt := 99) dX7_mostAlike_7 (by decide) (fun hc => ?_) (fun hc => ?_)
  · have h := h.1 hc
    refine r_iload_n dX7_mostAlike_99 rfl ?_
    exact r_iret dX7_mostAlike_100 rfl h
  · have h := h.2 hc
    refine r_iconst dX7_mostAlike_10 (by decide) ?_
    refine r_istore_n (ls2 := [(16, 87), (0, v1), (0, v2), (0, 0), (9, 0), (9, 0)]) dX7_mostAlike_11 (by decide) rfl ?_
    refine r_iconst dX7_mostAlike_12 (by decide) ?_
    refine r_istore (ls2 := [(16, 87), (0, v1), (0, v2), (0, 0), (0, 0), (9, 0)]) dX7_mostAlike_13 (by decide) rfl ?_
    exact h
set_option maxRecDepth 20000 in
theorem S_X7_mostAlike_15 {g : GT} {e : Nat} {Q : Int → Sg → Prop} {s : Sg} {v1 : Int} {v2 : Int} {v3 : Int} {v4 : Int} (h : ((6 ≤ v4 → P_X7_mostAlike_4 g e Q s (max v1 v3) (w32 (v2 + 1))) ∧ (¬ 6 ≤ v4 → (((bAnd (s 87 0) (bShl 1 v2)) = 0 → P_X7_mostAlike_49 g e Q s v1 v2 v3 v4) ∧ (¬ (bAnd (s 87 0) (bShl 1 v2)) = 0 → (((bAnd (s 87 0) (bShl 1 v4)) = 0 → P_X7_mostAlike_49 g e Q s v1 v2 v3 v4) ∧ (¬ (bAnd (s 87 0) (bShl 1 v4)) = 0 → P_X7_mostAlike_50 g e Q s v1 v2 v3 v4 1))))))) : P_X7_mostAlike_15 g e Q s v1 v2 v3 v4 := by
  refine r_iload dX7_mostAlike_15 rfl ?_
  refine r_bipush dX7_mostAlike_17 (by decide) rfl ?_
  refine r_icmp_ge (tgt := 87) dX7_mostAlike_19 (by decide) (fun hc => ?_) (fun hc => ?_)
  · have h := h.1 hc
    refine r_iload_n dX7_mostAlike_87 rfl ?_
    refine r_iload_n dX7_mostAlike_88 rfl ?_
    refine r_maxI lm_X7_67 (Nat.le_of_ble_eq_true rfl) dX7_mostAlike_89 ?_
    refine r_istore_n (ls2 := [(16, 87), (0, (max v1 v3)), (0, v2), (0, v3), (0, v4), (9, 0)]) dX7_mostAlike_92 (by decide) rfl ?_
    refine r_iinc (ls2 := [(16, 87), (0, (max v1 v3)), (0, (w32 (v2 + 1))), (0, v3), (0, v4), (9, 0)]) dX7_mostAlike_93 rfl (by decide) rfl ?_
    refine r_goto (tgt := 4) dX7_mostAlike_96 (by decide) ?_
    exact r_fgt [true, true, true, false, false, false] rfl h
  · have h := h.2 hc
    refine r_aload_n dX7_mostAlike_22 rfl rfl ?_
    refine gf_X7_21 rfl dX7_mostAlike_23 ?_
    refine r_iconst dX7_mostAlike_26 (by decide) ?_
    refine r_iload_n dX7_mostAlike_27 rfl ?_
    refine r_ishl dX7_mostAlike_28 ?_
    refine r_iand dX7_mostAlike_29 ?_
    refine r_if_eq (tgt := 49) dX7_mostAlike_30 (by decide) (fun hc => ?_) (fun hc => ?_)
    · have h := h.1 hc
      exact h
    · have h := h.2 hc
      refine r_aload_n dX7_mostAlike_33 rfl rfl ?_
      refine gf_X7_21 rfl dX7_mostAlike_34 ?_
      refine r_iconst dX7_mostAlike_37 (by decide) ?_
      refine r_iload dX7_mostAlike_38 rfl ?_
      refine r_ishl dX7_mostAlike_40 ?_
      refine r_iand dX7_mostAlike_41 ?_
      refine r_if_eq (tgt := 49) dX7_mostAlike_42 (by decide) (fun hc => ?_) (fun hc => ?_)
      · have h := h.1 hc
        exact h
      · have h := h.2 hc
        refine r_iconst dX7_mostAlike_45 (by decide) ?_
        refine r_goto (tgt := 50) dX7_mostAlike_46 (by decide) ?_
        exact h
set_option maxRecDepth 20000 in
theorem S_X7_mostAlike_49 {g : GT} {e : Nat} {Q : Int → Sg → Prop} {s : Sg} {v1 : Int} {v2 : Int} {v3 : Int} {v4 : Int} (h : P_X7_mostAlike_50 g e Q s v1 v2 v3 v4 0) : P_X7_mostAlike_49 g e Q s v1 v2 v3 v4 := by
  refine r_iconst dX7_mostAlike_49 (by decide) ?_
  exact h
set_option maxRecDepth 20000 in
theorem S_X7_mostAlike_50 {g : GT} {e : Nat} {Q : Int → Sg → Prop} {s : Sg} {v1 : Int} {v2 : Int} {v3 : Int} {v4 : Int} {x0 : Int} (h : ((x0 = 0 → P_X7_mostAlike_15 g e Q s v1 v2 (w32 (v3 + 0)) (w32 (v4 + 1))) ∧ (¬ x0 = 0 → ((0 ≤ v2 ∧ v2 < 6) ∧ ((0 ≤ v4 ∧ v4 < 6) ∧ ((¬ (s 88 v2) = (s 88 v4) → P_X7_mostAlike_15 g e Q s v1 v2 (w32 (v3 + 0)) (w32 (v4 + 1))) ∧ ((s 88 v2) = (s 88 v4) → P_X7_mostAlike_15 g e Q s v1 v2 (w32 (v3 + 1)) (w32 (v4 + 1))))))))) : P_X7_mostAlike_50 g e Q s v1 v2 v3 v4 x0 := by
  refine r_istore (ls2 := [(16, 87), (0, v1), (0, v2), (0, v3), (0, v4), (0, x0)]) dX7_mostAlike_50 (by decide) rfl ?_
  refine r_iload_n dX7_mostAlike_52 rfl ?_
  refine r_iload dX7_mostAlike_53 rfl ?_
  refine r_if_eq (tgt := 78) dX7_mostAlike_55 (by decide) (fun hc => ?_) (fun hc => ?_)
  · have h := h.1 hc
    refine r_iconst dX7_mostAlike_78 (by decide) ?_
    refine r_iadd dX7_mostAlike_79 ?_
    refine r_istore_n (ls2 := [(16, 87), (0, v1), (0, v2), (0, (w32 (v3 + 0))), (0, v4), (0, x0)]) dX7_mostAlike_80 (by decide) rfl ?_
    refine r_iinc (ls2 := [(16, 87), (0, v1), (0, v2), (0, (w32 (v3 + 0))), (0, (w32 (v4 + 1))), (0, x0)]) dX7_mostAlike_81 rfl (by decide) rfl ?_
    refine r_goto (tgt := 15) dX7_mostAlike_84 (by decide) ?_
    exact r_fgt [true, true, true, true, true, false] rfl h
  · have h := h.2 hc
    refine r_aload_n dX7_mostAlike_58 rfl rfl ?_
    refine gf_X7_9 rfl dX7_mostAlike_59 ?_
    refine r_iload_n dX7_mostAlike_62 rfl ?_
    obtain ⟨hb, h⟩ := h
    refine r_iald (n := 6) rfl (by decide) dX7_mostAlike_63 hb ?_
    refine r_aload_n dX7_mostAlike_64 rfl rfl ?_
    refine gf_X7_9 rfl dX7_mostAlike_65 ?_
    refine r_iload dX7_mostAlike_68 rfl ?_
    obtain ⟨hb, h⟩ := h
    refine r_iald (n := 6) rfl (by decide) dX7_mostAlike_70 hb ?_
    refine r_icmp_ne (tgt := 78) dX7_mostAlike_71 (by decide) (fun hc => ?_) (fun hc => ?_)
    · have h := h.1 hc
      refine r_iconst dX7_mostAlike_78 (by decide) ?_
      refine r_iadd dX7_mostAlike_79 ?_
      refine r_istore_n (ls2 := [(16, 87), (0, v1), (0, v2), (0, (w32 (v3 + 0))), (0, v4), (0, x0)]) dX7_mostAlike_80 (by decide) rfl ?_
      refine r_iinc (ls2 := [(16, 87), (0, v1), (0, v2), (0, (w32 (v3 + 0))), (0, (w32 (v4 + 1))), (0, x0)]) dX7_mostAlike_81 rfl (by decide) rfl ?_
      refine r_goto (tgt := 15) dX7_mostAlike_84 (by decide) ?_
      exact r_fgt [true, true, true, true, true, false] rfl h
    · have h := h.2 hc
      refine r_iconst dX7_mostAlike_74 (by decide) ?_
      refine r_goto (tgt := 79) dX7_mostAlike_75 (by decide) ?_
      refine r_iadd dX7_mostAlike_79 ?_
      refine r_istore_n (ls2 := [(16, 87), (0, v1), (0, v2), (0, (w32 (v3 + 1))), (0, v4), (0, x0)]) dX7_mostAlike_80 (by decide) rfl ?_
      refine r_iinc (ls2 := [(16, 87), (0, v1), (0, v2), (0, (w32 (v3 + 1))), (0, (w32 (v4 + 1))), (0, x0)]) dX7_mostAlike_81 rfl (by decide) rfl ?_
      refine r_goto (tgt := 15) dX7_mostAlike_84 (by decide) ?_
      exact r_fgt [true, true, true, true, true, false] rfl h
set_option maxRecDepth 20000 in
theorem S_X7_mostAlike {g : GT} {e : Nat} {Q : Int → Sg → Prop} {s : Sg} (h : P_X7_mostAlike_4 g e Q s 0 0) : Mw g (e + 1) M_X7_mostAlike [(16, 87)] s Q := by
  refine Mw.of (ls := [(16, 87), (9, 0), (9, 0), (9, 0), (9, 0), (9, 0)]) pn_X7_mostAlike (Nat.le_of_ble_eq_true rfl) rfl (fun hv => ?_)
  refine r_iconst dX7_mostAlike_0 (by decide) ?_
  refine r_istore_n (ls2 := [(16, 87), (0, 0), (9, 0), (9, 0), (9, 0), (9, 0)]) dX7_mostAlike_1 (by decide) rfl ?_
  refine r_iconst dX7_mostAlike_2 (by decide) ?_
  refine r_istore_n (ls2 := [(16, 87), (0, 0), (0, 0), (9, 0), (9, 0), (9, 0)]) dX7_mostAlike_3 (by decide) rfl ?_
  exact h
abbrev P_X7_telling_25 (g : GT) (e : Nat) (Q : Int → Sg → Prop) (s : Sg) (v1 : Int) (v2 : Int) (v3 : Int) (v4 : Int) : Prop := Wp g (e + 1) M_X7_telling Q 25 [(16, 87), (18, v1), (0, v2), (0, v3), (0, v4), (9, 0)] [] s
abbrev P_X7_telling_37 (g : GT) (e : Nat) (Q : Int → Sg → Prop) (s : Sg) (v1 : Int) (v2 : Int) (v3 : Int) (v4 : Int) (v5 : Int) : Prop := Wp g (e + 1) M_X7_telling Q 37 [(16, 87), (18, v1), (0, v2), (0, v3), (0, v4), (0, v5)] [] s
set_option maxRecDepth 20000 in
theorem S_X7_telling_25 {g : GT} {e : Nat} {Q : Int → Sg → Prop} {s : Sg} {v1 : Int} {v2 : Int} {v3 : Int} {v4 : Int} (h : (Mw g e M_X9_span [(18, v1)] s (fun r1 s2 => ((r1 < v4 → Q v2 s2) ∧ (¬ r1 < v4 → P_X7_telling_37 g e Q s2 v1 v2 v3 v4 0))))) : P_X7_telling_25 g e Q s v1 v2 v3 v4 := by
  refine r_iload dX7_telling_25 rfl ?_
  refine r_aload_n dX7_telling_27 rfl rfl ?_
  refine r_callV (ci := 8) (As := []) (st := [(0, v4)]) (by decide) ok_X7_37 rfl rfl (Nat.le_of_ble_eq_true rfl) dX7_telling_28 h (fun r1 s2 hv h => ?_)
  refine r_icmp_gt (tgt := 85) dX7_telling_31 (by decide) (fun hc => ?_) (fun hc => ?_)
  · have h := h.1 hc
    refine r_iload_n dX7_telling_85 rfl ?_
    exact r_iret dX7_telling_86 rfl h
  · have h := h.2 hc
    refine r_iconst dX7_telling_34 (by decide) ?_
    refine r_istore (ls2 := [(16, 87), (18, v1), (0, v2), (0, v3), (0, v4), (0, 0)]) dX7_telling_35 (by decide) rfl ?_
    exact h
set_option maxRecDepth 20000 in
theorem S_X7_telling_37 {g : GT} {e : Nat} {Q : Int → Sg → Prop} {s : Sg} {v1 : Int} {v2 : Int} {v3 : Int} {v4 : Int} {v5 : Int} (h : (Mw g e M_X9_homeCount [(18, v1)] s (fun r1 s2 => ((r1 ≤ v5 → (Mw g e M_X7_mostAlike [(16, 87)] s2 (fun r3 s4 => ((v3 ≤ r3 → P_X7_telling_25 g e Q s4 v1 v2 v3 (w32 (v4 + 1))) ∧ (¬ v3 ≤ r3 → P_X7_telling_25 g e Q s4 v1 v4 r3 (w32 (v4 + 1))))))) ∧ (¬ r1 ≤ v5 → (Mw g e M_X7_raise [(16, 87), (18, v1), (0, v5), (0, v4)] s2 (fun _ s6 => P_X7_telling_37 g e Q s6 v1 v2 v3 v4 (w32 (v5 + 1))))))))) : P_X7_telling_37 g e Q s v1 v2 v3 v4 v5 := by
  refine r_iload dX7_telling_37 rfl ?_
  refine r_aload_n dX7_telling_39 rfl rfl ?_
  refine r_callV (ci := 8) (As := []) (st := [(0, v5)]) (by decide) ok_X7_15 rfl rfl (Nat.le_of_ble_eq_true rfl) dX7_telling_40 h (fun r1 s2 hv h => ?_)
  refine r_icmp_ge (tgt := 61) dX7_telling_43 (by decide) (fun hc => ?_) (fun hc => ?_)
  · have h := h.1 hc
    refine r_aload_n dX7_telling_61 rfl rfl ?_
    refine r_callV (ci := 6) (As := []) (st := []) (by decide) ok_X7_64 rfl rfl (Nat.le_of_ble_eq_true rfl) dX7_telling_62 h (fun r3 s4 hv h => ?_)
    refine r_istore (ls2 := [(16, 87), (18, v1), (0, v2), (0, v3), (0, v4), (0, r3)]) dX7_telling_65 (by decide) rfl ?_
    refine r_iload dX7_telling_67 rfl ?_
    refine r_iload_n dX7_telling_69 rfl ?_
    refine r_icmp_ge (tgt := 79) dX7_telling_70 (by decide) (fun hc => ?_) (fun hc => ?_)
    · have h := h.1 hc
      refine r_iinc (ls2 := [(16, 87), (18, v1), (0, v2), (0, v3), (0, (w32 (v4 + 1))), (0, r3)]) dX7_telling_79 rfl (by decide) rfl ?_
      refine r_goto (tgt := 25) dX7_telling_82 (by decide) ?_
      exact r_fgt [true, true, true, true, true, false] rfl h
    · have h := h.2 hc
      refine r_iload dX7_telling_73 rfl ?_
      refine r_istore_n (ls2 := [(16, 87), (18, v1), (0, v2), (0, r3), (0, v4), (0, r3)]) dX7_telling_75 (by decide) rfl ?_
      refine r_iload dX7_telling_76 rfl ?_
      refine r_istore_n (ls2 := [(16, 87), (18, v1), (0, v4), (0, r3), (0, v4), (0, r3)]) dX7_telling_78 (by decide) rfl ?_
      refine r_iinc (ls2 := [(16, 87), (18, v1), (0, v4), (0, r3), (0, (w32 (v4 + 1))), (0, r3)]) dX7_telling_79 rfl (by decide) rfl ?_
      refine r_goto (tgt := 25) dX7_telling_82 (by decide) ?_
      exact r_fgt [true, true, true, true, true, false] rfl h
  · have h := h.2 hc
    refine r_aload_n dX7_telling_46 rfl rfl ?_
    refine r_aload_n dX7_telling_47 rfl rfl ?_
    refine r_iload dX7_telling_48 rfl ?_
    refine r_iload dX7_telling_50 rfl ?_
    refine r_callV (ci := 6) (As := [(18, v1), (0, v5), (0, v4)]) (st := []) (by decide) ok_X7_44 rfl rfl (Nat.le_of_ble_eq_true rfl) dX7_telling_52 h (fun r5 s6 hv h => ?_)
    refine r_iinc (ls2 := [(16, 87), (18, v1), (0, v2), (0, v3), (0, v4), (0, (w32 (v5 + 1)))]) dX7_telling_55 rfl (by decide) rfl ?_
    refine r_goto (tgt := 37) dX7_telling_58 (by decide) ?_
    exact h
set_option maxRecDepth 20000 in
theorem S_X7_telling {g : GT} {e : Nat} {Q : Int → Sg → Prop} {s : Sg} {v1 : Int} (h : (gr g v1 ∧ tg v1 = 18) → ((¬ (s 87 0) = 0 → (Mw g e M_J7_fill_53178 [(34, 88), (0, 0)] s (fun _ s2 => P_X7_telling_25 g e Q s2 v1 (-1) 7 1))) ∧ ((s 87 0) = 0 → Q (-1) s))) : Mw g (e + 1) M_X7_telling [(16, 87), (18, v1)] s Q := by
  refine Mw.of (ls := [(16, 87), (18, v1), (9, 0), (9, 0), (9, 0), (9, 0)]) pn_X7_telling (Nat.le_of_ble_eq_true rfl) rfl (fun hv => ?_)
  have h := h (vld_o (by decide) (hv _ (List.Mem.tail _ (List.Mem.head _))))
  refine r_aload_n dX7_telling_0 rfl rfl ?_
  refine gf_X7_21 rfl dX7_telling_1 ?_
  refine r_if_ne (tgt := 9) dX7_telling_4 (by decide) (fun hc => ?_) (fun hc => ?_)
  · have h := h.1 hc
    refine r_aload_n dX7_telling_9 rfl rfl ?_
    refine gf_X7_9 rfl dX7_telling_10 ?_
    refine r_iconst dX7_telling_13 (by decide) ?_
    refine r_callS (As := [(34, 88), (0, 0)]) (st := []) ok_X7_58 rfl rfl (Nat.le_of_ble_eq_true rfl) dX7_telling_14 h (fun r1 s2 hv h => ?_)
    refine r_iconst dX7_telling_17 (by decide) ?_
    refine r_istore_n (ls2 := [(16, 87), (18, v1), (0, (-1)), (9, 0), (9, 0), (9, 0)]) dX7_telling_18 (by decide) rfl ?_
    refine r_bipush dX7_telling_19 (by decide) rfl ?_
    refine r_istore_n (ls2 := [(16, 87), (18, v1), (0, (-1)), (0, 7), (9, 0), (9, 0)]) dX7_telling_21 (by decide) rfl ?_
    refine r_iconst dX7_telling_22 (by decide) ?_
    refine r_istore (ls2 := [(16, 87), (18, v1), (0, (-1)), (0, 7), (0, 1), (9, 0)]) dX7_telling_23 (by decide) rfl ?_
    exact h
  · have h := h.2 hc
    refine r_iconst dX7_telling_7 (by decide) ?_
    exact r_iret dX7_telling_8 rfl h
