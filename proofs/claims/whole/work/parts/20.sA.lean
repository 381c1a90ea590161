set_option maxRecDepth 20000 in
theorem S_X2_add {g : GT} {e : Nat} {Q : Int → Sg → Prop} {s : Sg} {th : Int} {v1 : Int} (h : (gr g th ∧ tg th = 11) → inR v1 → ((1600 ≤ (s th 2) → Q 0 s) ∧ (¬ 1600 ≤ (s th 2) → ((0 ≤ (s th 2) ∧ (s th 2) < 1600) ∧ ∀ s1, s1 = ups s (th + 1) (s th 2) v1 → (∀ s2, s2 = ups s1 th 2 (w32 ((s1 th 2) + 1)) → Q 0 s2))))) : Mw g (e + 1) M_X2_add [(11, th), (0, v1)] s Q := by
  refine Mw.of (ls := [(11, th), (0, v1)]) pn_X2_add (Nat.le_of_ble_eq_true rfl) rfl (fun hv => ?_)
  have h := h (vld_o (by decide) (hv _ (List.Mem.head _))) (hv _ (List.Mem.tail _ (List.Mem.head _)))
  refine r_aload_n dX2_add_0 rfl rfl ?_
  refine gf_X2_18 rfl dX2_add_1 ?_
  refine r_aload_n dX2_add_4 rfl rfl ?_
  refine gf_X2_9 rfl dX2_add_5 ?_
  refine r_alen (n := 1600) rfl (by decide) (by decide) dX2_add_8 ?_
  refine r_icmp_ge (tgt := 32) dX2_add_9 (by decide) (fun hc => ?_) (fun hc => ?_)
  · have h := h.1 hc
    exact r_ret dX2_add_32 rfl h
  · have h := h.2 hc
    refine r_aload_n dX2_add_12 rfl rfl ?_
    refine gf_X2_9 rfl dX2_add_13 ?_
    refine r_aload_n dX2_add_16 rfl rfl ?_
    refine gf_X2_18 rfl dX2_add_17 ?_
    refine r_iload_n dX2_add_20 rfl ?_
    obtain ⟨hb, h⟩ := h
    refine r_iast (n := 1600) rfl (by decide) dX2_add_21 hb ?_
    have h := h _ rfl
    generalize hs_s1 : ups s (th + 1) (s th 2) v1 = s1 at h ⊢
    refine r_aload_n dX2_add_22 rfl rfl ?_
    refine r_dup dX2_add_23 (show (11 : Nat) ≠ 2 by decide) ?_
    refine gf_X2_18 rfl dX2_add_24 ?_
    refine r_iconst dX2_add_27 (by decide) ?_
    refine r_iadd dX2_add_28 ?_
    refine pf_X2_18 rfl dX2_add_29 ?_
    have h := h _ rfl
    generalize hs_s2 : ups s1 th 2 (w32 ((s1 th 2) + 1)) = s2 at h ⊢
    exact r_ret dX2_add_32 rfl h
set_option maxRecDepth 20000 in
theorem S_X2_partsOf {g : GT} {e : Nat} {Q : Int → Sg → Prop} {s : Sg} {v0 : Int} (h : inR v0 → ((v0 < 20 → ((¬ v0 = 13 → ((¬ v0 = 14 → Q 2 s) ∧ (v0 = 14 → Q 3 s))) ∧ (v0 = 13 → Q 1 s))) ∧ (¬ v0 < 20 → Q 0 s))) : Mw g (e + 1) M_X2_partsOf [(0, v0)] s Q := by
  refine Mw.of (ls := [(0, v0)]) pn_X2_partsOf (Nat.le_of_ble_eq_true rfl) rfl (fun hv => ?_)
  have h := h (hv _ (List.Mem.head _))
  refine r_iload_n dX2_partsOf_0 rfl ?_
  refine r_bipush dX2_partsOf_1 (by decide) rfl ?_
  refine r_icmp_lt (tgt := 8) dX2_partsOf_3 (by decide) (fun hc => ?_) (fun hc => ?_)
  · have h := h.1 hc
    refine r_iload_n dX2_partsOf_8 rfl ?_
    refine r_bipush dX2_partsOf_9 (by decide) rfl ?_
    refine r_icmp_ne (tgt := 18) dX2_partsOf_11 (by decide) (fun hc => ?_) (fun hc => ?_)
    · have h := h.1 hc
      refine r_iload_n dX2_partsOf_18 rfl ?_
      refine r_bipush dX2_partsOf_19 (by decide) rfl ?_
      refine r_icmp_ne (tgt := 28) dX2_partsOf_21 (by decide) (fun hc => ?_) (fun hc => ?_)
      · have h := h.1 hc
        refine r_iconst dX2_partsOf_28 (by decide) ?_
        exact r_iret dX2_partsOf_29 rfl h
      · have h := h.2 hc
        refine r_iconst dX2_partsOf_24 (by decide) ?_
        refine r_goto (tgt := 29) dX2_partsOf_25 (by decide) ?_
        exact r_iret dX2_partsOf_29 rfl h
    · have h := h.2 hc
      refine r_iconst dX2_partsOf_14 (by decide) ?_
      refine r_goto (tgt := 29) dX2_partsOf_15 (by decide) ?_
      exact r_iret dX2_partsOf_29 rfl h
  · have h := h.2 hc
    refine r_iconst dX2_partsOf_6 (by decide) ?_
    exact r_iret dX2_partsOf_7 rfl h
set_option maxRecDepth 20000 in
theorem S_J9_floorDiv_f86c9 {g : GT} {e : Nat} {Q : Int → Sg → Prop} {s : Sg} {v0 : Int} {v2 : Int} (h : inL v0 → inL v2 → ((¬ v2 = 0) ∧ ((0 ≤ (lCmp (lXor v0 v2) 0) → Q (w64 (Int.tdiv v0 v2)) s) ∧ (¬ 0 ≤ (lCmp (lXor v0 v2) 0) → (((lCmp (w64 ((w64 (Int.tdiv v0 v2)) * v2)) v0) = 0 → Q (w64 (Int.tdiv v0 v2)) s) ∧ (¬ (lCmp (w64 ((w64 (Int.tdiv v0 v2)) * v2)) v0) = 0 → Q (w64 ((w64 (Int.tdiv v0 v2)) - 1)) s)))))) : Mw g (e + 1) M_J9_floorDiv_f86c9 [(2, v0), (2, v2)] s Q := by
  refine Mw.of (ls := [(2, v0), (9, 0), (2, v2), (9, 0), (9, 0), (9, 0)]) pn_J9_floorDiv_f86c9 (Nat.le_of_ble_eq_true rfl) rfl (fun hv => ?_)
  have h := h (hv _ (List.Mem.head _)) (hv _ (List.Mem.tail _ (List.Mem.head _)))
  refine r_lload_n dJ9_floorDiv_f86c9_0 rfl ?_
  refine r_lload_n dJ9_floorDiv_f86c9_1 rfl ?_
  obtain ⟨hz, h⟩ := h
  refine r_ldiv dJ9_floorDiv_f86c9_2 hz ?_
  refine r_lstore (ls2 := [(2, v0), (9, 0), (2, v2), (9, 0), (2, (w64 (Int.tdiv v0 v2))), (9, 0)]) dJ9_floorDiv_f86c9_3 (by decide) rfl ?_
  refine r_lload_n dJ9_floorDiv_f86c9_5 rfl ?_
  refine r_lload_n dJ9_floorDiv_f86c9_6 rfl ?_
  refine r_lxor dJ9_floorDiv_f86c9_7 ?_
  refine r_lconst (v := 0) dJ9_floorDiv_f86c9_8 rfl (by decide) ?_
  refine r_lcmp dJ9_floorDiv_f86c9_9 ?_
  refine r_if_ge (tgt := 27) dJ9_floorDiv_f86c9_10 (by decide) (fun hc => ?_) (fun hc => ?_)
  · have h := h.1 hc
    refine r_lload dJ9_floorDiv_f86c9_27 rfl ?_
    exact r_lret dJ9_floorDiv_f86c9_29 rfl h
  · have h := h.2 hc
    refine r_lload dJ9_floorDiv_f86c9_13 rfl ?_
    refine r_lload_n dJ9_floorDiv_f86c9_15 rfl ?_
    refine r_lmul dJ9_floorDiv_f86c9_16 ?_
    refine r_lload_n dJ9_floorDiv_f86c9_17 rfl ?_
    refine r_lcmp dJ9_floorDiv_f86c9_18 ?_
    refine r_if_eq (tgt := 27) dJ9_floorDiv_f86c9_19 (by decide) (fun hc => ?_) (fun hc => ?_)
    · have h := h.1 hc
      refine r_lload dJ9_floorDiv_f86c9_27 rfl ?_
      exact r_lret dJ9_floorDiv_f86c9_29 rfl h
    · have h := h.2 hc
      refine r_lload dJ9_floorDiv_f86c9_22 rfl ?_
      refine r_lconst (v := 1) dJ9_floorDiv_f86c9_24 rfl (by decide) ?_
      refine r_lsub dJ9_floorDiv_f86c9_25 ?_
      exact r_lret dJ9_floorDiv_f86c9_26 rfl h
set_option maxRecDepth 20000 in
theorem S_J9_floorMod_f86c9 {g : GT} {e : Nat} {Q : Int → Sg → Prop} {s : Sg} {v0 : Int} {v2 : Int} (h : inL v0 → inL v2 → ((¬ v2 = 0) ∧ ((0 ≤ (lCmp (lXor v0 v2) 0) → Q (Int.tmod v0 v2) s) ∧ (¬ 0 ≤ (lCmp (lXor v0 v2) 0) → (((lCmp (Int.tmod v0 v2) 0) = 0 → Q (Int.tmod v0 v2) s) ∧ (¬ (lCmp (Int.tmod v0 v2) 0) = 0 → Q (w64 ((Int.tmod v0 v2) + v2)) s)))))) : Mw g (e + 1) M_J9_floorMod_f86c9 [(2, v0), (2, v2)] s Q := by
  refine Mw.of (ls := [(2, v0), (9, 0), (2, v2), (9, 0), (9, 0), (9, 0)]) pn_J9_floorMod_f86c9 (Nat.le_of_ble_eq_true rfl) rfl (fun hv => ?_)
  have h := h (hv _ (List.Mem.head _)) (hv _ (List.Mem.tail _ (List.Mem.head _)))
  refine r_lload_n dJ9_floorMod_f86c9_0 rfl ?_
  refine r_lload_n dJ9_floorMod_f86c9_1 rfl ?_
  obtain ⟨hz, h⟩ := h
  refine r_lrem dJ9_floorMod_f86c9_2 hz ?_
  refine r_lstore (ls2 := [(2, v0), (9, 0), (2, v2), (9, 0), (2, (Int.tmod v0 v2)), (9, 0)]) dJ9_floorMod_f86c9_3 (by decide) rfl ?_
  refine r_lload_n dJ9_floorMod_f86c9_5 rfl ?_
  refine r_lload_n dJ9_floorMod_f86c9_6 rfl ?_
  refine r_lxor dJ9_floorMod_f86c9_7 ?_
  refine r_lconst (v := 0) dJ9_floorMod_f86c9_8 rfl (by decide) ?_
  refine r_lcmp dJ9_floorMod_f86c9_9 ?_
  refine r_if_ge (tgt := 25) dJ9_floorMod_f86c9_10 (by decide) (fun hc => ?_) (fun hc => ?_)
  · have h := h.1 hc
    refine r_lload dJ9_floorMod_f86c9_25 rfl ?_
    exact r_lret dJ9_floorMod_f86c9_27 rfl h
  · have h := h.2 hc
    refine r_lload dJ9_floorMod_f86c9_13 rfl ?_
    refine r_lconst (v := 0) dJ9_floorMod_f86c9_15 rfl (by decide) ?_
    refine r_lcmp dJ9_floorMod_f86c9_16 ?_
    refine r_if_eq (tgt := 25) dJ9_floorMod_f86c9_17 (by decide) (fun hc => ?_) (fun hc => ?_)
    · have h := h.1 hc
      refine r_lload dJ9_floorMod_f86c9_25 rfl ?_
      exact r_lret dJ9_floorMod_f86c9_27 rfl h
    · have h := h.2 hc
      refine r_lload dJ9_floorMod_f86c9_20 rfl ?_
      refine r_lload_n dJ9_floorMod_f86c9_22 rfl ?_
      refine r_ladd dJ9_floorMod_f86c9_23 ?_
      exact r_lret dJ9_floorMod_f86c9_24 rfl h
set_option maxRecDepth 20000 in
theorem S_X2_pair {g : GT} {e : Nat} {Q : Int → Sg → Prop} {s : Sg} {v0 : Int} {v1 : Int} {v3 : Int} (h : inR v0 → inL v1 → inL v3 → ((v0 = 1 → Q (w64 (v1 + v3)) s) ∧ (v0 = 2 → Q (w64 (v1 - v3)) s) ∧ (v0 = 3 → Q (w64 (v1 * v3)) s) ∧ (v0 = 4 → ((¬ (lCmp v3 0) = 0 → (Mw g e M_J9_floorDiv_f86c9 [(2, v1), (2, v3)] s (fun r1 s2 => Q r1 s2))) ∧ ((lCmp v3 0) = 0 → Q 0 s))) ∧ (v0 = 5 → ((¬ (lCmp v3 0) = 0 → (Mw g e M_J9_floorMod_f86c9 [(2, v1), (2, v3)] s (fun r3 s4 => Q r3 s4))) ∧ ((lCmp v3 0) = 0 → Q 0 s))) ∧ (v0 = 6 → Q (min v1 v3) s) ∧ (v0 = 7 → Q (max v1 v3) s) ∧ (v0 = 8 → ((0 ≤ (lCmp v1 v3) → Q 0 s) ∧ (¬ 0 ≤ (lCmp v1 v3) → Q 1 s))) ∧ (v0 = 9 → (((lCmp v1 v3) ≤ 0 → Q 0 s) ∧ (¬ (lCmp v1 v3) ≤ 0 → Q 1 s))) ∧ (v0 = 10 → ((¬ (lCmp v1 v3) = 0 → Q 0 s) ∧ ((lCmp v1 v3) = 0 → Q 1 s))) ∧ (v0 = 11 → Q (lAnd v1 v3) s) ∧ ((v0 < 1 ∨ 11 < v0) → Q (lOr v1 v3) s))) : Mw g (e + 1) M_X2_pair [(0, v0), (2, v1), (2, v3)] s Q := by
  refine Mw.of (ls := [(0, v0), (2, v1), (9, 0), (2, v3), (9, 0)]) pn_X2_pair (Nat.le_of_ble_eq_true rfl) rfl (fun hv => ?_)
  have h := h (hv _ (List.Mem.head _)) (hv _ (List.Mem.tail _ (List.Mem.head _))) (hv _ (List.Mem.tail _ (List.Mem.tail _ (List.Mem.head _))))
  refine r_iload_n dX2_pair_0 rfl ?_
  obtain ⟨h_0, h_1, h_2, h_3, h_4, h_5, h_6, h_7, h_8, h_9, h_10, h_d⟩ := h
  rcases (show (v0 < 1 ∨ 11 < v0) ∨ v0 = 1 ∨ v0 = 2 ∨ v0 = 3 ∨ v0 = 4 ∨ v0 = 5 ∨ v0 = 6 ∨ v0 = 7 ∨ v0 = 8 ∨ v0 = 9 ∨ v0 = 10 ∨ v0 = 11 by omega) with hk | hk | hk | hk | hk | hk | hk | hk | hk | hk | hk | hk
  · have h := h_d hk
    refine r_tableOut (tgt := 156) dX2_pair_1 hk (by decide) ?_
    refine r_lload_n dX2_pair_156 rfl ?_
    refine r_lload_n dX2_pair_157 rfl ?_
    refine r_lor dX2_pair_158 ?_
    exact r_lret dX2_pair_159 rfl h
  · have h := h_0 hk
    refine r_tableIn (tgt := 60) dX2_pair_1 (by omega) (by omega) (by rw [hk]; rfl) (by decide) ?_
    refine r_lload_n dX2_pair_60 rfl ?_
    refine r_lload_n dX2_pair_61 rfl ?_
    refine r_ladd dX2_pair_62 ?_
    exact r_lret dX2_pair_63 rfl h
  · have h := h_1 hk
    refine r_tableIn (tgt := 64) dX2_pair_1 (by omega) (by omega) (by rw [hk]; rfl) (by decide) ?_
    refine r_lload_n dX2_pair_64 rfl ?_
    refine r_lload_n dX2_pair_65 rfl ?_
    refine r_lsub dX2_pair_66 ?_
    exact r_lret dX2_pair_67 rfl h
  · have h := h_2 hk
    refine r_tableIn (tgt := 68) dX2_pair_1 (by omega) (by omega) (by rw [hk]; rfl) (by decide) ?_
    refine r_lload_n dX2_pair_68 rfl ?_
    refine r_lload_n dX2_pair_69 rfl ?_
    refine r_lmul dX2_pair_70 ?_
    exact r_lret dX2_pair_71 rfl h
  · have h := h_3 hk
    refine r_tableIn (tgt := 72) dX2_pair_1 (by omega) (by omega) (by rw [hk]; rfl) (by decide) ?_
    refine r_lload_n dX2_pair_72 rfl ?_
    refine r_lconst (v := 0) dX2_pair_73 rfl (by decide) ?_
    refine r_lcmp dX2_pair_74 ?_
    refine r_if_ne (tgt := 82) dX2_pair_75 (by decide) (fun hc => ?_) (fun hc => ?_)
    · have h := h.1 hc
      refine r_lload_n dX2_pair_82 rfl ?_
      refine r_lload_n dX2_pair_83 rfl ?_
      refine r_callS (As := [(2, v1), (2, v3)]) (st := []) ok_X2_43 rfl rfl (Nat.le_of_ble_eq_true rfl) dX2_pair_84 h (fun r1 s2 hv h => ?_)
      exact r_lret dX2_pair_87 rfl h
    · have h := h.2 hc
      refine r_lconst (v := 0) dX2_pair_78 rfl (by decide) ?_
      refine r_goto (tgt := 87) dX2_pair_79 (by decide) ?_
      exact r_lret dX2_pair_87 rfl h
  · have h := h_4 hk
    refine r_tableIn (tgt := 88) dX2_pair_1 (by omega) (by omega) (by rw [hk]; rfl) (by decide) ?_
    refine r_lload_n dX2_pair_88 rfl ?_
    refine r_lconst (v := 0) dX2_pair_89 rfl (by decide) ?_
    refine r_lcmp dX2_pair_90 ?_
    refine r_if_ne (tgt := 98) dX2_pair_91 (by decide) (fun hc => ?_) (fun hc => ?_)
    · have h := h.1 hc
      refine r_lload_n dX2_pair_98 rfl ?_
      refine r_lload_n dX2_pair_99 rfl ?_
      refine r_callS (As := [(2, v1), (2, v3)]) (st := []) ok_X2_46 rfl rfl (Nat.le_of_ble_eq_true rfl) dX2_pair_100 h (fun r3 s4 hv h => ?_)
      exact r_lret dX2_pair_103 rfl h
    · have h := h.2 hc
      refine r_lconst (v := 0) dX2_pair_94 rfl (by decide) ?_
      refine r_goto (tgt := 103) dX2_pair_95 (by decide) ?_
      exact r_lret dX2_pair_103 rfl h
  · have h := h_5 hk
    refine r_tableIn (tgt := 104) dX2_pair_1 (by omega) (by omega) (by rw [hk]; rfl) (by decide) ?_
    refine r_lload_n dX2_pair_104 rfl ?_
    refine r_lload_n dX2_pair_105 rfl ?_
    refine r_minL lm_X2_34 (Nat.le_of_ble_eq_true rfl) dX2_pair_106 ?_
    exact r_lret dX2_pair_109 rfl h
  · have h := h_6 hk
    refine r_tableIn (tgt := 110) dX2_pair_1 (by omega) (by omega) (by rw [hk]; rfl) (by decide) ?_
    refine r_lload_n dX2_pair_110 rfl ?_
    refine r_lload_n dX2_pair_111 rfl ?_
    refine r_maxL lm_X2_40 (Nat.le_of_ble_eq_true rfl) dX2_pair_112 ?_
    exact r_lret dX2_pair_115 rfl h
  · have h := h_7 hk
    refine r_tableIn (tgt := 116) dX2_pair_1 (by omega) (by omega) (by rw [hk]; rfl) (by decide) ?_
    refine r_lload_n dX2_pair_116 rfl ?_
    refine r_lload_n dX2_pair_117 rfl ?_
    refine r_lcmp dX2_pair_118 ?_
    refine r_if_ge (tgt := 126) dX2_pair_119 (by decide) (fun hc => ?_) (fun hc => ?_)
    · have h := h.1 hc
      refine r_lconst (v := 0) dX2_pair_126 rfl (by decide) ?_
      exact r_lret dX2_pair_127 rfl h
    · have h := h.2 hc
      refine r_lconst (v := 1) dX2_pair_122 rfl (by decide) ?_
      refine r_goto (tgt := 127) dX2_pair_123 (by decide) ?_
      exact r_lret dX2_pair_127 rfl h
  · have h := h_8 hk
    refine r_tableIn (tgt := 128) dX2_pair_1 (by omega) (by omega) (by rw [hk]; rfl) (by decide) ?_
    refine r_lload_n dX2_pair_128 rfl ?_
    refine r_lload_n dX2_pair_129 rfl ?_
    refine r_lcmp dX2_pair_130 ?_
    refine r_if_le (tgt := 138) dX2_pair_131 (by decide) (fun hc => ?_) (fun hc => ?_)
    · have h := h.1 hc
      refine r_lconst (v := 0) dX2_pair_138 rfl (by decide) ?_
      exact r_lret dX2_pair_139 rfl h
    · have h := h.2 hc
      refine r_lconst (v := 1) dX2_pair_134 rfl (by decide) ?_
      refine r_goto (tgt := 139) dX2_pair_135 (by decide) ?_
      exact r_lret dX2_pair_139 rfl h
  · have h := h_9 hk
    refine r_tableIn (tgt := 140) dX2_pair_1 (by omega) (by omega) (by rw [hk]; rfl) (by decide) ?_
    refine r_lload_n dX2_pair_140 rfl ?_
    refine r_lload_n dX2_pair_141 rfl ?_
    refine r_lcmp dX2_pair_142 ?_
    refine r_if_ne (tgt := 150) dX2_pair_143 (by decide) (fun hc => ?_) (fun hc => ?_)
    · have h := h.1 hc
      refine r_lconst (v := 0) dX2_pair_150 rfl (by decide) ?_
      exact r_lret dX2_pair_151 rfl h
    · have h := h.2 hc
      refine r_lconst (v := 1) dX2_pair_146 rfl (by decide) ?_
      refine r_goto (tgt := 151) dX2_pair_147 (by decide) ?_
      exact r_lret dX2_pair_151 rfl h
  · have h := h_10 hk
    refine r_tableIn (tgt := 152) dX2_pair_1 (by omega) (by omega) (by rw [hk]; rfl) (by decide) ?_
    refine r_lload_n dX2_pair_152 rfl ?_
    refine r_lload_n dX2_pair_153 rfl ?_
    refine r_land dX2_pair_154 ?_
    exact r_lret dX2_pair_155 rfl h
abbrev P_X2_value_4 (g : GT) (e : Nat) (Q : Int → Sg → Prop) (s : Sg) (th : Int) (v1 : Int) (v2 : Int) (v3 : Int) : Prop := Wp g (e + 1) M_X2_value Q 4 [(11, th), (33, v1), (0, v2), (0, v3), (9, 0), (9, 0), (9, 0), (9, 0)] [] s
set_option maxRecDepth 20000 in
theorem S_X2_value_4 {g : GT} {e : Nat} {Q : Int → Sg → Prop} {s : Sg} {th : Int} {v1 : Int} {v2 : Int} {v3 : Int} (h : (((s th 2) ≤ v3 → ((v2 ≤ 0 → Q 0 s) ∧ (¬ v2 ≤ 0 → Q (s (th + 2) 0) s))) ∧ (¬ (s th 2) ≤ v3 → ((0 ≤ v3 ∧ v3 < 1600) ∧ (Mw g e M_X2_partsOf [(0, (s (th + 1) v3))] s (fun r1 s2 => (((w32 (v2 - r1)) < 0 → Q 0 s2) ∧ (¬ (w32 (v2 - r1)) < 0 → (((w32 (v2 - r1)) < 96 → (((s (th + 1) v3) < 40 → (((s (th + 1) v3) < 20 → ((¬ (s (th + 1) v3) = 14 → ((¬ (s (th + 1) v3) = 13 → ((0 ≤ (w32 (v2 - r1)) ∧ (w32 (v2 - r1)) < 96) ∧ ((0 ≤ (w32 ((w32 (v2 - r1)) + 1)) ∧ (w32 ((w32 (v2 - r1)) + 1)) < 96) ∧ (Mw g e M_X2_pair [(0, (s (th + 1) v3)), (2, (s2 (th + 2) (w32 (v2 - r1)))), (2, (s2 (th + 2) (w32 ((w32 (v2 - r1)) + 1))))] s2 (fun r3 s4 => ((0 ≤ (w32 (v2 - r1)) ∧ (w32 (v2 - r1)) < 96) ∧ ∀ s5, s5 = ups s4 (th + 2) (w32 (v2 - r1)) (w32 (max (-1000000) (min 1000000 r3))) → P_X2_value_4 g e Q s5 th v1 (w32 ((w32 (v2 - r1)) + 1)) (w32 (v3 + 1)))))))) ∧ ((s (th + 1) v3) = 13 → ((0 ≤ (w32 (v2 - r1)) ∧ (w32 (v2 - r1)) < 96) ∧ ((0 ≤ (w32 (v2 - r1)) ∧ (w32 (v2 - r1)) < 96) ∧ ∀ s6, s6 = ups s2 (th + 2) (w32 (v2 - r1)) (w32 (1 - (s2 (th + 2) (w32 (v2 - r1))))) → P_X2_value_4 g e Q s6 th v1 (w32 ((w32 (v2 - r1)) + 1)) (w32 (v3 + 1))))))) ∧ ((s (th + 1) v3) = 14 → ((0 ≤ (w32 (v2 - r1)) ∧ (w32 (v2 - r1)) < 96) ∧ (((s2 (th + 2) (w32 (v2 - r1))) = 0 → ((0 ≤ (w32 ((w32 (v2 - r1)) + 2)) ∧ (w32 ((w32 (v2 - r1)) + 2)) < 96) ∧ ((0 ≤ (w32 (v2 - r1)) ∧ (w32 (v2 - r1)) < 96) ∧ ∀ s7, s7 = ups s2 (th + 2) (w32 (v2 - r1)) (s2 (th + 2) (w32 ((w32 (v2 - r1)) + 2))) → P_X2_value_4 g e Q s7 th v1 (w32 ((w32 (v2 - r1)) + 1)) (w32 (v3 + 1))))) ∧ (¬ (s2 (th + 2) (w32 (v2 - r1))) = 0 → ((0 ≤ (w32 ((w32 (v2 - r1)) + 1)) ∧ (w32 ((w32 (v2 - r1)) + 1)) < 96) ∧ ((0 ≤ (w32 (v2 - r1)) ∧ (w32 (v2 - r1)) < 96) ∧ ∀ s8, s8 = ups s2 (th + 2) (w32 (v2 - r1)) (s2 (th + 2) (w32 ((w32 (v2 - r1)) + 1))) → P_X2_value_4 g e Q s8 th v1 (w32 ((w32 (v2 - r1)) + 1)) (w32 (v3 + 1)))))))))) ∧ (¬ (s (th + 1) v3) < 20 → ((8 ≤ (w32 ((s (th + 1) v3) - 20)) → ((0 ≤ (w32 (v2 - r1)) ∧ (w32 (v2 - r1)) < 96) ∧ ∀ s9, s9 = ups s2 (th + 2) (w32 (v2 - r1)) 0 → P_X2_value_4 g e Q s9 th v1 (w32 ((w32 (v2 - r1)) + 1)) (w32 (v3 + 1)))) ∧ (¬ 8 ≤ (w32 ((s (th + 1) v3) - 20)) → ((0 ≤ (w32 ((s (th + 1) v3) - 20)) ∧ (w32 ((s (th + 1) v3) - 20)) < 8) ∧ ((0 ≤ (w32 (v2 - r1)) ∧ (w32 (v2 - r1)) < 96) ∧ ∀ s10, s10 = ups s2 (th + 2) (w32 (v2 - r1)) (s2 v1 (w32 ((s (th + 1) v3) - 20))) → P_X2_value_4 g e Q s10 th v1 (w32 ((w32 (v2 - r1)) + 1)) (w32 (v3 + 1))))))))) ∧ (¬ (s (th + 1) v3) < 40 → ((0 ≤ (w32 (v2 - r1)) ∧ (w32 (v2 - r1)) < 96) ∧ ∀ s11, s11 = ups s2 (th + 2) (w32 (v2 - r1)) (w32 ((s (th + 1) v3) - 40)) → P_X2_value_4 g e Q s11 th v1 (w32 ((w32 (v2 - r1)) + 1)) (w32 (v3 + 1)))))) ∧ (¬ (w32 (v2 - r1)) < 96 → Q 0 s2)))))))))) : P_X2_value_4 g e Q s th v1 v2 v3 := by
  refine r_iload_n dX2_value_4 rfl ?_
  refine r_aload_n dX2_value_5 rfl rfl ?_
  refine gf_X2_18 rfl dX2_value_6 ?_
  refine r_icmp_ge (tgt := 235) dX2_value_9 (by decide) (fun hc => ?_) (fun hc => ?_)
  · have h := h.1 hc
    refine r_iload_n dX2_value_235 rfl ?_
    refine r_if_le (tgt := 248) dX2_value_236 (by decide) (fun hc => ?_) (fun hc => ?_)
    · have h := h.1 hc
      refine r_iconst dX2_value_248 (by decide) ?_
      exact r_iret dX2_value_249 rfl h
    · have h := h.2 hc
      refine r_aload_n dX2_value_239 rfl rfl ?_
      refine gf_X2_15 rfl dX2_value_240 ?_
      refine r_iconst dX2_value_243 (by decide) ?_
      refine r_iald (n := 96) rfl (by decide) dX2_value_244 (by decide) ?_
      refine r_goto (tgt := 249) dX2_value_245 (by decide) ?_
      exact r_iret dX2_value_249 rfl h
  · have h := h.2 hc
    refine r_aload_n dX2_value_12 rfl rfl ?_
    refine gf_X2_9 rfl dX2_value_13 ?_
    refine r_iload_n dX2_value_16 rfl ?_
    obtain ⟨hb, h⟩ := h
    refine r_iald (n := 1600) rfl (by decide) dX2_value_17 hb ?_
    refine r_istore (ls2 := [(11, th), (33, v1), (0, v2), (0, v3), (0, (s (th + 1) v3)), (9, 0), (9, 0), (9, 0)]) dX2_value_18 (by decide) rfl ?_
    refine r_iload_n dX2_value_20 rfl ?_
    refine r_iload dX2_value_21 rfl ?_
    refine r_callS (As := [(0, (s (th + 1) v3))]) (st := [(0, v2)]) ok_X2_22 rfl rfl (Nat.le_of_ble_eq_true rfl) dX2_value_23 h (fun r1 s2 hv h => ?_)
    refine r_isub dX2_value_26 ?_
    refine r_istore (ls2 := [(11, th), (33, v1), (0, v2), (0, v3), (0, (s (th + 1) v3)), (0, (w32 (v2 - r1))), (9, 0), (9, 0)]) dX2_value_27 (by decide) rfl ?_
    refine r_iload dX2_value_29 rfl ?_
    refine r_if_lt (tgt := 41) dX2_value_31 (by decide) (fun hc => ?_) (fun hc => ?_)
    · have h := h.1 hc
      refine r_iconst dX2_value_41 (by decide) ?_
      exact r_iret dX2_value_42 rfl h
    · have h := h.2 hc
      refine r_iload dX2_value_34 rfl ?_
      refine r_bipush dX2_value_36 (by decide) rfl ?_
      refine r_icmp_lt (tgt := 43) dX2_value_38 (by decide) (fun hc => ?_) (fun hc => ?_)
      · have h := h.1 hc
        refine r_iload dX2_value_43 rfl ?_
        refine r_bipush dX2_value_45 (by decide) rfl ?_
        refine r_icmp_lt (tgt := 65) dX2_value_47 (by decide) (fun hc => ?_) (fun hc => ?_)
        · have h := h.1 hc
          refine r_iload dX2_value_65 rfl ?_
          refine r_bipush dX2_value_67 (by decide) rfl ?_
          refine r_icmp_lt (tgt := 103) dX2_value_69 (by decide) (fun hc => ?_) (fun hc => ?_)
          · have h := h.1 hc
            refine r_iload dX2_value_103 rfl ?_
            refine r_bipush dX2_value_105 (by decide) rfl ?_
            refine r_icmp_ne (tgt := 151) dX2_value_107 (by decide) (fun hc => ?_) (fun hc => ?_)
            · have h := h.1 hc
              refine r_iload dX2_value_151 rfl ?_
              refine r_bipush dX2_value_153 (by decide) rfl ?_
              refine r_icmp_ne (tgt := 177) dX2_value_155 (by decide) (fun hc => ?_) (fun hc => ?_)
              · have h := h.1 hc
                refine r_iload dX2_value_177 rfl ?_
                refine r_aload_n dX2_value_179 rfl rfl ?_
                refine gf_X2_15 rfl dX2_value_180 ?_
                refine r_iload dX2_value_183 rfl ?_
                obtain ⟨hb, h⟩ := h
                refine r_iald (n := 96) rfl (by decide) dX2_value_185 hb ?_
                refine r_i2l dX2_value_186 ?_
                refine r_aload_n dX2_value_187 rfl rfl ?_
                refine gf_X2_15 rfl dX2_value_188 ?_
                refine r_iload dX2_value_191 rfl ?_
                refine r_iconst dX2_value_193 (by decide) ?_
                refine r_iadd dX2_value_194 ?_
                obtain ⟨hb, h⟩ := h
                refine r_iald (n := 96) rfl (by decide) dX2_value_195 hb ?_
                refine r_i2l dX2_value_196 ?_
                refine r_callS (As := [(0, (s (th + 1) v3)), (2, (s2 (th + 2) (w32 (v2 - r1)))), (2, (s2 (th + 2) (w32 ((w32 (v2 - r1)) + 1))))]) (st := []) ok_X2_26 rfl rfl (Nat.le_of_ble_eq_true rfl) dX2_value_197 h (fun r3 s4 hv h => ?_)
                refine r_lstore (ls2 := [(11, th), (33, v1), (0, v2), (0, v3), (0, (s (th + 1) v3)), (0, (w32 (v2 - r1))), (2, r3), (9, 0)]) dX2_value_200 (by decide) rfl ?_
                refine r_aload_n dX2_value_202 rfl rfl ?_
                refine gf_X2_15 rfl dX2_value_203 ?_
                refine r_iload dX2_value_206 rfl ?_
                refine r_ldc2 (v := -1000000) dX2_value_208 lk_X2_30 (by decide) ?_
                refine r_ldc2 (v := 1000000) dX2_value_211 lk_X2_32 (by decide) ?_
                refine r_lload dX2_value_214 rfl ?_
                refine r_minL lm_X2_34 (Nat.le_of_ble_eq_true rfl) dX2_value_216 ?_
                refine r_maxL lm_X2_40 (Nat.le_of_ble_eq_true rfl) dX2_value_219 ?_
                refine r_l2i dX2_value_222 ?_
                obtain ⟨hb, h⟩ := h
                refine r_iast (n := 96) rfl (by decide) dX2_value_223 hb ?_
                have h := h _ rfl
                generalize hs_s5 : ups s4 (th + 2) (w32 (v2 - r1)) (w32 (max (-1000000) (min 1000000 r3))) = s5 at h ⊢
                refine r_iload dX2_value_224 rfl ?_
                refine r_iconst dX2_value_226 (by decide) ?_
                refine r_iadd dX2_value_227 ?_
                refine r_istore_n (ls2 := [(11, th), (33, v1), (0, (w32 ((w32 (v2 - r1)) + 1))), (0, v3), (0, (s (th + 1) v3)), (0, (w32 (v2 - r1))), (2, r3), (9, 0)]) dX2_value_228 (by decide) rfl ?_
                refine r_iinc (ls2 := [(11, th), (33, v1), (0, (w32 ((w32 (v2 - r1)) + 1))), (0, (w32 (v3 + 1))), (0, (s (th + 1) v3)), (0, (w32 (v2 - r1))), (2, r3), (9, 0)]) dX2_value_229 rfl (by decide) rfl ?_
                refine r_goto (tgt := 4) dX2_value_232 (by decide) ?_
                exact r_fgt [true, true, true, true, false, false, false, false] rfl h
              · have h := h.2 hc
                refine r_aload_n dX2_value_158 rfl rfl ?_
                refine gf_X2_15 rfl dX2_value_159 ?_
                refine r_iload dX2_value_162 rfl ?_
                refine r_iconst dX2_value_164 (by decide) ?_
                refine r_aload_n dX2_value_165 rfl rfl ?_
                refine gf_X2_15 rfl dX2_value_166 ?_
                refine r_iload dX2_value_169 rfl ?_
                obtain ⟨hb, h⟩ := h
                refine r_iald (n := 96) rfl (by decide) dX2_value_171 hb ?_
                refine r_isub dX2_value_172 ?_
                obtain ⟨hb, h⟩ := h
                refine r_iast (n := 96) rfl (by decide) dX2_value_173 hb ?_
                have h := h _ rfl
                generalize hs_s6 : ups s2 (th + 2) (w32 (v2 - r1)) (w32 (1 - (s2 (th + 2) (w32 (v2 - r1))))) = s6 at h ⊢
                refine r_goto (tgt := 224) dX2_value_174 (by decide) ?_
                refine r_iload dX2_value_224 rfl ?_
                refine r_iconst dX2_value_226 (by decide) ?_
                refine r_iadd dX2_value_227 ?_
                refine r_istore_n (ls2 := [(11, th), (33, v1), (0, (w32 ((w32 (v2 - r1)) + 1))), (0, v3), (0, (s (th + 1) v3)), (0, (w32 (v2 - r1))), (9, 0), (9, 0)]) dX2_value_228 (by decide) rfl ?_
                refine r_iinc (ls2 := [(11, th), (33, v1), (0, (w32 ((w32 (v2 - r1)) + 1))), (0, (w32 (v3 + 1))), (0, (s (th + 1) v3)), (0, (w32 (v2 - r1))), (9, 0), (9, 0)]) dX2_value_229 rfl (by decide) rfl ?_
                refine r_goto (tgt := 4) dX2_value_232 (by decide) ?_
                exact r_fgt [true, true, true, true, false, false, false, false] rfl h
            · have h := h.2 hc
              refine r_aload_n dX2_value_110 rfl rfl ?_
              refine gf_X2_15 rfl dX2_value_111 ?_
              refine r_iload dX2_value_114 rfl ?_
              refine r_aload_n dX2_value_116 rfl rfl ?_
              refine gf_X2_15 rfl dX2_value_117 ?_
              refine r_iload dX2_value_120 rfl ?_
              obtain ⟨hb, h⟩ := h
              refine r_iald (n := 96) rfl (by decide) dX2_value_122 hb ?_
              refine r_if_eq (tgt := 138) dX2_value_123 (by decide) (fun hc => ?_) (fun hc => ?_)
              · have h := h.1 hc
                refine r_aload_n dX2_value_138 rfl rfl ?_
                refine gf_X2_15 rfl dX2_value_139 ?_
                refine r_iload dX2_value_142 rfl ?_
                refine r_iconst dX2_value_144 (by decide) ?_
                refine r_iadd dX2_value_145 ?_
                obtain ⟨hb, h⟩ := h
                refine r_iald (n := 96) rfl (by decide) dX2_value_146 hb ?_
                obtain ⟨hb, h⟩ := h
                refine r_iast (n := 96) rfl (by decide) dX2_value_147 hb ?_
                have h := h _ rfl
                generalize hs_s7 : ups s2 (th + 2) (w32 (v2 - r1)) (s2 (th + 2) (w32 ((w32 (v2 - r1)) + 2))) = s7 at h ⊢
                refine r_goto (tgt := 224) dX2_value_148 (by decide) ?_
                refine r_iload dX2_value_224 rfl ?_
                refine r_iconst dX2_value_226 (by decide) ?_
                refine r_iadd dX2_value_227 ?_
                refine r_istore_n (ls2 := [(11, th), (33, v1), (0, (w32 ((w32 (v2 - r1)) + 1))), (0, v3), (0, (s (th + 1) v3)), (0, (w32 (v2 - r1))), (9, 0), (9, 0)]) dX2_value_228 (by decide) rfl ?_
                refine r_iinc (ls2 := [(11, th), (33, v1), (0, (w32 ((w32 (v2 - r1)) + 1))), (0, (w32 (v3 + 1))), (0, (s (th + 1) v3)), (0, (w32 (v2 - r1))), (9, 0), (9, 0)]) dX2_value_229 rfl (by decide) rfl ?_
                refine r_goto (tgt := 4) dX2_value_232 (by decide) ?_
                exact r_fgt [true, true, true, true, false, false, false, false] rfl h
              · have h := h.2 hc
                refine r_aload_n dX2_value_126 rfl rfl ?_
                refine gf_X2_15 rfl dX2_value_127 ?_
                refine r_iload dX2_value_130 rfl ?_
                refine r_iconst dX2_value_132 (by decide) ?_
                refine r_iadd dX2_value_133 ?_
                obtain ⟨hb, h⟩ := h
                refine r_iald (n := 96) rfl (by decide) dX2_value_134 hb ?_
                refine r_goto (tgt := 147) dX2_value_135 (by decide) ?_
                obtain ⟨hb, h⟩ := h
                refine r_iast (n := 96) rfl (by decide) dX2_value_147 hb ?_
                have h := h _ rfl
                generalize hs_s8 : ups s2 (th + 2) (w32 (v2 - r1)) (s2 (th + 2) (w32 ((w32 (v2 - r1)) + 1))) = s8 at h ⊢
                refine r_goto (tgt := 224) dX2_value_148 (by decide) ?_
                refine r_iload dX2_value_224 rfl ?_
                refine r_iconst dX2_value_226 (by decide) ?_
                refine r_iadd dX2_value_227 ?_
                refine r_istore_n (ls2 := [(11, th), (33, v1), (0, (w32 ((w32 (v2 - r1)) + 1))), (0, v3), (0, (s (th + 1) v3)), (0, (w32 (v2 - r1))), (9, 0), (9, 0)]) dX2_value_228 (by decide) rfl ?_
                refine r_iinc (ls2 := [(11, th), (33, v1), (0, (w32 ((w32 (v2 - r1)) + 1))), (0, (w32 (v3 + 1))), (0, (s (th + 1) v3)), (0, (w32 (v2 - r1))), (9, 0), (9, 0)]) dX2_value_229 rfl (by decide) rfl ?_
                refine r_goto (tgt := 4) dX2_value_232 (by decide) ?_
                exact r_fgt [true, true, true, true, false, false, false, false] rfl h
          · have h := h.2 hc
            refine r_aload_n dX2_value_72 rfl rfl ?_
            refine gf_X2_15 rfl dX2_value_73 ?_
            refine r_iload dX2_value_76 rfl ?_
            refine r_iload dX2_value_78 rfl ?_
            refine r_bipush dX2_value_80 (by decide) rfl ?_
            refine r_isub dX2_value_82 ?_
            refine r_aload_n dX2_value_83 rfl rfl ?_
            refine r_alen (n := 8) rfl (by decide) (by decide) dX2_value_84 ?_
            refine r_icmp_ge (tgt := 98) dX2_value_85 (by decide) (fun hc => ?_) (fun hc => ?_)
            · have h := h.1 hc
              refine r_iconst dX2_value_98 (by decide) ?_
              obtain ⟨hb, h⟩ := h
              refine r_iast (n := 96) rfl (by decide) dX2_value_99 hb ?_
              have h := h _ rfl
              generalize hs_s9 : ups s2 (th + 2) (w32 (v2 - r1)) 0 = s9 at h ⊢
              refine r_goto (tgt := 224) dX2_value_100 (by decide) ?_
              refine r_iload dX2_value_224 rfl ?_
              refine r_iconst dX2_value_226 (by decide) ?_
              refine r_iadd dX2_value_227 ?_
              refine r_istore_n (ls2 := [(11, th), (33, v1), (0, (w32 ((w32 (v2 - r1)) + 1))), (0, v3), (0, (s (th + 1) v3)), (0, (w32 (v2 - r1))), (9, 0), (9, 0)]) dX2_value_228 (by decide) rfl ?_
              refine r_iinc (ls2 := [(11, th), (33, v1), (0, (w32 ((w32 (v2 - r1)) + 1))), (0, (w32 (v3 + 1))), (0, (s (th + 1) v3)), (0, (w32 (v2 - r1))), (9, 0), (9, 0)]) dX2_value_229 rfl (by decide) rfl ?_
              refine r_goto (tgt := 4) dX2_value_232 (by decide) ?_
              exact r_fgt [true, true, true, true, false, false, false, false] rfl h
            · have h := h.2 hc
              refine r_aload_n dX2_value_88 rfl rfl ?_
              refine r_iload dX2_value_89 rfl ?_
              refine r_bipush dX2_value_91 (by decide) rfl ?_
              refine r_isub dX2_value_93 ?_
              obtain ⟨hb, h⟩ := h
              refine r_iald (n := 8) rfl (by decide) dX2_value_94 hb ?_
              refine r_goto (tgt := 99) dX2_value_95 (by decide) ?_
              obtain ⟨hb, h⟩ := h
              refine r_iast (n := 96) rfl (by decide) dX2_value_99 hb ?_
              have h := h _ rfl
              generalize hs_s10 : ups s2 (th + 2) (w32 (v2 - r1)) (s2 v1 (w32 ((s (th + 1) v3) - 20))) = s10 at h ⊢
              refine r_goto (tgt := 224) dX2_value_100 (by decide) ?_
              refine r_iload dX2_value_224 rfl ?_
              refine r_iconst dX2_value_226 (by decide) ?_
              refine r_iadd dX2_value_227 ?_
              refine r_istore_n (ls2 := [(11, th), (33, v1), (0, (w32 ((w32 (v2 - r1)) + 1))), (0, v3), (0, (s (th + 1) v3)), (0, (w32 (v2 - r1))), (9, 0), (9, 0)]) dX2_value_228 (by decide) rfl ?_
              refine r_iinc (ls2 := [(11, th), (33, v1), (0, (w32 ((w32 (v2 - r1)) + 1))), (0, (w32 (v3 + 1))), (0, (s (th + 1) v3)), (0, (w32 (v2 - r1))), (9, 0), (9, 0)]) dX2_value_229 rfl (by decide) rfl ?_
              refine r_goto (tgt := 4) dX2_value_232 (by decide) ?_
              exact r_fgt [true, true, true, true, false, false, false, false] rfl h
        · have h := h.2 hc
          refine r_aload_n dX2_value_50 rfl rfl ?_
          refine gf_X2_15 rfl dX2_value_51 ?_
          refine r_iload dX2_value_54 rfl ?_
          refine r_iload dX2_value_56 rfl ?_
          refine r_bipush dX2_value_58 (by decide) rfl ?_
          refine r_isub dX2_value_60 ?_
          obtain ⟨hb, h⟩ := h
          refine r_iast (n := 96) rfl (by decide) dX2_value_61 hb ?_
          have h := h _ rfl
          generalize hs_s11 : ups s2 (th + 2) (w32 (v2 - r1)) (w32 ((s (th + 1) v3) - 40)) = s11 at h ⊢
          refine r_goto (tgt := 224) dX2_value_62 (by decide) ?_
          refine r_iload dX2_value_224 rfl ?_
          refine r_iconst dX2_value_226 (by decide) ?_
          refine r_iadd dX2_value_227 ?_
          refine r_istore_n (ls2 := [(11, th), (33, v1), (0, (w32 ((w32 (v2 - r1)) + 1))), (0, v3), (0, (s (th + 1) v3)), (0, (w32 (v2 - r1))), (9, 0), (9, 0)]) dX2_value_228 (by decide) rfl ?_
          refine r_iinc (ls2 := [(11, th), (33, v1), (0, (w32 ((w32 (v2 - r1)) + 1))), (0, (w32 (v3 + 1))), (0, (s (th + 1) v3)), (0, (w32 (v2 - r1))), (9, 0), (9, 0)]) dX2_value_229 rfl (by decide) rfl ?_
          refine r_goto (tgt := 4) dX2_value_232 (by decide) ?_
          exact r_fgt [true, true, true, true, false, false, false, false] rfl h
      · have h := h.2 hc
        refine r_iconst dX2_value_41 (by decide) ?_
        exact r_iret dX2_value_42 rfl h
set_option maxRecDepth 20000 in
theorem S_X2_value {g : GT} {e : Nat} {Q : Int → Sg → Prop} {s : Sg} {th : Int} {v1 : Int} (h : (gr g th ∧ tg th = 11) → (gr g v1 ∧ tg v1 = 33) → P_X2_value_4 g e Q s th v1 0 0) : Mw g (e + 1) M_X2_value [(11, th), (33, v1)] s Q := by
  refine Mw.of (ls := [(11, th), (33, v1), (9, 0), (9, 0), (9, 0), (9, 0), (9, 0), (9, 0)]) pn_X2_value (Nat.le_of_ble_eq_true rfl) rfl (fun hv => ?_)
  have h := h (vld_o (by decide) (hv _ (List.Mem.head _))) (vld_o (by decide) (hv _ (List.Mem.tail _ (List.Mem.head _))))
  refine r_iconst dX2_value_0 (by decide) ?_
  refine r_istore_n (ls2 := [(11, th), (33, v1), (0, 0), (9, 0), (9, 0), (9, 0), (9, 0), (9, 0)]) dX2_value_1 (by decide) rfl ?_
  refine r_iconst dX2_value_2 (by decide) ?_
  refine r_istore_n (ls2 := [(11, th), (33, v1), (0, 0), (0, 0), (9, 0), (9, 0), (9, 0), (9, 0)]) dX2_value_3 (by decide) rfl ?_
  exact h
set_option maxRecDepth 20000 in
theorem S_X8_byteAt {g : GT} {e : Nat} {Q : Int → Sg → Prop} {s : Sg} {v1 : Int} (h : inR v1 → ((v1 < 0 → Q (-1) s) ∧ (¬ v1 < 0 → (((s 2 1) ≤ v1 → Q (-1) s) ∧ (¬ (s 2 1) ≤ v1 → ((0 ≤ v1 ∧ v1 < 1600) ∧ Q (bAnd (s 3 v1) 255) s)))))) : Mw g (e + 1) M_X8_byteAt [(17, 2), (0, v1)] s Q := by
  refine Mw.of (ls := [(17, 2), (0, v1)]) pn_X8_byteAt (Nat.le_of_ble_eq_true rfl) rfl (fun hv => ?_)
  have h := h (hv _ (List.Mem.tail _ (List.Mem.head _)))
  refine r_iload_n dX8_byteAt_0 rfl ?_
  refine r_if_lt (tgt := 25) dX8_byteAt_1 (by decide) (fun hc => ?_) (fun hc => ?_)
  · have h := h.1 hc
    refine r_iconst dX8_byteAt_25 (by decide) ?_
    exact r_iret dX8_byteAt_26 rfl h
  · have h := h.2 hc
    refine r_iload_n dX8_byteAt_4 rfl ?_
    refine r_aload_n dX8_byteAt_5 rfl rfl ?_
    refine gf_X8_15 rfl dX8_byteAt_6 ?_
    refine r_icmp_ge (tgt := 25) dX8_byteAt_9 (by decide) (fun hc => ?_) (fun hc => ?_)
    · have h := h.1 hc
      refine r_iconst dX8_byteAt_25 (by decide) ?_
      exact r_iret dX8_byteAt_26 rfl h
    · have h := h.2 hc
      refine r_aload_n dX8_byteAt_12 rfl rfl ?_
      refine gf_X8_9 rfl dX8_byteAt_13 ?_
      refine r_iload_n dX8_byteAt_16 rfl ?_
      obtain ⟨hb, h⟩ := h
      refine r_bald (n := 1600) rfl (by decide) dX8_byteAt_17 hb ?_
      refine r_sipush dX8_byteAt_18 (by decide) rfl ?_
      refine r_iand dX8_byteAt_21 ?_
      refine r_goto (tgt := 26) dX8_byteAt_22 (by decide) ?_
      exact r_iret dX8_byteAt_26 rfl h
set_option maxRecDepth 20000 in
theorem S_X8_pairAt {g : GT} {e : Nat} {Q : Int → Sg → Prop} {s : Sg} {v1 : Int} (h : inR v1 → ((v1 < 0 → Q (-1) s) ∧ (¬ v1 < 0 → (((s 2 1) ≤ (w32 (v1 + 1)) → Q (-1) s) ∧ (¬ (s 2 1) ≤ (w32 (v1 + 1)) → ((0 ≤ v1 ∧ v1 < 1600) ∧ ((0 ≤ (w32 (v1 + 1)) ∧ (w32 (v1 + 1)) < 1600) ∧ Q (w32 ((w32 ((bAnd (s 3 v1) 255) * 256)) + (bAnd (s 3 (w32 (v1 + 1))) 255))) s))))))) : Mw g (e + 1) M_X8_pairAt [(17, 2), (0, v1)] s Q := by
  refine Mw.of (ls := [(17, 2), (0, v1)]) pn_X8_pairAt (Nat.le_of_ble_eq_true rfl) rfl (fun hv => ?_)
  have h := h (hv _ (List.Mem.tail _ (List.Mem.head _)))
  refine r_iload_n dX8_pairAt_0 rfl ?_
  refine r_if_lt (tgt := 44) dX8_pairAt_1 (by decide) (fun hc => ?_) (fun hc => ?_)
  · have h := h.1 hc
    refine r_iconst dX8_pairAt_44 (by decide) ?_
    exact r_iret dX8_pairAt_45 rfl h
  · have h := h.2 hc
    refine r_iload_n dX8_pairAt_4 rfl ?_
    refine r_iconst dX8_pairAt_5 (by decide) ?_
    refine r_iadd dX8_pairAt_6 ?_
    refine r_aload_n dX8_pairAt_7 rfl rfl ?_
    refine gf_X8_15 rfl dX8_pairAt_8 ?_
    refine r_icmp_ge (tgt := 44) dX8_pairAt_11 (by decide) (fun hc => ?_) (fun hc => ?_)
    · have h := h.1 hc
      refine r_iconst dX8_pairAt_44 (by decide) ?_
      exact r_iret dX8_pairAt_45 rfl h
    · have h := h.2 hc
      refine r_aload_n dX8_pairAt_14 rfl rfl ?_
      refine gf_X8_9 rfl dX8_pairAt_15 ?_
      refine r_iload_n dX8_pairAt_18 rfl ?_
      obtain ⟨hb, h⟩ := h
      refine r_bald (n := 1600) rfl (by decide) dX8_pairAt_19 hb ?_
      refine r_sipush dX8_pairAt_20 (by decide) rfl ?_
      refine r_iand dX8_pairAt_23 ?_
      refine r_sipush dX8_pairAt_24 (by decide) rfl ?_
      refine r_imul dX8_pairAt_27 ?_
      refine r_aload_n dX8_pairAt_28 rfl rfl ?_
      refine gf_X8_9 rfl dX8_pairAt_29 ?_
      refine r_iload_n dX8_pairAt_32 rfl ?_
      refine r_iconst dX8_pairAt_33 (by decide) ?_
      refine r_iadd dX8_pairAt_34 ?_
      obtain ⟨hb, h⟩ := h
      refine r_bald (n := 1600) rfl (by decide) dX8_pairAt_35 hb ?_
      refine r_sipush dX8_pairAt_36 (by decide) rfl ?_
      refine r_iand dX8_pairAt_39 ?_
      refine r_iadd dX8_pairAt_40 ?_
      refine r_goto (tgt := 45) dX8_pairAt_41 (by decide) ?_
      exact r_iret dX8_pairAt_45 rfl h
set_option maxRecDepth 20000 in
theorem S_X6_open {g : GT} {e : Nat} {Q : Int → Sg → Prop} {s : Sg} (h : (∀ s1, s1 = ups s 47 5 0 → (∀ s2, s2 = ups s1 47 6 0 → (∀ s3, s3 = ups s2 47 7 (-1) → (∀ s4, s4 = ups s3 47 1 0 → (∀ s5, s5 = ups s4 47 3 31 → Q 0 s5)))))) : Mw g (e + 1) M_X6_open [(15, 47)] s Q := by
  refine Mw.of (ls := [(15, 47)]) pn_X6_open (Nat.le_of_ble_eq_true rfl) rfl (fun hv => ?_)
  refine r_aload_n dX6_open_0 rfl rfl ?_
  refine r_iconst dX6_open_1 (by decide) ?_
  refine pf_X6_24 rfl dX6_open_2 ?_
  have h := h _ rfl
  generalize hs_s1 : ups s 47 5 0 = s1 at h ⊢
  refine r_aload_n dX6_open_5 rfl rfl ?_
  refine r_iconst dX6_open_6 (by decide) ?_
  refine pf_X6_28 rfl dX6_open_7 ?_
  have h := h _ rfl
  generalize hs_s2 : ups s1 47 6 0 = s2 at h ⊢
  refine r_aload_n dX6_open_10 rfl rfl ?_
  refine r_iconst dX6_open_11 (by decide) ?_
  refine pf_X6_31 rfl dX6_open_12 ?_
  have h := h _ rfl
  generalize hs_s3 : ups s2 47 7 (-1) = s3 at h ⊢
  refine r_aload_n dX6_open_15 rfl rfl ?_
  refine r_iconst dX6_open_16 (by decide) ?_
  refine pf_X6_34 rfl dX6_open_17 ?_
  have h := h _ rfl
  generalize hs_s4 : ups s3 47 1 0 = s4 at h ⊢
  refine r_aload_n dX6_open_20 rfl rfl ?_
  refine r_getsE (i := 31) (v := 31) (by decide) rfl lk_X6_15 dX6_open_21 ?_
  refine pf_X6_21 rfl dX6_open_24 ?_
  have h := h _ rfl
  generalize hs_s5 : ups s4 47 3 31 = s5 at h ⊢
  exact r_ret dX6_open_27 rfl h
set_option maxRecDepth 20000 in
theorem S_X6_isGood {g : GT} {e : Nat} {Q : Int → Sg → Prop} {s : Sg} (h : ((¬ (s 47 6) = 0 → Q 0 s) ∧ ((s 47 6) = 0 → Q 1 s))) : Mw g (e + 1) M_X6_isGood [(15, 47)] s Q := by
  refine Mw.of (ls := [(15, 47)]) pn_X6_isGood (Nat.le_of_ble_eq_true rfl) rfl (fun hv => ?_)
  refine r_aload_n dX6_isGood_0 rfl rfl ?_
  refine gf_X6_28 rfl dX6_isGood_1 ?_
  refine r_if_ne (tgt := 11) dX6_isGood_4 (by decide) (fun hc => ?_) (fun hc => ?_)
  · have h := h.1 hc
    refine r_iconst dX6_isGood_11 (by decide) ?_
    exact r_zret dX6_isGood_12 rfl (by decide) h
  · have h := h.2 hc
    refine r_iconst dX6_isGood_7 (by decide) ?_
    refine r_goto (tgt := 12) dX6_isGood_8 (by decide) ?_
    exact r_zret dX6_isGood_12 rfl (by decide) h
set_option maxRecDepth 20000 in
theorem S_X6_isBlank {g : GT} {e : Nat} {Q : Int → Sg → Prop} {s : Sg} {v0 : Int} (h : inR v0 → ((v0 = 10 → Q 1 s) ∧ (¬ v0 = 10 → ((¬ v0 = 32 → Q 0 s) ∧ (v0 = 32 → Q 1 s))))) : Mw g (e + 1) M_X6_isBlank [(0, v0)] s Q := by
  refine Mw.of (ls := [(0, v0)]) pn_X6_isBlank (Nat.le_of_ble_eq_true rfl) rfl (fun hv => ?_)
  have h := h (hv _ (List.Mem.head _))
  refine r_iload_n dX6_isBlank_0 rfl ?_
  refine r_bipush dX6_isBlank_1 (by decide) rfl ?_
  refine r_icmp_eq (tgt := 12) dX6_isBlank_3 (by decide) (fun hc => ?_) (fun hc => ?_)
  · have h := h.1 hc
    refine r_iconst dX6_isBlank_12 (by decide) ?_
    refine r_goto (tgt := 17) dX6_isBlank_13 (by decide) ?_
    exact r_zret dX6_isBlank_17 rfl (by decide) h
  · have h := h.2 hc
    refine r_iload_n dX6_isBlank_6 rfl ?_
    refine r_bipush dX6_isBlank_7 (by decide) rfl ?_
    refine r_icmp_ne (tgt := 16) dX6_isBlank_9 (by decide) (fun hc => ?_) (fun hc => ?_)
    · have h := h.1 hc
      refine r_iconst dX6_isBlank_16 (by decide) ?_
      exact r_zret dX6_isBlank_17 rfl (by decide) h
    · have h := h.2 hc
      refine r_iconst dX6_isBlank_12 (by decide) ?_
      refine r_goto (tgt := 17) dX6_isBlank_13 (by decide) ?_
      exact r_zret dX6_isBlank_17 rfl (by decide) h
abbrev P_X6_goesOn_0 (g : GT) (e : Nat) (Q : Int → Sg → Prop) (s : Sg) : Prop := Wp g (e + 1) M_X6_goesOn Q 0 [(15, 47)] [] s
abbrev P_X6_goesOn_44 (g : GT) (e : Nat) (Q : Int → Sg → Prop) (s : Sg) : Prop := Wp g (e + 1) M_X6_goesOn Q 44 [(15, 47)] [] s
set_option maxRecDepth 20000 in
theorem S_X6_goesOn_0 {g : GT} {e : Nat} {Q : Int → Sg → Prop} {s : Sg} (h : (((s 2 1) ≤ (s 47 5) → P_X6_goesOn_44 g e Q s) ∧ (¬ (s 2 1) ≤ (s 47 5) → (Mw g e M_X8_byteAt [(17, 2), (0, (s 47 5))] s (fun r1 s2 => (Mw g e M_X6_isBlank [(0, r1)] s2 (fun r3 s4 => ((r3 = 0 → P_X6_goesOn_44 g e Q s4) ∧ (¬ r3 = 0 → (∀ s5, s5 = ups s4 47 5 (w32 ((s4 47 5) + 1)) → P_X6_goesOn_0 g e Q s5)))))))))) : P_X6_goesOn_0 g e Q s := by
  refine r_aload_n dX6_goesOn_0 rfl rfl ?_
  refine gf_X6_24 rfl dX6_goesOn_1 ?_
  refine r_aload_n dX6_goesOn_4 rfl rfl ?_
  refine gf_X6_9 rfl dX6_goesOn_5 ?_
  refine gf_X6_47 rfl dX6_goesOn_8 ?_
  refine r_icmp_ge (tgt := 44) dX6_goesOn_11 (by decide) (fun hc => ?_) (fun hc => ?_)
  · have h := h.1 hc
    exact h
  · have h := h.2 hc
    refine r_aload_n dX6_goesOn_14 rfl rfl ?_
    refine gf_X6_9 rfl dX6_goesOn_15 ?_
    refine r_aload_n dX6_goesOn_18 rfl rfl ?_
    refine gf_X6_24 rfl dX6_goesOn_19 ?_
    refine r_callV (ci := 7) (As := [(0, (s 47 5))]) (st := []) (by decide) ok_X6_52 rfl rfl (Nat.le_of_ble_eq_true rfl) dX6_goesOn_22 h (fun r1 s2 hv h => ?_)
    refine r_callS (As := [(0, r1)]) (st := []) ok_X6_56 rfl rfl (Nat.le_of_ble_eq_true rfl) dX6_goesOn_25 h (fun r3 s4 hv h => ?_)
    refine r_if_eq (tgt := 44) dX6_goesOn_28 (by decide) (fun hc => ?_) (fun hc => ?_)
    · have h := h.1 hc
      exact h
    · have h := h.2 hc
      refine r_aload_n dX6_goesOn_31 rfl rfl ?_
      refine r_dup dX6_goesOn_32 (show (15 : Nat) ≠ 2 by decide) ?_
      refine gf_X6_24 rfl dX6_goesOn_33 ?_
      refine r_iconst dX6_goesOn_36 (by decide) ?_
      refine r_iadd dX6_goesOn_37 ?_
      refine pf_X6_24 rfl dX6_goesOn_38 ?_
      have h := h _ rfl
      generalize hs_s5 : ups s4 47 5 (w32 ((s4 47 5) + 1)) = s5 at h ⊢
      refine r_goto (tgt := 0) dX6_goesOn_41 (by decide) ?_
      exact h
set_option maxRecDepth 20000 in
theorem S_X6_goesOn_44 {g : GT} {e : Nat} {Q : Int → Sg → Prop} {s : Sg} (h : (((s 2 1) ≤ (s 47 5) → Q 0 s) ∧ (¬ (s 2 1) ≤ (s 47 5) → Q 1 s))) : P_X6_goesOn_44 g e Q s := by
  refine r_aload_n dX6_goesOn_44 rfl rfl ?_
  refine gf_X6_24 rfl dX6_goesOn_45 ?_
  refine r_aload_n dX6_goesOn_48 rfl rfl ?_
  refine gf_X6_9 rfl dX6_goesOn_49 ?_
  refine gf_X6_47 rfl dX6_goesOn_52 ?_
  refine r_icmp_ge (tgt := 62) dX6_goesOn_55 (by decide) (fun hc => ?_) (fun hc => ?_)
  · have h := h.1 hc
    refine r_iconst dX6_goesOn_62 (by decide) ?_
    exact r_zret dX6_goesOn_63 rfl (by decide) h
  · have h := h.2 hc
    refine r_iconst dX6_goesOn_58 (by decide) ?_
    refine r_goto (tgt := 63) dX6_goesOn_59 (by decide) ?_
    exact r_zret dX6_goesOn_63 rfl (by decide) h
set_option maxRecDepth 20000 in
theorem S_X6_goesOn {g : GT} {e : Nat} {Q : Int → Sg → Prop} {s : Sg} (h : P_X6_goesOn_0 g e Q s) : Mw g (e + 1) M_X6_goesOn [(15, 47)] s Q := by
  refine Mw.of (ls := [(15, 47)]) pn_X6_goesOn (Nat.le_of_ble_eq_true rfl) rfl (fun hv => ?_)
  exact h
set_option maxRecDepth 20000 in
theorem S_X6_fail {g : GT} {e : Nat} {Q : Int → Sg → Prop} {s : Sg} {v1 : Int} {v2 : Int} (h : inR v1 → inR v2 → ((¬ (s 47 6) = 0 → (∀ s1, s1 = ups s 47 1 0 → (∀ s2, s2 = ups s1 47 3 31 → Q 0 s2))) ∧ ((s 47 6) = 0 → (∀ s3, s3 = ups s 47 6 v1 → (∀ s4, s4 = ups s3 47 7 v2 → (∀ s5, s5 = ups s4 47 1 0 → (∀ s6, s6 = ups s5 47 3 31 → Q 0 s6))))))) : Mw g (e + 1) M_X6_fail [(15, 47), (0, v1), (0, v2)] s Q := by
  refine Mw.of (ls := [(15, 47), (0, v1), (0, v2)]) pn_X6_fail (Nat.le_of_ble_eq_true rfl) rfl (fun hv => ?_)
  have h := h (hv _ (List.Mem.tail _ (List.Mem.head _))) (hv _ (List.Mem.tail _ (List.Mem.tail _ (List.Mem.head _))))
  refine r_aload_n dX6_fail_0 rfl rfl ?_
  refine gf_X6_28 rfl dX6_fail_1 ?_
  refine r_if_ne (tgt := 17) dX6_fail_4 (by decide) (fun hc => ?_) (fun hc => ?_)
  · have h := h.1 hc
    refine r_aload_n dX6_fail_17 rfl rfl ?_
    refine r_iconst dX6_fail_18 (by decide) ?_
    refine pf_X6_34 rfl dX6_fail_19 ?_
    have h := h _ rfl
    generalize hs_s1 : ups s 47 1 0 = s1 at h ⊢
    refine r_aload_n dX6_fail_22 rfl rfl ?_
    refine r_getsE (i := 31) (v := 31) (by decide) rfl lk_X6_15 dX6_fail_23 ?_
    refine pf_X6_21 rfl dX6_fail_26 ?_
    have h := h _ rfl
    generalize hs_s2 : ups s1 47 3 31 = s2 at h ⊢
    exact r_ret dX6_fail_29 rfl h
  · have h := h.2 hc
    refine r_aload_n dX6_fail_7 rfl rfl ?_
    refine r_iload_n dX6_fail_8 rfl ?_
    refine pf_X6_28 rfl dX6_fail_9 ?_
    have h := h _ rfl
    generalize hs_s3 : ups s 47 6 v1 = s3 at h ⊢
    refine r_aload_n dX6_fail_12 rfl rfl ?_
    refine r_iload_n dX6_fail_13 rfl ?_
    refine pf_X6_31 rfl dX6_fail_14 ?_
    have h := h _ rfl
    generalize hs_s4 : ups s3 47 7 v2 = s4 at h ⊢
    refine r_aload_n dX6_fail_17 rfl rfl ?_
    refine r_iconst dX6_fail_18 (by decide) ?_
    refine pf_X6_34 rfl dX6_fail_19 ?_
    have h := h _ rfl
    generalize hs_s5 : ups s4 47 1 0 = s5 at h ⊢
    refine r_aload_n dX6_fail_22 rfl rfl ?_
    refine r_getsE (i := 31) (v := 31) (by decide) rfl lk_X6_15 dX6_fail_23 ?_
    refine pf_X6_21 rfl dX6_fail_26 ?_
    have h := h _ rfl
    generalize hs_s6 : ups s5 47 3 31 = s6 at h ⊢
    exact r_ret dX6_fail_29 rfl h
set_option maxRecDepth 20000 in
theorem S_X6_isLetter {g : GT} {e : Nat} {Q : Int → Sg → Prop} {s : Sg} {v0 : Int} (h : inR v0 → ((v0 < 97 → Q 0 s) ∧ (¬ v0 < 97 → ((122 < v0 → Q 0 s) ∧ (¬ 122 < v0 → Q 1 s))))) : Mw g (e + 1) M_X6_isLetter [(0, v0)] s Q := by
  refine Mw.of (ls := [(0, v0)]) pn_X6_isLetter (Nat.le_of_ble_eq_true rfl) rfl (fun hv => ?_)
  have h := h (hv _ (List.Mem.head _))
  refine r_iload_n dX6_isLetter_0 rfl ?_
  refine r_bipush dX6_isLetter_1 (by decide) rfl ?_
  refine r_icmp_lt (tgt := 16) dX6_isLetter_3 (by decide) (fun hc => ?_) (fun hc => ?_)
  · have h := h.1 hc
    refine r_iconst dX6_isLetter_16 (by decide) ?_
    exact r_zret dX6_isLetter_17 rfl (by decide) h
  · have h := h.2 hc
    refine r_iload_n dX6_isLetter_6 rfl ?_
    refine r_bipush dX6_isLetter_7 (by decide) rfl ?_
    refine r_icmp_gt (tgt := 16) dX6_isLetter_9 (by decide) (fun hc => ?_) (fun hc => ?_)
    · have h := h.1 hc
      refine r_iconst dX6_isLetter_16 (by decide) ?_
      exact r_zret dX6_isLetter_17 rfl (by decide) h
    · have h := h.2 hc
      refine r_iconst dX6_isLetter_12 (by decide) ?_
      refine r_goto (tgt := 17) dX6_isLetter_13 (by decide) ?_
      exact r_zret dX6_isLetter_17 rfl (by decide) h
set_option maxRecDepth 20000 in
theorem S_X6_isDigit {g : GT} {e : Nat} {Q : Int → Sg → Prop} {s : Sg} {v0 : Int} (h : inR v0 → ((v0 < 48 → Q 0 s) ∧ (¬ v0 < 48 → ((57 < v0 → Q 0 s) ∧ (¬ 57 < v0 → Q 1 s))))) : Mw g (e + 1) M_X6_isDigit [(0, v0)] s Q := by
  refine Mw.of (ls := [(0, v0)]) pn_X6_isDigit (Nat.le_of_ble_eq_true rfl) rfl (fun hv => ?_)
  have h := h (hv _ (List.Mem.head _))
  refine r_iload_n dX6_isDigit_0 rfl ?_
  refine r_bipush dX6_isDigit_1 (by decide) rfl ?_
  refine r_icmp_lt (tgt := 16) dX6_isDigit_3 (by decide) (fun hc => ?_) (fun hc => ?_)
  · have h := h.1 hc
    refine r_iconst dX6_isDigit_16 (by decide) ?_
    exact r_zret dX6_isDigit_17 rfl (by decide) h
  · have h := h.2 hc
    refine r_iload_n dX6_isDigit_6 rfl ?_
    refine r_bipush dX6_isDigit_7 (by decide) rfl ?_
    refine r_icmp_gt (tgt := 16) dX6_isDigit_9 (by decide) (fun hc => ?_) (fun hc => ?_)
    · have h := h.1 hc
      refine r_iconst dX6_isDigit_16 (by decide) ?_
      exact r_zret dX6_isDigit_17 rfl (by decide) h
    · have h := h.2 hc
      refine r_iconst dX6_isDigit_12 (by decide) ?_
      refine r_goto (tgt := 17) dX6_isDigit_13 (by decide) ?_
      exact r_zret dX6_isDigit_17 rfl (by decide) h
set_option maxRecDepth 20000 in
theorem S_X6_joins {g : GT} {e : Nat} {Q : Int → Sg → Prop} {s : Sg} {v1 : Int} (h : inR v1 → (Mw g e M_X8_byteAt [(17, 2), (0, v1)] s (fun r1 s2 => (Mw g e M_X6_isLetter [(0, r1)] s2 (fun r3 s4 => ((¬ r3 = 0 → Q 1 s4) ∧ (r3 = 0 → (Mw g e M_X8_byteAt [(17, 2), (0, v1)] s4 (fun r5 s6 => (Mw g e M_X6_isDigit [(0, r5)] s6 (fun r7 s8 => ((r7 = 0 → Q 0 s8) ∧ (¬ r7 = 0 → Q 1 s8))))))))))))) : Mw g (e + 1) M_X6_joins [(15, 47), (0, v1)] s Q := by
  refine Mw.of (ls := [(15, 47), (0, v1)]) pn_X6_joins (Nat.le_of_ble_eq_true rfl) rfl (fun hv => ?_)
  have h := h (hv _ (List.Mem.tail _ (List.Mem.head _)))
  refine r_aload_n dX6_joins_0 rfl rfl ?_
  refine gf_X6_9 rfl dX6_joins_1 ?_
  refine r_iload_n dX6_joins_4 rfl ?_
  refine r_callV (ci := 7) (As := [(0, v1)]) (st := []) (by decide) ok_X6_52 rfl rfl (Nat.le_of_ble_eq_true rfl) dX6_joins_5 h (fun r1 s2 hv h => ?_)
  refine r_callS (As := [(0, r1)]) (st := []) ok_X6_71 rfl rfl (Nat.le_of_ble_eq_true rfl) dX6_joins_8 h (fun r3 s4 hv h => ?_)
  refine r_if_ne (tgt := 28) dX6_joins_11 (by decide) (fun hc => ?_) (fun hc => ?_)
  · have h := h.1 hc
    refine r_iconst dX6_joins_28 (by decide) ?_
    refine r_goto (tgt := 33) dX6_joins_29 (by decide) ?_
    exact r_zret dX6_joins_33 rfl (by decide) h
  · have h := h.2 hc
    refine r_aload_n dX6_joins_14 rfl rfl ?_
    refine gf_X6_9 rfl dX6_joins_15 ?_
    refine r_iload_n dX6_joins_18 rfl ?_
    refine r_callV (ci := 7) (As := [(0, v1)]) (st := []) (by decide) ok_X6_52 rfl rfl (Nat.le_of_ble_eq_true rfl) dX6_joins_19 h (fun r5 s6 hv h => ?_)
    refine r_callS (As := [(0, r5)]) (st := []) ok_X6_77 rfl rfl (Nat.le_of_ble_eq_true rfl) dX6_joins_22 h (fun r7 s8 hv h => ?_)
    refine r_if_eq (tgt := 32) dX6_joins_25 (by decide) (fun hc => ?_) (fun hc => ?_)
    · have h := h.1 hc
      refine r_iconst dX6_joins_32 (by decide) ?_
      exact r_zret dX6_joins_33 rfl (by decide) h
    · have h := h.2 hc
      refine r_iconst dX6_joins_28 (by decide) ?_
      refine r_goto (tgt := 33) dX6_joins_29 (by decide) ?_
      exact r_zret dX6_joins_33 rfl (by decide) h
set_option maxRecDepth 20000 in
theorem S_X6_failHere {g : GT} {e : Nat} {Q : Int → Sg → Prop} {s : Sg} {v1 : Int} (h : inR v1 → (Mw g e M_X6_fail [(15, 47), (0, v1), (0, (s 47 4))] s (fun _ s2 => Q 0 s2))) : Mw g (e + 1) M_X6_failHere [(15, 47), (0, v1)] s Q := by
  refine Mw.of (ls := [(15, 47), (0, v1)]) pn_X6_failHere (Nat.le_of_ble_eq_true rfl) rfl (fun hv => ?_)
  have h := h (hv _ (List.Mem.tail _ (List.Mem.head _)))
  refine r_aload_n dX6_failHere_0 rfl rfl ?_
  refine r_iload_n dX6_failHere_1 rfl ?_
  refine r_aload_n dX6_failHere_2 rfl rfl ?_
  refine gf_X6_37 rfl dX6_failHere_3 ?_
  refine r_callV (ci := 5) (As := [(0, v1), (0, (s 47 4))]) (st := []) (by decide) ok_X6_40 rfl rfl (Nat.le_of_ble_eq_true rfl) dX6_failHere_6 h (fun r1 s2 hv h => ?_)
  exact r_ret dX6_failHere_9 rfl h
abbrev P_X6_readWord_5 (g : GT) (e : Nat) (Q : Int → Sg → Prop) (s : Sg) : Prop := Wp g (e + 1) M_X6_readWord Q 5 [(15, 47), (9, 0)] [] s
abbrev P_X6_readWord_111 (g : GT) (e : Nat) (Q : Int → Sg → Prop) (s : Sg) (v1 : Int) : Prop := Wp g (e + 1) M_X6_readWord Q 111 [(15, 47), (0, v1)] [] s
abbrev P_X6_readWord_136 (g : GT) (e : Nat) (Q : Int → Sg → Prop) (s : Sg) (v1 : Int) : Prop := Wp g (e + 1) M_X6_readWord Q 136 [(15, 47), (0, v1)] [] s
set_option maxRecDepth 20000 in
theorem S_X6_readWord_5 {g : GT} {e : Nat} {Q : Int → Sg → Prop} {s : Sg} (h : (((s 2 1) ≤ (s 47 5) → P_X6_readWord_111 g e Q s (w32 ((s 47 5) - (s 47 4)))) ∧ (¬ (s 2 1) ≤ (s 47 5) → (Mw g e M_X8_byteAt [(17, 2), (0, (s 47 5))] s (fun r1 s2 => (Mw g e M_X6_isLetter [(0, r1)] s2 (fun r3 s4 => ((r3 = 0 → P_X6_readWord_111 g e Q s4 (w32 ((s4 47 5) - (s4 47 4)))) ∧ (¬ r3 = 0 → ((¬ (w32 ((s4 47 5) - (s4 47 4))) = 6 → (Mw g e M_X8_byteAt [(17, 2), (0, (s4 47 5))] s4 (fun r5 s6 => (∀ s7, s7 = ups s6 47 2 (w32 ((w32 ((w32 ((w32 ((s4 47 2) * 27)) + r5)) - 97)) + 1)) → (∀ s8, s8 = ups s7 47 5 (w32 ((s7 47 5) + 1)) → P_X6_readWord_5 g e Q s8))))) ∧ ((w32 ((s4 47 5) - (s4 47 4))) = 6 → (Mw g e M_X6_fail [(15, 47), (0, 1), (0, (s4 47 5))] s4 (fun _ s10 => Q 0 s10))))))))))))) : P_X6_readWord_5 g e Q s := by
  refine r_aload_n dX6_readWord_5 rfl rfl ?_
  refine gf_X6_24 rfl dX6_readWord_6 ?_
  refine r_aload_n dX6_readWord_9 rfl rfl ?_
  refine gf_X6_9 rfl dX6_readWord_10 ?_
  refine gf_X6_47 rfl dX6_readWord_13 ?_
  refine r_icmp_ge (tgt := 101) dX6_readWord_16 (by decide) (fun hc => ?_) (fun hc => ?_)
  · have h := h.1 hc
    refine r_aload_n dX6_readWord_101 rfl rfl ?_
    refine gf_X6_24 rfl dX6_readWord_102 ?_
    refine r_aload_n dX6_readWord_105 rfl rfl ?_
    refine gf_X6_37 rfl dX6_readWord_106 ?_
    refine r_isub dX6_readWord_109 ?_
    refine r_istore_n (ls2 := [(15, 47), (0, (w32 ((s 47 5) - (s 47 4))))]) dX6_readWord_110 (by decide) rfl ?_
    exact h
  · have h := h.2 hc
    refine r_aload_n dX6_readWord_19 rfl rfl ?_
    refine gf_X6_9 rfl dX6_readWord_20 ?_
    refine r_aload_n dX6_readWord_23 rfl rfl ?_
    refine gf_X6_24 rfl dX6_readWord_24 ?_
    refine r_callV (ci := 7) (As := [(0, (s 47 5))]) (st := []) (by decide) ok_X6_52 rfl rfl (Nat.le_of_ble_eq_true rfl) dX6_readWord_27 h (fun r1 s2 hv h => ?_)
    refine r_callS (As := [(0, r1)]) (st := []) ok_X6_71 rfl rfl (Nat.le_of_ble_eq_true rfl) dX6_readWord_30 h (fun r3 s4 hv h => ?_)
    refine r_if_eq (tgt := 101) dX6_readWord_33 (by decide) (fun hc => ?_) (fun hc => ?_)
    · have h := h.1 hc
      refine r_aload_n dX6_readWord_101 rfl rfl ?_
      refine gf_X6_24 rfl dX6_readWord_102 ?_
      refine r_aload_n dX6_readWord_105 rfl rfl ?_
      refine gf_X6_37 rfl dX6_readWord_106 ?_
      refine r_isub dX6_readWord_109 ?_
      refine r_istore_n (ls2 := [(15, 47), (0, (w32 ((s4 47 5) - (s4 47 4))))]) dX6_readWord_110 (by decide) rfl ?_
      exact h
    · have h := h.2 hc
      refine r_aload_n dX6_readWord_36 rfl rfl ?_
      refine gf_X6_24 rfl dX6_readWord_37 ?_
      refine r_aload_n dX6_readWord_40 rfl rfl ?_
      refine gf_X6_37 rfl dX6_readWord_41 ?_
      refine r_isub dX6_readWord_44 ?_
      refine r_bipush dX6_readWord_45 (by decide) rfl ?_
      refine r_icmp_ne (tgt := 60) dX6_readWord_47 (by decide) (fun hc => ?_) (fun hc => ?_)
      · have h := h.1 hc
        refine r_aload_n dX6_readWord_60 rfl rfl ?_
        refine r_aload_n dX6_readWord_61 rfl rfl ?_
        refine gf_X6_44 rfl dX6_readWord_62 ?_
        refine r_bipush dX6_readWord_65 (by decide) rfl ?_
        refine r_imul dX6_readWord_67 ?_
        refine r_aload_n dX6_readWord_68 rfl rfl ?_
        refine gf_X6_9 rfl dX6_readWord_69 ?_
        refine r_aload_n dX6_readWord_72 rfl rfl ?_
        refine gf_X6_24 rfl dX6_readWord_73 ?_
        refine r_callV (ci := 7) (As := [(0, (s4 47 5))]) (st := [(0, (w32 ((s4 47 2) * 27))), (15, 47)]) (by decide) ok_X6_52 rfl rfl (Nat.le_of_ble_eq_true rfl) dX6_readWord_76 h (fun r5 s6 hv h => ?_)
        refine r_iadd dX6_readWord_79 ?_
        refine r_bipush dX6_readWord_80 (by decide) rfl ?_
        refine r_isub dX6_readWord_82 ?_
        refine r_iconst dX6_readWord_83 (by decide) ?_
        refine r_iadd dX6_readWord_84 ?_
        refine pf_X6_44 rfl dX6_readWord_85 ?_
        have h := h _ rfl
        generalize hs_s7 : ups s6 47 2 (w32 ((w32 ((w32 ((w32 ((s4 47 2) * 27)) + r5)) - 97)) + 1)) = s7 at h ⊢
        refine r_aload_n dX6_readWord_88 rfl rfl ?_
        refine r_dup dX6_readWord_89 (show (15 : Nat) ≠ 2 by decide) ?_
        refine gf_X6_24 rfl dX6_readWord_90 ?_
        refine r_iconst dX6_readWord_93 (by decide) ?_
        refine r_iadd dX6_readWord_94 ?_
        refine pf_X6_24 rfl dX6_readWord_95 ?_
        have h := h _ rfl
        generalize hs_s8 : ups s7 47 5 (w32 ((s7 47 5) + 1)) = s8 at h ⊢
        refine r_goto (tgt := 5) dX6_readWord_98 (by decide) ?_
        exact h
      · have h := h.2 hc
        refine r_aload_n dX6_readWord_50 rfl rfl ?_
        refine r_iconst dX6_readWord_51 (by decide) ?_
        refine r_aload_n dX6_readWord_52 rfl rfl ?_
        refine gf_X6_24 rfl dX6_readWord_53 ?_
        refine r_callV (ci := 5) (As := [(0, 1), (0, (s4 47 5))]) (st := []) (by decide) ok_X6_40 rfl rfl (Nat.le_of_ble_eq_true rfl) dX6_readWord_56 h (fun r9 s10 hv h => ?_)
        exact r_ret dX6_readWord_59 rfl h
set_option maxRecDepth 20000 in
theorem S_X6_readWord_111 {g : GT} {e : Nat} {Q : Int → Sg → Prop} {s : Sg} {v1 : Int} (h : ((6 ≤ v1 → P_X6_readWord_136 g e Q s 0) ∧ (¬ 6 ≤ v1 → (∀ s1, s1 = ups s 47 2 (w32 ((s 47 2) * 27)) → P_X6_readWord_111 g e Q s1 (w32 (v1 + 1)))))) : P_X6_readWord_111 g e Q s v1 := by
  refine r_iload_n dX6_readWord_111 rfl ?_
  refine r_bipush dX6_readWord_112 (by decide) rfl ?_
  refine r_icmp_ge (tgt := 134) dX6_readWord_114 (by decide) (fun hc => ?_) (fun hc => ?_)
  · have h := h.1 hc
    refine r_iconst dX6_readWord_134 (by decide) ?_
    refine r_istore_n (ls2 := [(15, 47), (0, 0)]) dX6_readWord_135 (by decide) rfl ?_
    exact h
  · have h := h.2 hc
    refine r_aload_n dX6_readWord_117 rfl rfl ?_
    refine r_dup dX6_readWord_118 (show (15 : Nat) ≠ 2 by decide) ?_
    refine gf_X6_44 rfl dX6_readWord_119 ?_
    refine r_bipush dX6_readWord_122 (by decide) rfl ?_
    refine r_imul dX6_readWord_124 ?_
    refine pf_X6_44 rfl dX6_readWord_125 ?_
    have h := h _ rfl
    generalize hs_s1 : ups s 47 2 (w32 ((s 47 2) * 27)) = s1 at h ⊢
    refine r_iinc (ls2 := [(15, 47), (0, (w32 (v1 + 1)))]) dX6_readWord_128 rfl (by decide) rfl ?_
    refine r_goto (tgt := 111) dX6_readWord_131 (by decide) ?_
    exact h
set_option maxRecDepth 20000 in
theorem S_X6_readWord_136 {g : GT} {e : Nat} {Q : Int → Sg → Prop} {s : Sg} {v1 : Int} (h : ((32 ≤ v1 → Q 0 s) ∧ (¬ 32 ≤ v1 → ((0 ≤ v1 ∧ v1 < 32) ∧ ((¬ (enC.getD (v1).toNat 0) = (s 47 2) → P_X6_readWord_136 g e Q s (w32 (v1 + 1))) ∧ ((enC.getD (v1).toNat 0) = (s 47 2) → ((0 ≤ v1 ∧ v1 < 32) ∧ (∀ s1, s1 = ups s 47 3 v1 → P_X6_readWord_136 g e Q s1 (w32 (v1 + 1)))))))))) : P_X6_readWord_136 g e Q s v1 := by
  refine r_iload_n dX6_readWord_136 rfl ?_
  refine r_getsW rfl dX6_readWord_137 ?_
  refine r_alenW dX6_readWord_140 ?_
  refine r_icmp_ge (tgt := 174) dX6_readWord_141 (by decide) (fun hc => ?_) (fun hc => ?_)
  · have h := h.1 hc
    exact r_ret dX6_readWord_174 rfl h
  · have h := h.2 hc
    refine r_getsW rfl dX6_readWord_144 ?_
    refine r_iload_n dX6_readWord_147 rfl ?_
    obtain ⟨hb, h⟩ := h
    refine r_aaldW dX6_readWord_148 hb ?_
    refine r_getEc lk_X6_87 dX6_readWord_149 ?_
    refine r_aload_n dX6_readWord_152 rfl rfl ?_
    refine gf_X6_44 rfl dX6_readWord_153 ?_
    refine r_icmp_ne (tgt := 168) dX6_readWord_156 (by decide) (fun hc => ?_) (fun hc => ?_)
    · have h := h.1 hc
      refine r_iinc (ls2 := [(15, 47), (0, (w32 (v1 + 1)))]) dX6_readWord_168 rfl (by decide) rfl ?_
      refine r_goto (tgt := 136) dX6_readWord_171 (by decide) ?_
      exact h
    · have h := h.2 hc
      refine r_aload_n dX6_readWord_159 rfl rfl ?_
      refine r_getsW rfl dX6_readWord_160 ?_
      refine r_iload_n dX6_readWord_163 rfl ?_
      obtain ⟨hb, h⟩ := h
      refine r_aaldW dX6_readWord_164 hb ?_
      refine pf_X6_21 rfl dX6_readWord_165 ?_
      have h := h _ rfl
      generalize hs_s1 : ups s 47 3 v1 = s1 at h ⊢
      refine r_iinc (ls2 := [(15, 47), (0, (w32 (v1 + 1)))]) dX6_readWord_168 rfl (by decide) rfl ?_
      refine r_goto (tgt := 136) dX6_readWord_171 (by decide) ?_
      exact h
set_option maxRecDepth 20000 in
theorem S_X6_readWord {g : GT} {e : Nat} {Q : Int → Sg → Prop} {s : Sg} (h : (∀ s1, s1 = ups s 47 1 1 → P_X6_readWord_5 g e Q s1)) : Mw g (e + 1) M_X6_readWord [(15, 47)] s Q := by
  refine Mw.of (ls := [(15, 47), (9, 0)]) pn_X6_readWord (Nat.le_of_ble_eq_true rfl) rfl (fun hv => ?_)
  refine r_aload_n dX6_readWord_0 rfl rfl ?_
  refine r_iconst dX6_readWord_1 (by decide) ?_
  refine pf_X6_34 rfl dX6_readWord_2 ?_
  have h := h _ rfl
  generalize hs_s1 : ups s 47 1 1 = s1 at h ⊢
  exact h
abbrev P_X6_readNumber_5 (g : GT) (e : Nat) (Q : Int → Sg → Prop) (s : Sg) : Prop := Wp g (e + 1) M_X6_readNumber Q 5 [(15, 47)] [] s
set_option maxRecDepth 20000 in
theorem S_X6_readNumber_5 {g : GT} {e : Nat} {Q : Int → Sg → Prop} {s : Sg} (h : (((s 2 1) ≤ (s 47 5) → Q 0 s) ∧ (¬ (s 2 1) ≤ (s 47 5) → (Mw g e M_X8_byteAt [(17, 2), (0, (s 47 5))] s (fun r1 s2 => (Mw g e M_X6_isDigit [(0, r1)] s2 (fun r3 s4 => ((r3 = 0 → Q 0 s4) ∧ (¬ r3 = 0 → ((¬ (w32 ((s4 47 5) - (s4 47 4))) = 4 → (Mw g e M_X8_byteAt [(17, 2), (0, (s4 47 5))] s4 (fun r5 s6 => (∀ s7, s7 = ups s6 47 2 (w32 ((w32 ((w32 ((s4 47 2) * 10)) + r5)) - 48)) → (∀ s8, s8 = ups s7 47 5 (w32 ((s7 47 5) + 1)) → P_X6_readNumber_5 g e Q s8))))) ∧ ((w32 ((s4 47 5) - (s4 47 4))) = 4 → (Mw g e M_X6_fail [(15, 47), (0, 1), (0, (s4 47 5))] s4 (fun _ s10 => Q 0 s10))))))))))))) : P_X6_readNumber_5 g e Q s := by
  refine r_aload_n dX6_readNumber_5 rfl rfl ?_
  refine gf_X6_24 rfl dX6_readNumber_6 ?_
  refine r_aload_n dX6_readNumber_9 rfl rfl ?_
  refine gf_X6_9 rfl dX6_readNumber_10 ?_
  refine gf_X6_47 rfl dX6_readNumber_13 ?_
  refine r_icmp_ge (tgt := 98) dX6_readNumber_16 (by decide) (fun hc => ?_) (fun hc => ?_)
  · have h := h.1 hc
    exact r_ret dX6_readNumber_98 rfl h
  · have h := h.2 hc
    refine r_aload_n dX6_readNumber_19 rfl rfl ?_
    refine gf_X6_9 rfl dX6_readNumber_20 ?_
    refine r_aload_n dX6_readNumber_23 rfl rfl ?_
    refine gf_X6_24 rfl dX6_readNumber_24 ?_
    refine r_callV (ci := 7) (As := [(0, (s 47 5))]) (st := []) (by decide) ok_X6_52 rfl rfl (Nat.le_of_ble_eq_true rfl) dX6_readNumber_27 h (fun r1 s2 hv h => ?_)
    refine r_callS (As := [(0, r1)]) (st := []) ok_X6_77 rfl rfl (Nat.le_of_ble_eq_true rfl) dX6_readNumber_30 h (fun r3 s4 hv h => ?_)
    refine r_if_eq (tgt := 98) dX6_readNumber_33 (by decide) (fun hc => ?_) (fun hc => ?_)
    · have h := h.1 hc
      exact r_ret dX6_readNumber_98 rfl h
    · have h := h.2 hc
      refine r_aload_n dX6_readNumber_36 rfl rfl ?_
      refine gf_X6_24 rfl dX6_readNumber_37 ?_
      refine r_aload_n dX6_readNumber_40 rfl rfl ?_
      refine gf_X6_37 rfl dX6_readNumber_41 ?_
      refine r_isub dX6_readNumber_44 ?_
      refine r_iconst dX6_readNumber_45 (by decide) ?_
      refine r_icmp_ne (tgt := 59) dX6_readNumber_46 (by decide) (fun hc => ?_) (fun hc => ?_)
      · have h := h.1 hc
        refine r_aload_n dX6_readNumber_59 rfl rfl ?_
        refine r_aload_n dX6_readNumber_60 rfl rfl ?_
        refine gf_X6_44 rfl dX6_readNumber_61 ?_
        refine r_bipush dX6_readNumber_64 (by decide) rfl ?_
        refine r_imul dX6_readNumber_66 ?_
        refine r_aload_n dX6_readNumber_67 rfl rfl ?_
        refine gf_X6_9 rfl dX6_readNumber_68 ?_
        refine r_aload_n dX6_readNumber_71 rfl rfl ?_
        refine gf_X6_24 rfl dX6_readNumber_72 ?_
        refine r_callV (ci := 7) (As := [(0, (s4 47 5))]) (st := [(0, (w32 ((s4 47 2) * 10))), (15, 47)]) (by decide) ok_X6_52 rfl rfl (Nat.le_of_ble_eq_true rfl) dX6_readNumber_75 h (fun r5 s6 hv h => ?_)
        refine r_iadd dX6_readNumber_78 ?_
        refine r_bipush dX6_readNumber_79 (by decide) rfl ?_
        refine r_isub dX6_readNumber_81 ?_
        refine pf_X6_44 rfl dX6_readNumber_82 ?_
        have h := h _ rfl
        generalize hs_s7 : ups s6 47 2 (w32 ((w32 ((w32 ((s4 47 2) * 10)) + r5)) - 48)) = s7 at h ⊢
        refine r_aload_n dX6_readNumber_85 rfl rfl ?_
        refine r_dup dX6_readNumber_86 (show (15 : Nat) ≠ 2 by decide) ?_
        refine gf_X6_24 rfl dX6_readNumber_87 ?_
        refine r_iconst dX6_readNumber_90 (by decide) ?_
        refine r_iadd dX6_readNumber_91 ?_
        refine pf_X6_24 rfl dX6_readNumber_92 ?_
        have h := h _ rfl
        generalize hs_s8 : ups s7 47 5 (w32 ((s7 47 5) + 1)) = s8 at h ⊢
        refine r_goto (tgt := 5) dX6_readNumber_95 (by decide) ?_
        exact h
      · have h := h.2 hc
        refine r_aload_n dX6_readNumber_49 rfl rfl ?_
        refine r_iconst dX6_readNumber_50 (by decide) ?_
        refine r_aload_n dX6_readNumber_51 rfl rfl ?_
        refine gf_X6_24 rfl dX6_readNumber_52 ?_
        refine r_callV (ci := 5) (As := [(0, 1), (0, (s4 47 5))]) (st := []) (by decide) ok_X6_40 rfl rfl (Nat.le_of_ble_eq_true rfl) dX6_readNumber_55 h (fun r9 s10 hv h => ?_)
        exact r_ret dX6_readNumber_58 rfl h
set_option maxRecDepth 20000 in
theorem S_X6_readNumber {g : GT} {e : Nat} {Q : Int → Sg → Prop} {s : Sg} (h : (∀ s1, s1 = ups s 47 1 2 → P_X6_readNumber_5 g e Q s1)) : Mw g (e + 1) M_X6_readNumber [(15, 47)] s Q := by
  refine Mw.of (ls := [(15, 47)]) pn_X6_readNumber (Nat.le_of_ble_eq_true rfl) rfl (fun hv => ?_)
  refine r_aload_n dX6_readNumber_0 rfl rfl ?_
  refine r_iconst dX6_readNumber_1 (by decide) ?_
  refine pf_X6_34 rfl dX6_readNumber_2 ?_
  have h := h _ rfl
  generalize hs_s1 : ups s 47 1 2 = s1 at h ⊢
  exact h
abbrev P_X6_advance_77 (g : GT) (e : Nat) (Q : Int → Sg → Prop) (s : Sg) : Prop := Wp g (e + 1) M_X6_advance Q 77 [(15, 47), (9, 0)] [] s
set_option maxRecDepth 20000 in
theorem S_X6_advance_77 {g : GT} {e : Nat} {Q : Int → Sg → Prop} {s : Sg} (h : (Mw g e M_X8_byteAt [(17, 2), (0, (s 47 5))] s (fun r1 s2 => (Mw g e M_X6_isLetter [(0, r1)] s2 (fun r3 s4 => ((r3 = 0 → (Mw g e M_X8_byteAt [(17, 2), (0, (s4 47 5))] s4 (fun r5 s6 => (Mw g e M_X6_isDigit [(0, r5)] s6 (fun r7 s8 => ((r7 = 0 → (∀ s9, s9 = ups s8 47 1 3 → (Mw g e M_X8_byteAt [(17, 2), (0, (s9 47 5))] s9 (fun r10 s11 => (∀ s12, s12 = ups s11 47 2 r10 → (∀ s13, s13 = ups s12 47 5 (w32 ((s12 47 5) + 1)) → Q 0 s13)))))) ∧ (¬ r7 = 0 → (Mw g e M_X6_readNumber [(15, 47)] s8 (fun _ s15 => Q 0 s15))))))))) ∧ (¬ r3 = 0 → (Mw g e M_X6_readWord [(15, 47)] s4 (fun _ s17 => Q 0 s17))))))))) : P_X6_advance_77 g e Q s := by
  refine r_aload_n dX6_advance_77 rfl rfl ?_
  refine gf_X6_9 rfl dX6_advance_78 ?_
  refine r_aload_n dX6_advance_81 rfl rfl ?_
  refine gf_X6_24 rfl dX6_advance_82 ?_
  refine r_callV (ci := 7) (As := [(0, (s 47 5))]) (st := []) (by decide) ok_X6_52 rfl rfl (Nat.le_of_ble_eq_true rfl) dX6_advance_85 h (fun r1 s2 hv h => ?_)
  refine r_callS (As := [(0, r1)]) (st := []) ok_X6_71 rfl rfl (Nat.le_of_ble_eq_true rfl) dX6_advance_88 h (fun r3 s4 hv h => ?_)
  refine r_if_eq (tgt := 101) dX6_advance_91 (by decide) (fun hc => ?_) (fun hc => ?_)
  · have h := h.1 hc
    refine r_aload_n dX6_advance_101 rfl rfl ?_
    refine gf_X6_9 rfl dX6_advance_102 ?_
    refine r_aload_n dX6_advance_105 rfl rfl ?_
    refine gf_X6_24 rfl dX6_advance_106 ?_
    refine r_callV (ci := 7) (As := [(0, (s4 47 5))]) (st := []) (by decide) ok_X6_52 rfl rfl (Nat.le_of_ble_eq_true rfl) dX6_advance_109 h (fun r5 s6 hv h => ?_)
    refine r_callS (As := [(0, r5)]) (st := []) ok_X6_77 rfl rfl (Nat.le_of_ble_eq_true rfl) dX6_advance_112 h (fun r7 s8 hv h => ?_)
    refine r_if_eq (tgt := 125) dX6_advance_115 (by decide) (fun hc => ?_) (fun hc => ?_)
    · have h := h.1 hc
      refine r_aload_n dX6_advance_125 rfl rfl ?_
      refine r_iconst dX6_advance_126 (by decide) ?_
      refine pf_X6_34 rfl dX6_advance_127 ?_
      have h := h _ rfl
      generalize hs_s9 : ups s8 47 1 3 = s9 at h ⊢
      refine r_aload_n dX6_advance_130 rfl rfl ?_
      refine r_aload_n dX6_advance_131 rfl rfl ?_
      refine gf_X6_9 rfl dX6_advance_132 ?_
      refine r_aload_n dX6_advance_135 rfl rfl ?_
      refine gf_X6_24 rfl dX6_advance_136 ?_
      refine r_callV (ci := 7) (As := [(0, (s9 47 5))]) (st := [(15, 47)]) (by decide) ok_X6_52 rfl rfl (Nat.le_of_ble_eq_true rfl) dX6_advance_139 h (fun r10 s11 hv h => ?_)
      refine pf_X6_44 rfl dX6_advance_142 ?_
      have h := h _ rfl
      generalize hs_s12 : ups s11 47 2 r10 = s12 at h ⊢
      refine r_aload_n dX6_advance_145 rfl rfl ?_
      refine r_dup dX6_advance_146 (show (15 : Nat) ≠ 2 by decide) ?_
      refine gf_X6_24 rfl dX6_advance_147 ?_
      refine r_iconst dX6_advance_150 (by decide) ?_
      refine r_iadd dX6_advance_151 ?_
      refine pf_X6_24 rfl dX6_advance_152 ?_
      have h := h _ rfl
      generalize hs_s13 : ups s12 47 5 (w32 ((s12 47 5) + 1)) = s13 at h ⊢
      exact r_ret dX6_advance_155 rfl h
    · have h := h.2 hc
      refine r_aload_n dX6_advance_118 rfl rfl ?_
      refine r_callV (ci := 5) (As := []) (st := []) (by decide) ok_X6_80 rfl rfl (Nat.le_of_ble_eq_true rfl) dX6_advance_119 h (fun r14 s15 hv h => ?_)
      refine r_goto (tgt := 155) dX6_advance_122 (by decide) ?_
      exact r_ret dX6_advance_155 rfl h
  · have h := h.2 hc
    refine r_aload_n dX6_advance_94 rfl rfl ?_
    refine r_callV (ci := 5) (As := []) (st := []) (by decide) ok_X6_74 rfl rfl (Nat.le_of_ble_eq_true rfl) dX6_advance_95 h (fun r16 s17 hv h => ?_)
    refine r_goto (tgt := 155) dX6_advance_98 (by decide) ?_
    exact r_ret dX6_advance_155 rfl h
set_option maxRecDepth 20000 in
theorem S_X6_advance {g : GT} {e : Nat} {Q : Int → Sg → Prop} {s : Sg} (h : (((s 47 6) = 0 → (Mw g e M_X6_goesOn [(15, 47)] s (fun r1 s2 => (∀ s3, s3 = ups s2 47 4 (s2 47 5) → (∀ s4, s4 = ups s3 47 2 0 → (∀ s5, s5 = ups s4 47 3 31 → ((¬ r1 = 0 → (Mw g e M_X6_joins [(15, 47), (0, (w32 ((s5 47 5) - 1)))] s5 (fun r6 s7 => ((r6 = 0 → P_X6_advance_77 g e Q s7) ∧ (¬ r6 = 0 → (Mw g e M_X6_joins [(15, 47), (0, (s7 47 5))] s7 (fun r8 s9 => ((r8 = 0 → P_X6_advance_77 g e Q s9) ∧ (¬ r8 = 0 → (Mw g e M_X6_failHere [(15, 47), (0, 1)] s9 (fun _ s11 => Q 0 s11))))))))))) ∧ (r1 = 0 → (∀ s12, s12 = ups s5 47 1 0 → Q 0 s12))))))))) ∧ (¬ (s 47 6) = 0 → Q 0 s))) : Mw g (e + 1) M_X6_advance [(15, 47)] s Q := by
  refine Mw.of (ls := [(15, 47), (9, 0)]) pn_X6_advance (Nat.le_of_ble_eq_true rfl) rfl (fun hv => ?_)
  refine r_aload_n dX6_advance_0 rfl rfl ?_
  refine gf_X6_28 rfl dX6_advance_1 ?_
  refine r_if_eq (tgt := 8) dX6_advance_4 (by decide) (fun hc => ?_) (fun hc => ?_)
  · have h := h.1 hc
    refine r_aload_n dX6_advance_8 rfl rfl ?_
    refine r_callV (ci := 5) (As := []) (st := []) (by decide) ok_X6_60 rfl rfl (Nat.le_of_ble_eq_true rfl) dX6_advance_9 h (fun r1 s2 hv h => ?_)
    refine r_istore_n (ls2 := [(15, 47), (0, r1)]) dX6_advance_12 (by decide) rfl ?_
    refine r_aload_n dX6_advance_13 rfl rfl ?_
    refine r_aload_n dX6_advance_14 rfl rfl ?_
    refine gf_X6_24 rfl dX6_advance_15 ?_
    refine pf_X6_37 rfl dX6_advance_18 ?_
    have h := h _ rfl
    generalize hs_s3 : ups s2 47 4 (s2 47 5) = s3 at h ⊢
    refine r_aload_n dX6_advance_21 rfl rfl ?_
    refine r_iconst dX6_advance_22 (by decide) ?_
    refine pf_X6_44 rfl dX6_advance_23 ?_
    have h := h _ rfl
    generalize hs_s4 : ups s3 47 2 0 = s4 at h ⊢
    refine r_aload_n dX6_advance_26 rfl rfl ?_
    refine r_getsE (i := 31) (v := 31) (by decide) rfl lk_X6_15 dX6_advance_27 ?_
    refine pf_X6_21 rfl dX6_advance_30 ?_
    have h := h _ rfl
    generalize hs_s5 : ups s4 47 3 31 = s5 at h ⊢
    refine r_iload_n dX6_advance_33 rfl ?_
    refine r_if_ne (tgt := 45) dX6_advance_34 (by decide) (fun hc => ?_) (fun hc => ?_)
    · have h := h.1 hc
      refine r_aload_n dX6_advance_45 rfl rfl ?_
      refine r_aload_n dX6_advance_46 rfl rfl ?_
      refine gf_X6_24 rfl dX6_advance_47 ?_
      refine r_iconst dX6_advance_50 (by decide) ?_
      refine r_isub dX6_advance_51 ?_
      refine r_callV (ci := 5) (As := [(0, (w32 ((s5 47 5) - 1)))]) (st := []) (by decide) ok_X6_64 rfl rfl (Nat.le_of_ble_eq_true rfl) dX6_advance_52 h (fun r6 s7 hv h => ?_)
      refine r_if_eq (tgt := 77) dX6_advance_55 (by decide) (fun hc => ?_) (fun hc => ?_)
      · have h := h.1 hc
        exact r_fgt [true, false] rfl h
      · have h := h.2 hc
        refine r_aload_n dX6_advance_58 rfl rfl ?_
        refine r_aload_n dX6_advance_59 rfl rfl ?_
        refine gf_X6_24 rfl dX6_advance_60 ?_
        refine r_callV (ci := 5) (As := [(0, (s7 47 5))]) (st := []) (by decide) ok_X6_64 rfl rfl (Nat.le_of_ble_eq_true rfl) dX6_advance_63 h (fun r8 s9 hv h => ?_)
        refine r_if_eq (tgt := 77) dX6_advance_66 (by decide) (fun hc => ?_) (fun hc => ?_)
        · have h := h.1 hc
          exact r_fgt [true, false] rfl h
        · have h := h.2 hc
          refine r_aload_n dX6_advance_69 rfl rfl ?_
          refine r_iconst dX6_advance_70 (by decide) ?_
          refine r_callV (ci := 5) (As := [(0, 1)]) (st := []) (by decide) ok_X6_67 rfl rfl (Nat.le_of_ble_eq_true rfl) dX6_advance_71 h (fun r10 s11 hv h => ?_)
          refine r_goto (tgt := 155) dX6_advance_74 (by decide) ?_
          exact r_ret dX6_advance_155 rfl h
    · have h := h.2 hc
      refine r_aload_n dX6_advance_37 rfl rfl ?_
      refine r_iconst dX6_advance_38 (by decide) ?_
      refine pf_X6_34 rfl dX6_advance_39 ?_
      have h := h _ rfl
      generalize hs_s12 : ups s5 47 1 0 = s12 at h ⊢
      refine r_goto (tgt := 155) dX6_advance_42 (by decide) ?_
      exact r_ret dX6_advance_155 rfl h
  · have h := h.2 hc
    exact r_ret dX6_advance_7 rfl h
set_option maxRecDepth 20000 in
theorem S_X6_isName {g : GT} {e : Nat} {Q : Int → Sg → Prop} {s : Sg} (h : ((¬ (s 47 1) = 1 → Q 0 s) ∧ ((s 47 1) = 1 → ((¬ (s 47 3) = 31 → Q 0 s) ∧ ((s 47 3) = 31 → Q 1 s))))) : Mw g (e + 1) M_X6_isName [(15, 47)] s Q := by
  refine Mw.of (ls := [(15, 47)]) pn_X6_isName (Nat.le_of_ble_eq_true rfl) rfl (fun hv => ?_)
  refine r_aload_n dX6_isName_0 rfl rfl ?_
  refine gf_X6_34 rfl dX6_isName_1 ?_
  refine r_iconst dX6_isName_4 (by decide) ?_
  refine r_icmp_ne (tgt := 22) dX6_isName_5 (by decide) (fun hc => ?_) (fun hc => ?_)
  · have h := h.1 hc
    refine r_iconst dX6_isName_22 (by decide) ?_
    exact r_zret dX6_isName_23 rfl (by decide) h
  · have h := h.2 hc
    refine r_aload_n dX6_isName_8 rfl rfl ?_
    refine gf_X6_21 rfl dX6_isName_9 ?_
    refine r_getsE (i := 31) (v := 31) (by decide) rfl lk_X6_15 dX6_isName_12 ?_
    refine r_acmp_ne (tgt := 22) dX6_isName_15 (by decide) (fun hc => ?_) (fun hc => ?_)
    · have h := h.1 hc
      refine r_iconst dX6_isName_22 (by decide) ?_
      exact r_zret dX6_isName_23 rfl (by decide) h
    · have h := h.2 hc
      refine r_iconst dX6_isName_18 (by decide) ?_
      refine r_goto (tgt := 23) dX6_isName_19 (by decide) ?_
      exact r_zret dX6_isName_23 rfl (by decide) h
set_option maxRecDepth 20000 in
theorem S_X6_isSign {g : GT} {e : Nat} {Q : Int → Sg → Prop} {s : Sg} {v1 : Int} (h : inR v1 → ((¬ (s 47 1) = 3 → Q 0 s) ∧ ((s 47 1) = 3 → ((¬ (s 47 2) = v1 → Q 0 s) ∧ ((s 47 2) = v1 → Q 1 s))))) : Mw g (e + 1) M_X6_isSign [(15, 47), (0, v1)] s Q := by
  refine Mw.of (ls := [(15, 47), (0, v1)]) pn_X6_isSign (Nat.le_of_ble_eq_true rfl) rfl (fun hv => ?_)
  have h := h (hv _ (List.Mem.tail _ (List.Mem.head _)))
  refine r_aload_n dX6_isSign_0 rfl rfl ?_
  refine gf_X6_34 rfl dX6_isSign_1 ?_
  refine r_iconst dX6_isSign_4 (by decide) ?_
  refine r_icmp_ne (tgt := 20) dX6_isSign_5 (by decide) (fun hc => ?_) (fun hc => ?_)
  · have h := h.1 hc
    refine r_iconst dX6_isSign_20 (by decide) ?_
    exact r_zret dX6_isSign_21 rfl (by decide) h
  · have h := h.2 hc
    refine r_aload_n dX6_isSign_8 rfl rfl ?_
    refine gf_X6_44 rfl dX6_isSign_9 ?_
    refine r_iload_n dX6_isSign_12 rfl ?_
    refine r_icmp_ne (tgt := 20) dX6_isSign_13 (by decide) (fun hc => ?_) (fun hc => ?_)
    · have h := h.1 hc
      refine r_iconst dX6_isSign_20 (by decide) ?_
      exact r_zret dX6_isSign_21 rfl (by decide) h
    · have h := h.2 hc
      refine r_iconst dX6_isSign_16 (by decide) ?_
      refine r_goto (tgt := 21) dX6_isSign_17 (by decide) ?_
      exact r_zret dX6_isSign_21 rfl (by decide) h
set_option maxRecDepth 20000 in
theorem S_J6_bitCount_0f7a4 {g : GT} {e : Nat} {Q : Int → Sg → Prop} {s : Sg} {v0 : Int} (h : inR v0 → Q (bAnd (w32 ((w32 ((bAnd (w32 ((w32 ((bAnd (w32 (v0 - (bAnd (bUshr v0 1) 1431655765))) 858993459) + (bAnd (bUshr (w32 (v0 - (bAnd (bUshr v0 1) 1431655765))) 2) 858993459))) + (bUshr (w32 ((bAnd (w32 (v0 - (bAnd (bUshr v0 1) 1431655765))) 858993459) + (bAnd (bUshr (w32 (v0 - (bAnd (bUshr v0 1) 1431655765))) 2) 858993459))) 4))) 252645135) + (bUshr (bAnd (w32 ((w32 ((bAnd (w32 (v0 - (bAnd (bUshr v0 1) 1431655765))) 858993459) + (bAnd (bUshr (w32 (v0 - (bAnd (bUshr v0 1) 1431655765))) 2) 858993459))) + (bUshr (w32 ((bAnd (w32 (v0 - (bAnd (bUshr v0 1) 1431655765))) 858993459) + (bAnd (bUshr (w32 (v0 - (bAnd (bUshr v0 1) 1431655765))) 2) 858993459))) 4))) 252645135) 8))) + (bUshr (w32 ((bAnd (w32 ((w32 ((bAnd (w32 (v0 - (bAnd (bUshr v0 1) 1431655765))) 858993459) + (bAnd (bUshr (w32 (v0 - (bAnd (bUshr v0 1) 1431655765))) 2) 858993459))) + (bUshr (w32 ((bAnd (w32 (v0 - (bAnd (bUshr v0 1) 1431655765))) 858993459) + (bAnd (bUshr (w32 (v0 - (bAnd (bUshr v0 1) 1431655765))) 2) 858993459))) 4))) 252645135) + (bUshr (bAnd (w32 ((w32 ((bAnd (w32 (v0 - (bAnd (bUshr v0 1) 1431655765))) 858993459) + (bAnd (bUshr (w32 (v0 - (bAnd (bUshr v0 1) 1431655765))) 2) 858993459))) + (bUshr (w32 ((bAnd (w32 (v0 - (bAnd (bUshr v0 1) 1431655765))) 858993459) + (bAnd (bUshr (w32 (v0 - (bAnd (bUshr v0 1) 1431655765))) 2) 858993459))) 4))) 252645135) 8))) 16))) 63) s) : Mw g (e + 1) M_J6_bitCount_0f7a4 [(0, v0)] s Q := by
  refine Mw.of (ls := [(0, v0)]) pn_J6_bitCount_0f7a4 (Nat.le_of_ble_eq_true rfl) rfl (fun hv => ?_)
  have h := h (hv _ (List.Mem.head _))
  refine r_iload_n dJ6_bitCount_0f7a4_0 rfl ?_
  refine r_iload_n dJ6_bitCount_0f7a4_1 rfl ?_
  refine r_iconst dJ6_bitCount_0f7a4_2 (by decide) ?_
  refine r_iushr dJ6_bitCount_0f7a4_3 ?_
  refine r_ldcw (v := 1431655765) dJ6_bitCount_0f7a4_4 lk_J6_265 (by decide) ?_
  refine r_iand dJ6_bitCount_0f7a4_7 ?_
  refine r_isub dJ6_bitCount_0f7a4_8 ?_
  refine r_istore_n (ls2 := [(0, (w32 (v0 - (bAnd (bUshr v0 1) 1431655765))))]) dJ6_bitCount_0f7a4_9 (by decide) rfl ?_
  refine r_iload_n dJ6_bitCount_0f7a4_10 rfl ?_
  refine r_ldcw (v := 858993459) dJ6_bitCount_0f7a4_11 lk_J6_266 (by decide) ?_
  refine r_iand dJ6_bitCount_0f7a4_14 ?_
  refine r_iload_n dJ6_bitCount_0f7a4_15 rfl ?_
  refine r_iconst dJ6_bitCount_0f7a4_16 (by decide) ?_
  refine r_iushr dJ6_bitCount_0f7a4_17 ?_
  refine r_ldcw (v := 858993459) dJ6_bitCount_0f7a4_18 lk_J6_266 (by decide) ?_
  refine r_iand dJ6_bitCount_0f7a4_21 ?_
  refine r_iadd dJ6_bitCount_0f7a4_22 ?_
  refine r_istore_n (ls2 := [(0, (w32 ((bAnd (w32 (v0 - (bAnd (bUshr v0 1) 1431655765))) 858993459) + (bAnd (bUshr (w32 (v0 - (bAnd (bUshr v0 1) 1431655765))) 2) 858993459))))]) dJ6_bitCount_0f7a4_23 (by decide) rfl ?_
  refine r_iload_n dJ6_bitCount_0f7a4_24 rfl ?_
  refine r_iload_n dJ6_bitCount_0f7a4_25 rfl ?_
  refine r_iconst dJ6_bitCount_0f7a4_26 (by decide) ?_
  refine r_iushr dJ6_bitCount_0f7a4_27 ?_
  refine r_iadd dJ6_bitCount_0f7a4_28 ?_
  refine r_ldcw (v := 252645135) dJ6_bitCount_0f7a4_29 lk_J6_267 (by decide) ?_
  refine r_iand dJ6_bitCount_0f7a4_32 ?_
  refine r_istore_n (ls2 := [(0, (bAnd (w32 ((w32 ((bAnd (w32 (v0 - (bAnd (bUshr v0 1) 1431655765))) 858993459) + (bAnd (bUshr (w32 (v0 - (bAnd (bUshr v0 1) 1431655765))) 2) 858993459))) + (bUshr (w32 ((bAnd (w32 (v0 - (bAnd (bUshr v0 1) 1431655765))) 858993459) + (bAnd (bUshr (w32 (v0 - (bAnd (bUshr v0 1) 1431655765))) 2) 858993459))) 4))) 252645135))]) dJ6_bitCount_0f7a4_33 (by decide) rfl ?_
  refine r_iload_n dJ6_bitCount_0f7a4_34 rfl ?_
  refine r_iload_n dJ6_bitCount_0f7a4_35 rfl ?_
  refine r_bipush dJ6_bitCount_0f7a4_36 (by decide) rfl ?_
  refine r_iushr dJ6_bitCount_0f7a4_38 ?_
  refine r_iadd dJ6_bitCount_0f7a4_39 ?_
  refine r_istore_n (ls2 := [(0, (w32 ((bAnd (w32 ((w32 ((bAnd (w32 (v0 - (bAnd (bUshr v0 1) 1431655765))) 858993459) + (bAnd (bUshr (w32 (v0 - (bAnd (bUshr v0 1) 1431655765))) 2) 858993459))) + (bUshr (w32 ((bAnd (w32 (v0 - (bAnd (bUshr v0 1) 1431655765))) 858993459) + (bAnd (bUshr (w32 (v0 - (bAnd (bUshr v0 1) 1431655765))) 2) 858993459))) 4))) 252645135) + (bUshr (bAnd (w32 ((w32 ((bAnd (w32 (v0 - (bAnd (bUshr v0 1) 1431655765))) 858993459) + (bAnd (bUshr (w32 (v0 - (bAnd (bUshr v0 1) 1431655765))) 2) 858993459))) + (bUshr (w32 ((bAnd (w32 (v0 - (bAnd (bUshr v0 1) 1431655765))) 858993459) + (bAnd (bUshr (w32 (v0 - (bAnd (bUshr v0 1) 1431655765))) 2) 858993459))) 4))) 252645135) 8))))]) dJ6_bitCount_0f7a4_40 (by decide) rfl ?_
  refine r_iload_n dJ6_bitCount_0f7a4_41 rfl ?_
  refine r_iload_n dJ6_bitCount_0f7a4_42 rfl ?_
  refine r_bipush dJ6_bitCount_0f7a4_43 (by decide) rfl ?_
  refine r_iushr dJ6_bitCount_0f7a4_45 ?_
  refine r_iadd dJ6_bitCount_0f7a4_46 ?_
  refine r_istore_n (ls2 := [(0, (w32 ((w32 ((bAnd (w32 ((w32 ((bAnd (w32 (v0 - (bAnd (bUshr v0 1) 1431655765))) 858993459) + (bAnd (bUshr (w32 (v0 - (bAnd (bUshr v0 1) 1431655765))) 2) 858993459))) + (bUshr (w32 ((bAnd (w32 (v0 - (bAnd (bUshr v0 1) 1431655765))) 858993459) + (bAnd (bUshr (w32 (v0 - (bAnd (bUshr v0 1) 1431655765))) 2) 858993459))) 4))) 252645135) + (bUshr (bAnd (w32 ((w32 ((bAnd (w32 (v0 - (bAnd (bUshr v0 1) 1431655765))) 858993459) + (bAnd (bUshr (w32 (v0 - (bAnd (bUshr v0 1) 1431655765))) 2) 858993459))) + (bUshr (w32 ((bAnd (w32 (v0 - (bAnd (bUshr v0 1) 1431655765))) 858993459) + (bAnd (bUshr (w32 (v0 - (bAnd (bUshr v0 1) 1431655765))) 2) 858993459))) 4))) 252645135) 8))) + (bUshr (w32 ((bAnd (w32 ((w32 ((bAnd (w32 (v0 - (bAnd (bUshr v0 1) 1431655765))) 858993459) + (bAnd (bUshr (w32 (v0 - (bAnd (bUshr v0 1) 1431655765))) 2) 858993459))) + (bUshr (w32 ((bAnd (w32 (v0 - (bAnd (bUshr v0 1) 1431655765))) 858993459) + (bAnd (bUshr (w32 (v0 - (bAnd (bUshr v0 1) 1431655765))) 2) 858993459))) 4))) 252645135) + (bUshr (bAnd (w32 ((w32 ((bAnd (w32 (v0 - (bAnd (bUshr v0 1) 1431655765))) 858993459) + (bAnd (bUshr (w32 (v0 - (bAnd (bUshr v0 1) 1431655765))) 2) 858993459))) + (bUshr (w32 ((bAnd (w32 (v0 - (bAnd (bUshr v0 1) 1431655765))) 858993459) + (bAnd (bUshr (w32 (v0 - (bAnd (bUshr v0 1) 1431655765))) 2) 858993459))) 4))) 252645135) 8))) 16))))]) dJ6_bitCount_0f7a4_47 (by decide) rfl ?_
  refine r_iload_n dJ6_bitCount_0f7a4_48 rfl ?_
  refine r_bipush dJ6_bitCount_0f7a4_49 (by decide) rfl ?_
  refine r_iand dJ6_bitCount_0f7a4_51 ?_
  exact r_iret dJ6_bitCount_0f7a4_52 rfl h
abbrev P_X8_add_3 (g : GT) (e : Nat) (Q : Int → Sg → Prop) (s : Sg) (v1 : Int) (v2 : Int) : Prop := Wp g (e + 1) M_X8_add Q 3 [(17, 2), (0, v1), (0, v2)] [] s
set_option maxRecDepth 20000 in
theorem S_X8_add_3 {g : GT} {e : Nat} {Q : Int → Sg → Prop} {s : Sg} {v1 : Int} {v2 : Int} (h : ((v2 < 0 → Q 0 s) ∧ (¬ v2 < 0 → ((1600 ≤ (s 2 1) → Q 0 s) ∧ (¬ 1600 ≤ (s 2 1) → ((0 ≤ (s 2 1) ∧ (s 2 1) < 1600) ∧ ∀ s1, s1 = ups s 3 (s 2 1) (bSb (bSb (bShr v1 v2))) → (∀ s2, s2 = ups s1 2 1 (w32 ((s1 2 1) + 1)) → P_X8_add_3 g e Q s2 v1 (w32 (v2 + (-8)))))))))) : P_X8_add_3 g e Q s v1 v2 := by
  refine r_iload_n dX8_add_3 rfl ?_
  refine r_if_lt (tgt := 46) dX8_add_4 (by decide) (fun hc => ?_) (fun hc => ?_)
  · have h := h.1 hc
    exact r_ret dX8_add_46 rfl h
  · have h := h.2 hc
    refine r_aload_n dX8_add_7 rfl rfl ?_
    refine gf_X8_15 rfl dX8_add_8 ?_
    refine r_sipush dX8_add_11 (by decide) rfl ?_
    refine r_icmp_ge (tgt := 46) dX8_add_14 (by decide) (fun hc => ?_) (fun hc => ?_)
    · have h := h.1 hc
      exact r_ret dX8_add_46 rfl h
    · have h := h.2 hc
      refine r_aload_n dX8_add_17 rfl rfl ?_
      refine gf_X8_9 rfl dX8_add_18 ?_
      refine r_aload_n dX8_add_21 rfl rfl ?_
      refine gf_X8_15 rfl dX8_add_22 ?_
      refine r_iload_n dX8_add_25 rfl ?_
      refine r_iload_n dX8_add_26 rfl ?_
      refine r_ishr dX8_add_27 ?_
      refine r_i2b dX8_add_28 ?_
      obtain ⟨hb, h⟩ := h
      refine r_bast (n := 1600) rfl (by decide) dX8_add_29 hb ?_
      have h := h _ rfl
      generalize hs_s1 : ups s 3 (s 2 1) (bSb (bSb (bShr v1 v2))) = s1 at h ⊢
      refine r_aload_n dX8_add_30 rfl rfl ?_
      refine r_dup dX8_add_31 (show (17 : Nat) ≠ 2 by decide) ?_
      refine gf_X8_15 rfl dX8_add_32 ?_
      refine r_iconst dX8_add_35 (by decide) ?_
      refine r_iadd dX8_add_36 ?_
      refine pf_X8_15 rfl dX8_add_37 ?_
      have h := h _ rfl
      generalize hs_s2 : ups s1 2 1 (w32 ((s1 2 1) + 1)) = s2 at h ⊢
      refine r_iinc (ls2 := [(17, 2), (0, v1), (0, (w32 (v2 + (-8))))]) dX8_add_40 rfl (by decide) rfl ?_
      refine r_goto (tgt := 3) dX8_add_43 (by decide) ?_
      exact h
set_option maxRecDepth 20000 in
theorem S_X8_add {g : GT} {e : Nat} {Q : Int → Sg → Prop} {s : Sg} {v1 : Int} (h : inR v1 → P_X8_add_3 g e Q s v1 24) : Mw g (e + 1) M_X8_add [(17, 2), (0, v1)] s Q := by
  refine Mw.of (ls := [(17, 2), (0, v1), (9, 0)]) pn_X8_add (Nat.le_of_ble_eq_true rfl) rfl (fun hv => ?_)
  have h := h (hv _ (List.Mem.tail _ (List.Mem.head _)))
  refine r_bipush dX8_add_0 (by decide) rfl ?_
  refine r_istore_n (ls2 := [(17, 2), (0, v1), (0, 24)]) dX8_add_2 (by decide) rfl ?_
  exact h
set_option maxRecDepth 20000 in
theorem S_J9_max_7cf53 {g : GT} {e : Nat} {Q : Int → Sg → Prop} {s : Sg} {v0 : Int} {v1 : Int} (h : inR v0 → inR v1 → ((v0 < v1 → Q v1 s) ∧ (¬ v0 < v1 → Q v0 s))) : Mw g (e + 1) M_J9_max_7cf53 [(0, v0), (0, v1)] s Q := by
  refine Mw.of (ls := [(0, v0), (0, v1)]) pn_J9_max_7cf53 (Nat.le_of_ble_eq_true rfl) rfl (fun hv => ?_)
  have h := h (hv _ (List.Mem.head _)) (hv _ (List.Mem.tail _ (List.Mem.head _)))
  refine r_iload_n dJ9_max_7cf53_0 rfl ?_
  refine r_iload_n dJ9_max_7cf53_1 rfl ?_
  refine r_icmp_lt (tgt := 9) dJ9_max_7cf53_2 (by decide) (fun hc => ?_) (fun hc => ?_)
  · have h := h.1 hc
    refine r_iload_n dJ9_max_7cf53_9 rfl ?_
    exact r_iret dJ9_max_7cf53_10 rfl h
  · have h := h.2 hc
    refine r_iload_n dJ9_max_7cf53_5 rfl ?_
    refine r_goto (tgt := 10) dJ9_max_7cf53_6 (by decide) ?_
    exact r_iret dJ9_max_7cf53_10 rfl h
set_option maxRecDepth 20000 in
theorem S_J9_max_f86c9 {g : GT} {e : Nat} {Q : Int → Sg → Prop} {s : Sg} {v0 : Int} {v2 : Int} (h : inL v0 → inL v2 → (((lCmp v0 v2) < 0 → Q v2 s) ∧ (¬ (lCmp v0 v2) < 0 → Q v0 s))) : Mw g (e + 1) M_J9_max_f86c9 [(2, v0), (2, v2)] s Q := by
  refine Mw.of (ls := [(2, v0), (9, 0), (2, v2), (9, 0)]) pn_J9_max_f86c9 (Nat.le_of_ble_eq_true rfl) rfl (fun hv => ?_)
  have h := h (hv _ (List.Mem.head _)) (hv _ (List.Mem.tail _ (List.Mem.head _)))
  refine r_lload_n dJ9_max_f86c9_0 rfl ?_
  refine r_lload_n dJ9_max_f86c9_1 rfl ?_
  refine r_lcmp dJ9_max_f86c9_2 ?_
  refine r_if_lt (tgt := 10) dJ9_max_f86c9_3 (by decide) (fun hc => ?_) (fun hc => ?_)
  · have h := h.1 hc
    refine r_lload_n dJ9_max_f86c9_10 rfl ?_
    exact r_lret dJ9_max_f86c9_11 rfl h
  · have h := h.2 hc
    refine r_lload_n dJ9_max_f86c9_6 rfl ?_
    refine r_goto (tgt := 11) dJ9_max_f86c9_7 (by decide) ?_
    exact r_lret dJ9_max_f86c9_11 rfl h
set_option maxRecDepth 20000 in
theorem S_J9_min_7cf53 {g : GT} {e : Nat} {Q : Int → Sg → Prop} {s : Sg} {v0 : Int} {v1 : Int} (h : inR v0 → inR v1 → ((v1 < v0 → Q v1 s) ∧ (¬ v1 < v0 → Q v0 s))) : Mw g (e + 1) M_J9_min_7cf53 [(0, v0), (0, v1)] s Q := by
  refine Mw.of (ls := [(0, v0), (0, v1)]) pn_J9_min_7cf53 (Nat.le_of_ble_eq_true rfl) rfl (fun hv => ?_)
  have h := h (hv _ (List.Mem.head _)) (hv _ (List.Mem.tail _ (List.Mem.head _)))
  refine r_iload_n dJ9_min_7cf53_0 rfl ?_
  refine r_iload_n dJ9_min_7cf53_1 rfl ?_
  refine r_icmp_gt (tgt := 9) dJ9_min_7cf53_2 (by decide) (fun hc => ?_) (fun hc => ?_)
  · have h := h.1 hc
    refine r_iload_n dJ9_min_7cf53_9 rfl ?_
    exact r_iret dJ9_min_7cf53_10 rfl h
  · have h := h.2 hc
    refine r_iload_n dJ9_min_7cf53_5 rfl ?_
    refine r_goto (tgt := 10) dJ9_min_7cf53_6 (by decide) ?_
    exact r_iret dJ9_min_7cf53_10 rfl h
set_option maxRecDepth 20000 in
theorem S_J9_min_f86c9 {g : GT} {e : Nat} {Q : Int → Sg → Prop} {s : Sg} {v0 : Int} {v2 : Int} (h : inL v0 → inL v2 → ((0 < (lCmp v0 v2) → Q v2 s) ∧ (¬ 0 < (lCmp v0 v2) → Q v0 s))) : Mw g (e + 1) M_J9_min_f86c9 [(2, v0), (2, v2)] s Q := by
  refine Mw.of (ls := [(2, v0), (9, 0), (2, v2), (9, 0)]) pn_J9_min_f86c9 (Nat.le_of_ble_eq_true rfl) rfl (fun hv => ?_)
  have h := h (hv _ (List.Mem.head _)) (hv _ (List.Mem.tail _ (List.Mem.head _)))
  refine r_lload_n dJ9_min_f86c9_0 rfl ?_
  refine r_lload_n dJ9_min_f86c9_1 rfl ?_
  refine r_lcmp dJ9_min_f86c9_2 ?_
  refine r_if_gt (tgt := 10) dJ9_min_f86c9_3 (by decide) (fun hc => ?_) (fun hc => ?_)
  · have h := h.1 hc
    refine r_lload_n dJ9_min_f86c9_10 rfl ?_
    exact r_lret dJ9_min_f86c9_11 rfl h
  · have h := h.2 hc
    refine r_lload_n dJ9_min_f86c9_6 rfl ?_
    refine r_goto (tgt := 11) dJ9_min_f86c9_7 (by decide) ?_
    exact r_lret dJ9_min_f86c9_11 rfl h
