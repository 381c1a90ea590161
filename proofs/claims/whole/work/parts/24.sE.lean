set_option maxRecDepth 20000 in
theorem S_X12_refuse {g : GT} {e : Nat} {Q : Int → Sg → Prop} {s : Sg} {v1 : Int} (h : inR v1 → ((0 ≤ v1 ∧ v1 < 6) ∧ ((0 ≤ v1 ∧ v1 < 6) ∧ ∀ s1, s1 = ups s 91 v1 (w32 ((s 91 v1) + 1)) → Q (-1) s1))) : Mw g (e + 1) M_X12_refuse [(20, 1), (0, v1)] s Q := by
  refine Mw.of (ls := [(20, 1), (0, v1)]) pn_X12_refuse (Nat.le_of_ble_eq_true rfl) rfl (fun hv => ?_)
  have h := h (hv _ (List.Mem.tail _ (List.Mem.head _)))
  refine r_aload_n dX12_refuse_0 rfl rfl ?_
  refine gf_X12_72 rfl dX12_refuse_1 ?_
  refine r_iload_n dX12_refuse_4 rfl ?_
  refine r_dup2 dX12_refuse_5 (show (0 : Nat) ≠ 2 by decide) (show (34 : Nat) ≠ 2 by decide) ?_
  obtain ⟨hb, h⟩ := h
  refine r_iald (n := 6) rfl (by decide) dX12_refuse_6 hb ?_
  refine r_iconst dX12_refuse_7 (by decide) ?_
  refine r_iadd dX12_refuse_8 ?_
  obtain ⟨hb, h⟩ := h
  refine r_iast (n := 6) rfl (by decide) dX12_refuse_9 hb ?_
  have h := h _ rfl
  generalize hs_s1 : ups s 91 v1 (w32 ((s 91 v1) + 1)) = s1 at h ⊢
  refine r_iconst dX12_refuse_10 (by decide) ?_
  exact r_iret dX12_refuse_11 rfl h
set_option maxRecDepth 20000 in
theorem S_X12_feed {g : GT} {e : Nat} {Q : Int → Sg → Prop} {s : Sg} {v1 : Int} {v2 : Int} {v3 : Int} {v4 : Int} {v5 : Int} (h : inR v1 → inR v2 → inR v3 → inR v4 → inR v5 → (((w32 ((s 2 1) + 20)) ≤ 1600 → (Mw g e M_X8_add [(17, 2), (0, v1)] s (fun _ s2 => (Mw g e M_X8_add [(17, 2), (0, v2)] s2 (fun _ s4 => (Mw g e M_X8_add [(17, 2), (0, v3)] s4 (fun _ s6 => (Mw g e M_X8_add [(17, 2), (0, v4)] s6 (fun _ s8 => (Mw g e M_X8_add [(17, 2), (0, v5)] s8 (fun _ s10 => Q (s10 2 1) s10))))))))))) ∧ (¬ (w32 ((s 2 1) + 20)) ≤ 1600 → (Mw g e M_X12_refuse [(20, 1), (0, 0)] s (fun r11 s12 => Q r11 s12))))) : Mw g (e + 1) M_X12_feed [(20, 1), (0, v1), (0, v2), (0, v3), (0, v4), (0, v5)] s Q := by
  refine Mw.of (ls := [(20, 1), (0, v1), (0, v2), (0, v3), (0, v4), (0, v5)]) pn_X12_feed (Nat.le_of_ble_eq_true rfl) rfl (fun hv => ?_)
  have h := h (hv _ (List.Mem.tail _ (List.Mem.head _))) (hv _ (List.Mem.tail _ (List.Mem.tail _ (List.Mem.head _)))) (hv _ (List.Mem.tail _ (List.Mem.tail _ (List.Mem.tail _ (List.Mem.head _))))) (hv _ (List.Mem.tail _ (List.Mem.tail _ (List.Mem.tail _ (List.Mem.tail _ (List.Mem.head _)))))) (hv _ (List.Mem.tail _ (List.Mem.tail _ (List.Mem.tail _ (List.Mem.tail _ (List.Mem.tail _ (List.Mem.head _)))))))
  refine r_aload_n dX12_feed_0 rfl rfl ?_
  refine gf_X12_10 rfl dX12_feed_1 ?_
  refine gf_X12_86 rfl dX12_feed_4 ?_
  refine r_bipush dX12_feed_7 (by decide) rfl ?_
  refine r_iadd dX12_feed_9 ?_
  refine r_sipush dX12_feed_10 (by decide) rfl ?_
  refine r_icmp_le (tgt := 22) dX12_feed_13 (by decide) (fun hc => ?_) (fun hc => ?_)
  · have h := h.1 hc
    refine r_aload_n dX12_feed_22 rfl rfl ?_
    refine gf_X12_10 rfl dX12_feed_23 ?_
    refine r_iload_n dX12_feed_26 rfl ?_
    refine r_callV (ci := 7) (As := [(0, v1)]) (st := []) (by decide) ok_X12_93 rfl rfl (Nat.le_of_ble_eq_true rfl) dX12_feed_27 h (fun r1 s2 hv h => ?_)
    refine r_aload_n dX12_feed_30 rfl rfl ?_
    refine gf_X12_10 rfl dX12_feed_31 ?_
    refine r_iload_n dX12_feed_34 rfl ?_
    refine r_callV (ci := 7) (As := [(0, v2)]) (st := []) (by decide) ok_X12_93 rfl rfl (Nat.le_of_ble_eq_true rfl) dX12_feed_35 h (fun r3 s4 hv h => ?_)
    refine r_aload_n dX12_feed_38 rfl rfl ?_
    refine gf_X12_10 rfl dX12_feed_39 ?_
    refine r_iload_n dX12_feed_42 rfl ?_
    refine r_callV (ci := 7) (As := [(0, v3)]) (st := []) (by decide) ok_X12_93 rfl rfl (Nat.le_of_ble_eq_true rfl) dX12_feed_43 h (fun r5 s6 hv h => ?_)
    refine r_aload_n dX12_feed_46 rfl rfl ?_
    refine gf_X12_10 rfl dX12_feed_47 ?_
    refine r_iload dX12_feed_50 rfl ?_
    refine r_callV (ci := 7) (As := [(0, v4)]) (st := []) (by decide) ok_X12_93 rfl rfl (Nat.le_of_ble_eq_true rfl) dX12_feed_52 h (fun r7 s8 hv h => ?_)
    refine r_aload_n dX12_feed_55 rfl rfl ?_
    refine gf_X12_10 rfl dX12_feed_56 ?_
    refine r_iload dX12_feed_59 rfl ?_
    refine r_callV (ci := 7) (As := [(0, v5)]) (st := []) (by decide) ok_X12_93 rfl rfl (Nat.le_of_ble_eq_true rfl) dX12_feed_61 h (fun r9 s10 hv h => ?_)
    refine r_aload_n dX12_feed_64 rfl rfl ?_
    refine gf_X12_10 rfl dX12_feed_65 ?_
    refine gf_X12_86 rfl dX12_feed_68 ?_
    exact r_iret dX12_feed_71 rfl h
  · have h := h.2 hc
    refine r_aload_n dX12_feed_16 rfl rfl ?_
    refine r_iconst dX12_feed_17 (by decide) ?_
    refine r_callV (ci := 10) (As := [(0, 0)]) (st := []) (by decide) ok_X12_89 rfl rfl (Nat.le_of_ble_eq_true rfl) dX12_feed_18 h (fun r11 s12 hv h => ?_)
    exact r_iret dX12_feed_21 rfl h
abbrev P_X12_end_15 (g : GT) (e : Nat) (Q : Int → Sg → Prop) (s : Sg) : Prop := Wp g (e + 1) M_X12_end Q 15 [(20, 1), (9, 0)] [] s
set_option maxRecDepth 20000 in
theorem S_X12_end_15 {g : GT} {e : Nat} {Q : Int → Sg → Prop} {s : Sg} (h : (Mw g e M_X12_refuse [(20, 1), (0, 0)] s (fun r1 s2 => Q 0 s2))) : P_X12_end_15 g e Q s := by
  refine r_aload_n dX12_end_15 rfl rfl ?_
  refine r_iconst dX12_end_16 (by decide) ?_
  refine r_callV (ci := 10) (As := [(0, 0)]) (st := []) (by decide) ok_X12_89 rfl rfl (Nat.le_of_ble_eq_true rfl) dX12_end_17 h (fun r1 s2 hv h => ?_)
  refine r_pop dX12_end_20 (show (0 : Nat) ≠ 2 by decide) ?_
  refine r_iconst dX12_end_21 (by decide) ?_
  exact r_zret dX12_end_22 rfl (by decide) h
set_option maxRecDepth 20000 in
theorem S_X12_end {g : GT} {e : Nat} {Q : Int → Sg → Prop} {s : Sg} {v1 : Int} (h : inR v1 → ((v1 < 0 → P_X12_end_15 g e Q s) ∧ (¬ v1 < 0 → ((v1 ≤ (s 2 1) → (∀ s1, s1 = ups s 2 1 v1 → Q 1 s1)) ∧ (¬ v1 ≤ (s 2 1) → P_X12_end_15 g e Q s))))) : Mw g (e + 1) M_X12_end [(20, 1), (0, v1)] s Q := by
  refine Mw.of (ls := [(20, 1), (0, v1)]) pn_X12_end (Nat.le_of_ble_eq_true rfl) rfl (fun hv => ?_)
  have h := h (hv _ (List.Mem.tail _ (List.Mem.head _)))
  refine r_iload_n dX12_end_0 rfl ?_
  refine r_if_lt (tgt := 15) dX12_end_1 (by decide) (fun hc => ?_) (fun hc => ?_)
  · have h := h.1 hc
    exact r_fgt [true, false] rfl h
  · have h := h.2 hc
    refine r_iload_n dX12_end_4 rfl ?_
    refine r_aload_n dX12_end_5 rfl rfl ?_
    refine gf_X12_10 rfl dX12_end_6 ?_
    refine gf_X12_86 rfl dX12_end_9 ?_
    refine r_icmp_le (tgt := 23) dX12_end_12 (by decide) (fun hc => ?_) (fun hc => ?_)
    · have h := h.1 hc
      refine r_aload_n dX12_end_23 rfl rfl ?_
      refine gf_X12_10 rfl dX12_end_24 ?_
      refine r_iload_n dX12_end_27 rfl ?_
      refine pf_X12_86 rfl dX12_end_28 ?_
      have h := h _ rfl
      generalize hs_s1 : ups s 2 1 v1 = s1 at h ⊢
      refine r_iconst dX12_end_31 (by decide) ?_
      exact r_zret dX12_end_32 rfl (by decide) h
    · have h := h.2 hc
      exact r_fgt [true, false] rfl h
set_option maxRecDepth 20000 in
theorem S_X12_settleIn {g : GT} {e : Nat} {Q : Int → Sg → Prop} {s : Sg} (h : (∀ s1, s1 = ups s 1 8 (s 1 9) → (∀ s2, s2 = ups s1 1 9 (s 1 8) → (Mw g e M_X11_begin [(19, 48), (18, (s2 1 8))] s2 (fun _ s4 => (Mw g e M_X1_forget [(10, 65)] s4 (fun _ s6 => (Mw g e M_X7_forget [(16, 87), (18, (s6 1 8))] s6 (fun _ s8 => Q 0 s8))))))))) : Mw g (e + 1) M_X12_settleIn [(20, 1)] s Q := by
  refine Mw.of (ls := [(20, 1), (9, 0)]) pn_X12_settleIn (Nat.le_of_ble_eq_true rfl) rfl (fun hv => ?_)
  refine r_aload_n dX12_settleIn_0 rfl rfl ?_
  refine gf_X12_19 rfl dX12_settleIn_1 ?_
  refine r_astore_n (ls2 := [(20, 1), (18, (s 1 8))]) dX12_settleIn_4 rfl (by decide) rfl ?_
  refine r_aload_n dX12_settleIn_5 rfl rfl ?_
  refine r_aload_n dX12_settleIn_6 rfl rfl ?_
  refine gf_X12_23 rfl dX12_settleIn_7 ?_
  refine pf_X12_19 rfl dX12_settleIn_10 ?_
  have h := h _ rfl
  generalize hs_s1 : ups s 1 8 (s 1 9) = s1 at h ⊢
  refine r_aload_n dX12_settleIn_13 rfl rfl ?_
  refine r_aload_n dX12_settleIn_14 rfl rfl ?_
  refine pf_X12_23 rfl dX12_settleIn_15 ?_
  have h := h _ rfl
  generalize hs_s2 : ups s1 1 9 (s 1 8) = s2 at h ⊢
  refine r_aload_n dX12_settleIn_18 rfl rfl ?_
  refine gf_X12_40 rfl dX12_settleIn_19 ?_
  refine r_aload_n dX12_settleIn_22 rfl rfl ?_
  refine gf_X12_19 rfl dX12_settleIn_23 ?_
  refine r_callV (ci := 9) (As := [(18, (s2 1 8))]) (st := []) (by decide) ok_X12_122 rfl rfl (Nat.le_of_ble_eq_true rfl) dX12_settleIn_26 h (fun r3 s4 hv h => ?_)
  refine r_aload_n dX12_settleIn_29 rfl rfl ?_
  refine gf_X12_54 rfl dX12_settleIn_30 ?_
  refine r_callV (ci := 0) (As := []) (st := []) (by decide) ok_X12_123 rfl rfl (Nat.le_of_ble_eq_true rfl) dX12_settleIn_33 h (fun r5 s6 hv h => ?_)
  refine r_aload_n dX12_settleIn_36 rfl rfl ?_
  refine gf_X12_61 rfl dX12_settleIn_37 ?_
  refine r_aload_n dX12_settleIn_40 rfl rfl ?_
  refine gf_X12_19 rfl dX12_settleIn_41 ?_
  refine r_callV (ci := 6) (As := [(18, (s6 1 8))]) (st := []) (by decide) ok_X12_126 rfl rfl (Nat.le_of_ble_eq_true rfl) dX12_settleIn_44 h (fun r7 s8 hv h => ?_)
  exact r_ret dX12_settleIn_47 rfl h
abbrev P_X12_town_15 (g : GT) (e : Nat) (Q : Int → Sg → Prop) (s : Sg) (v1 : Int) (v2 : Int) : Prop := Wp g (e + 1) M_X12_town Q 15 [(20, 1), (0, v1), (0, v2)] [] s
abbrev P_X12_town_49 (g : GT) (e : Nat) (Q : Int → Sg → Prop) (s : Sg) (v1 : Int) : Prop := Wp g (e + 1) M_X12_town Q 49 [(20, 1), (0, v1), (9, 0)] [] s
set_option maxRecDepth 20000 in
theorem S_X12_town_15 {g : GT} {e : Nat} {Q : Int → Sg → Prop} {s : Sg} {v1 : Int} {v2 : Int} (h : ((80 < v2 → P_X12_town_49 g e Q s v1) ∧ (¬ 80 < v2 → (Mw g e M_X4_hasMore [(13, 46)] s (fun r1 s2 => ((r1 = 0 → P_X12_town_49 g e Q s2 v1) ∧ (¬ r1 = 0 → (Mw g e M_X4_statement [(13, 46), (0, v2)] s2 (fun _ s4 => P_X12_town_15 g e Q s4 (w32 (v2 + 1)) (w32 (v2 + 1))))))))))) : P_X12_town_15 g e Q s v1 v2 := by
  refine r_iload_n dX12_town_15 rfl ?_
  refine r_bipush dX12_town_16 (by decide) rfl ?_
  refine r_icmp_gt (tgt := 49) dX12_town_18 (by decide) (fun hc => ?_) (fun hc => ?_)
  · have h := h.1 hc
    exact r_fgt [true, true, false] rfl h
  · have h := h.2 hc
    refine r_aload_n dX12_town_21 rfl rfl ?_
    refine gf_X12_31 rfl dX12_town_22 ?_
    refine r_callV (ci := 3) (As := []) (st := []) (by decide) ok_X12_100 rfl rfl (Nat.le_of_ble_eq_true rfl) dX12_town_25 h (fun r1 s2 hv h => ?_)
    refine r_if_eq (tgt := 49) dX12_town_28 (by decide) (fun hc => ?_) (fun hc => ?_)
    · have h := h.1 hc
      exact r_fgt [true, true, false] rfl h
    · have h := h.2 hc
      refine r_aload_n dX12_town_31 rfl rfl ?_
      refine gf_X12_31 rfl dX12_town_32 ?_
      refine r_iload_n dX12_town_35 rfl ?_
      refine r_callV (ci := 3) (As := [(0, v2)]) (st := []) (by decide) ok_X12_104 rfl rfl (Nat.le_of_ble_eq_true rfl) dX12_town_36 h (fun r3 s4 hv h => ?_)
      refine r_iload_n dX12_town_39 rfl ?_
      refine r_iconst dX12_town_40 (by decide) ?_
      refine r_iadd dX12_town_41 ?_
      refine r_istore_n (ls2 := [(20, 1), (0, (w32 (v2 + 1))), (0, v2)]) dX12_town_42 (by decide) rfl ?_
      refine r_iinc (ls2 := [(20, 1), (0, (w32 (v2 + 1))), (0, (w32 (v2 + 1)))]) dX12_town_43 rfl (by decide) rfl ?_
      refine r_goto (tgt := 15) dX12_town_46 (by decide) ?_
      exact h
set_option maxRecDepth 20000 in
theorem S_X12_town_49 {g : GT} {e : Nat} {Q : Int → Sg → Prop} {s : Sg} {v1 : Int} (h : (∀ s1, s1 = ups s 2 1 0 → (∀ s2, s2 = ups s1 1 10 (s1 47 6) → (∀ s3, s3 = ups s2 1 11 (s2 47 7) → (((s3 1 10) = 0 → (Mw g e M_X12_settleIn [(20, 1)] s3 (fun _ s5 => Q v1 s5))) ∧ (¬ (s3 1 10) = 0 → (Mw g e M_X12_refuse [(20, 1), (0, 1)] s3 (fun r6 s7 => Q r6 s7)))))))) : P_X12_town_49 g e Q s v1 := by
  refine r_aload_n dX12_town_49 rfl rfl ?_
  refine gf_X12_10 rfl dX12_town_50 ?_
  refine r_iconst dX12_town_53 (by decide) ?_
  refine pf_X12_86 rfl dX12_town_54 ?_
  have h := h _ rfl
  generalize hs_s1 : ups s 2 1 0 = s1 at h ⊢
  refine r_aload_n dX12_town_57 rfl rfl ?_
  refine r_aload_n dX12_town_58 rfl rfl ?_
  refine gf_X12_31 rfl dX12_town_59 ?_
  refine gf_X12_107 rfl dX12_town_62 ?_
  refine gf_X12_111 rfl dX12_town_65 ?_
  refine pf_X12_76 rfl dX12_town_68 ?_
  have h := h _ rfl
  generalize hs_s2 : ups s1 1 10 (s1 47 6) = s2 at h ⊢
  refine r_aload_n dX12_town_71 rfl rfl ?_
  refine r_aload_n dX12_town_72 rfl rfl ?_
  refine gf_X12_31 rfl dX12_town_73 ?_
  refine gf_X12_107 rfl dX12_town_76 ?_
  refine gf_X12_116 rfl dX12_town_79 ?_
  refine pf_X12_80 rfl dX12_town_82 ?_
  have h := h _ rfl
  generalize hs_s3 : ups s2 1 11 (s2 47 7) = s3 at h ⊢
  refine r_aload_n dX12_town_85 rfl rfl ?_
  refine gf_X12_76 rfl dX12_town_86 ?_
  refine r_if_eq (tgt := 98) dX12_town_89 (by decide) (fun hc => ?_) (fun hc => ?_)
  · have h := h.1 hc
    refine r_aload_n dX12_town_98 rfl rfl ?_
    refine r_callV (ci := 10) (As := []) (st := []) (by decide) ok_X12_119 rfl rfl (Nat.le_of_ble_eq_true rfl) dX12_town_99 h (fun r4 s5 hv h => ?_)
    refine r_iload_n dX12_town_102 rfl ?_
    exact r_iret dX12_town_103 rfl h
  · have h := h.2 hc
    refine r_aload_n dX12_town_92 rfl rfl ?_
    refine r_iconst dX12_town_93 (by decide) ?_
    refine r_callV (ci := 10) (As := [(0, 1)]) (st := []) (by decide) ok_X12_89 rfl rfl (Nat.le_of_ble_eq_true rfl) dX12_town_94 h (fun r6 s7 hv h => ?_)
    exact r_iret dX12_town_97 rfl h
set_option maxRecDepth 20000 in
theorem S_X12_town {g : GT} {e : Nat} {Q : Int → Sg → Prop} {s : Sg} (h : (Mw g e M_X4_begin [(13, 46), (18, (s 1 9))] s (fun _ s2 => P_X12_town_15 g e Q s2 0 0))) : Mw g (e + 1) M_X12_town [(20, 1)] s Q := by
  refine Mw.of (ls := [(20, 1), (9, 0), (9, 0)]) pn_X12_town (Nat.le_of_ble_eq_true rfl) rfl (fun hv => ?_)
  refine r_iconst dX12_town_0 (by decide) ?_
  refine r_istore_n (ls2 := [(20, 1), (0, 0), (9, 0)]) dX12_town_1 (by decide) rfl ?_
  refine r_aload_n dX12_town_2 rfl rfl ?_
  refine gf_X12_31 rfl dX12_town_3 ?_
  refine r_aload_n dX12_town_6 rfl rfl ?_
  refine gf_X12_23 rfl dX12_town_7 ?_
  refine r_callV (ci := 3) (As := [(18, (s 1 9))]) (st := []) (by decide) ok_X12_97 rfl rfl (Nat.le_of_ble_eq_true rfl) dX12_town_10 h (fun r1 s2 hv h => ?_)
  refine r_iconst dX12_town_13 (by decide) ?_
  refine r_istore_n (ls2 := [(20, 1), (0, 0), (0, 0)]) dX12_town_14 (by decide) rfl ?_
  exact h
set_option maxRecDepth 20000 in
theorem S_X12_fault {g : GT} {e : Nat} {Q : Int → Sg → Prop} {s : Sg} {v1 : Int} (h : inR v1 → ((v1 = 0 → Q (s 1 10) s) ∧ (v1 = 1 → Q (s 1 11) s) ∧ ((¬ v1 = 0 ∧ ¬ v1 = 1) → Q (-1) s))) : Mw g (e + 1) M_X12_fault [(20, 1), (0, v1)] s Q := by
  refine Mw.of (ls := [(20, 1), (0, v1)]) pn_X12_fault (Nat.le_of_ble_eq_true rfl) rfl (fun hv => ?_)
  have h := h (hv _ (List.Mem.tail _ (List.Mem.head _)))
  refine r_iload_n dX12_fault_0 rfl ?_
  obtain ⟨h_0, h_1, h_d⟩ := h
  rcases (show (¬ v1 = 0 ∧ ¬ v1 = 1) ∨ v1 = 0 ∨ v1 = 1 by omega) with hk | hk | hk
  · have h := h_d hk
    refine r_lookup (tgt := 38) (off := 37) dX12_fault_1 (by decide) (by simp [Op.lookupswitch.offset, hk]; try omega) (by decide) ?_
    refine r_iconst dX12_fault_38 (by decide) ?_
    exact r_iret dX12_fault_39 rfl h
  · have h := h_0 hk
    refine r_lookup (tgt := 28) (off := 27) dX12_fault_1 (by decide) (by rw [hk]; rfl) (by decide) ?_
    refine r_aload_n dX12_fault_28 rfl rfl ?_
    refine gf_X12_76 rfl dX12_fault_29 ?_
    exact r_iret dX12_fault_32 rfl h
  · have h := h_1 hk
    refine r_lookup (tgt := 33) (off := 32) dX12_fault_1 (by decide) (by rw [hk]; rfl) (by decide) ?_
    refine r_aload_n dX12_fault_33 rfl rfl ?_
    refine gf_X12_80 rfl dX12_fault_34 ?_
    exact r_iret dX12_fault_37 rfl h
set_option maxRecDepth 20000 in
theorem S_X12_has {g : GT} {e : Nat} {Q : Int → Sg → Prop} {s : Sg} {v1 : Int} (h : inR v1 → ((v1 = 0 → (Mw g e M_X9_homeCount [(18, (s 1 8))] s (fun r1 s2 => Q r1 s2))) ∧ (v1 = 1 → (Mw g e M_X9_childCount [(18, (s 1 8))] s (fun r3 s4 => Q r3 s4))) ∧ (v1 = 2 → (Mw g e M_X9_wallCount [(18, (s 1 8))] s (fun r5 s6 => Q r5 s6))) ∧ (v1 = 3 → Q (s (s 1 8) 13) s) ∧ (v1 = 4 → (Mw g e M_J6_bitCount_0f7a4 [(0, (s 48 2))] s (fun r7 s8 => Q (w32 ((s (s 1 8) 13) - r7)) s8))) ∧ (v1 = 5 → Q (s 48 1) s) ∧ (v1 = 6 → (Mw g e M_X11_bitsAt [(19, 48), (0, 2)] s (fun r9 s10 => (Mw g e M_J6_bitCount_0f7a4 [(0, r9)] s10 (fun r11 s12 => Q r11 s12))))) ∧ (v1 = 7 → (Mw g e M_X11_bitsAt [(19, 48), (0, 3)] s (fun r13 s14 => (Mw g e M_J6_bitCount_0f7a4 [(0, r13)] s14 (fun r15 s16 => Q r15 s16))))) ∧ (v1 = 8 → (Mw g e M_X11_fullWalls [(19, 48)] s (fun r17 s18 => Q r17 s18))) ∧ (v1 = 9 → Q (s 48 9) s) ∧ (v1 = 10 → Q (s 65 1) s) ∧ (v1 = 11 → Q (s 1 12) s) ∧ ((v1 < 0 ∨ 11 < v1) → Q (-1) s))) : Mw g (e + 1) M_X12_has [(20, 1), (0, v1)] s Q := by
  refine Mw.of (ls := [(20, 1), (0, v1)]) pn_X12_has (Nat.le_of_ble_eq_true rfl) rfl (fun hv => ?_)
  have h := h (hv _ (List.Mem.tail _ (List.Mem.head _)))
  refine r_iload_n dX12_has_0 rfl ?_
  obtain ⟨h_0, h_1, h_2, h_3, h_4, h_5, h_6, h_7, h_8, h_9, h_10, h_11, h_d⟩ := h
  rcases (show (v1 < 0 ∨ 11 < v1) ∨ v1 = 0 ∨ v1 = 1 ∨ v1 = 2 ∨ v1 = 3 ∨ v1 = 4 ∨ v1 = 5 ∨ v1 = 6 ∨ v1 = 7 ∨ v1 = 8 ∨ v1 = 9 ∨ v1 = 10 ∨ v1 = 11 by omega) with hk | hk | hk | hk | hk | hk | hk | hk | hk | hk | hk | hk | hk
  · have h := h_d hk
    refine r_tableOut (tgt := 176) dX12_has_1 hk (by decide) ?_
    refine r_iconst dX12_has_176 (by decide) ?_
    exact r_iret dX12_has_177 rfl h
  · have h := h_0 hk
    refine r_tableIn (tgt := 64) dX12_has_1 (by omega) (by omega) (by rw [hk]; rfl) (by decide) ?_
    refine r_aload_n dX12_has_64 rfl rfl ?_
    refine gf_X12_19 rfl dX12_has_65 ?_
    refine r_callV (ci := 8) (As := []) (st := []) (by decide) ok_X12_128 rfl rfl (Nat.le_of_ble_eq_true rfl) dX12_has_68 h (fun r1 s2 hv h => ?_)
    exact r_iret dX12_has_71 rfl h
  · have h := h_1 hk
    refine r_tableIn (tgt := 72) dX12_has_1 (by omega) (by omega) (by rw [hk]; rfl) (by decide) ?_
    refine r_aload_n dX12_has_72 rfl rfl ?_
    refine gf_X12_19 rfl dX12_has_73 ?_
    refine r_callV (ci := 8) (As := []) (st := []) (by decide) ok_X12_132 rfl rfl (Nat.le_of_ble_eq_true rfl) dX12_has_76 h (fun r3 s4 hv h => ?_)
    exact r_iret dX12_has_79 rfl h
  · have h := h_2 hk
    refine r_tableIn (tgt := 80) dX12_has_1 (by omega) (by omega) (by rw [hk]; rfl) (by decide) ?_
    refine r_aload_n dX12_has_80 rfl rfl ?_
    refine gf_X12_19 rfl dX12_has_81 ?_
    refine r_callV (ci := 8) (As := []) (st := []) (by decide) ok_X12_135 rfl rfl (Nat.le_of_ble_eq_true rfl) dX12_has_84 h (fun r5 s6 hv h => ?_)
    exact r_iret dX12_has_87 rfl h
  · have h := h_3 hk
    refine r_tableIn (tgt := 88) dX12_has_1 (by omega) (by omega) (by rw [hk]; rfl) (by decide) ?_
    refine r_aload_n dX12_has_88 rfl rfl ?_
    refine gf_X12_19 rfl dX12_has_89 ?_
    refine gf_X12_138 rfl dX12_has_92 ?_
    exact r_iret dX12_has_95 rfl h
  · have h := h_4 hk
    refine r_tableIn (tgt := 96) dX12_has_1 (by omega) (by omega) (by rw [hk]; rfl) (by decide) ?_
    refine r_aload_n dX12_has_96 rfl rfl ?_
    refine gf_X12_19 rfl dX12_has_97 ?_
    refine gf_X12_138 rfl dX12_has_100 ?_
    refine r_aload_n dX12_has_103 rfl rfl ?_
    refine gf_X12_40 rfl dX12_has_104 ?_
    refine gf_X12_141 rfl dX12_has_107 ?_
    refine r_callS (As := [(0, (s 48 2))]) (st := [(0, (s (s 1 8) 13))]) ok_X12_144 rfl rfl (Nat.le_of_ble_eq_true rfl) dX12_has_110 h (fun r7 s8 hv h => ?_)
    refine r_isub dX12_has_113 ?_
    exact r_iret dX12_has_114 rfl h
  · have h := h_5 hk
    refine r_tableIn (tgt := 115) dX12_has_1 (by omega) (by omega) (by rw [hk]; rfl) (by decide) ?_
    refine r_aload_n dX12_has_115 rfl rfl ?_
    refine gf_X12_40 rfl dX12_has_116 ?_
    refine gf_X12_149 rfl dX12_has_119 ?_
    exact r_iret dX12_has_122 rfl h
  · have h := h_6 hk
    refine r_tableIn (tgt := 123) dX12_has_1 (by omega) (by omega) (by rw [hk]; rfl) (by decide) ?_
    refine r_aload_n dX12_has_123 rfl rfl ?_
    refine gf_X12_40 rfl dX12_has_124 ?_
    refine r_iconst dX12_has_127 (by decide) ?_
    refine r_callV (ci := 9) (As := [(0, 2)]) (st := []) (by decide) ok_X12_152 rfl rfl (Nat.le_of_ble_eq_true rfl) dX12_has_128 h (fun r9 s10 hv h => ?_)
    refine r_callS (As := [(0, r9)]) (st := []) ok_X12_144 rfl rfl (Nat.le_of_ble_eq_true rfl) dX12_has_131 h (fun r11 s12 hv h => ?_)
    exact r_iret dX12_has_134 rfl h
  · have h := h_7 hk
    refine r_tableIn (tgt := 135) dX12_has_1 (by omega) (by omega) (by rw [hk]; rfl) (by decide) ?_
    refine r_aload_n dX12_has_135 rfl rfl ?_
    refine gf_X12_40 rfl dX12_has_136 ?_
    refine r_iconst dX12_has_139 (by decide) ?_
    refine r_callV (ci := 9) (As := [(0, 3)]) (st := []) (by decide) ok_X12_152 rfl rfl (Nat.le_of_ble_eq_true rfl) dX12_has_140 h (fun r13 s14 hv h => ?_)
    refine r_callS (As := [(0, r13)]) (st := []) ok_X12_144 rfl rfl (Nat.le_of_ble_eq_true rfl) dX12_has_143 h (fun r15 s16 hv h => ?_)
    exact r_iret dX12_has_146 rfl h
  · have h := h_8 hk
    refine r_tableIn (tgt := 147) dX12_has_1 (by omega) (by omega) (by rw [hk]; rfl) (by decide) ?_
    refine r_aload_n dX12_has_147 rfl rfl ?_
    refine gf_X12_40 rfl dX12_has_148 ?_
    refine r_callV (ci := 9) (As := []) (st := []) (by decide) ok_X12_155 rfl rfl (Nat.le_of_ble_eq_true rfl) dX12_has_151 h (fun r17 s18 hv h => ?_)
    exact r_iret dX12_has_154 rfl h
  · have h := h_9 hk
    refine r_tableIn (tgt := 155) dX12_has_1 (by omega) (by omega) (by rw [hk]; rfl) (by decide) ?_
    refine r_aload_n dX12_has_155 rfl rfl ?_
    refine gf_X12_40 rfl dX12_has_156 ?_
    refine gf_X12_158 rfl dX12_has_159 ?_
    exact r_iret dX12_has_162 rfl h
  · have h := h_10 hk
    refine r_tableIn (tgt := 163) dX12_has_1 (by omega) (by omega) (by rw [hk]; rfl) (by decide) ?_
    refine r_aload_n dX12_has_163 rfl rfl ?_
    refine gf_X12_54 rfl dX12_has_164 ?_
    refine gf_X12_161 rfl dX12_has_167 ?_
    exact r_iret dX12_has_170 rfl h
  · have h := h_11 hk
    refine r_tableIn (tgt := 171) dX12_has_1 (by omega) (by omega) (by rw [hk]; rfl) (by decide) ?_
    refine r_aload_n dX12_has_171 rfl rfl ?_
    refine gf_X12_83 rfl dX12_has_172 ?_
    exact r_iret dX12_has_175 rfl h
abbrev P_X12_letter_58 (g : GT) (e : Nat) (Q : Int → Sg → Prop) (s : Sg) (v4 : Int) (v5 : Int) : Prop := Wp g (e + 1) M_X12_letter Q 58 [(9, 0), (9, 0), (9, 0), (9, 0), (0, v4), (0, v5)] [] s
set_option maxRecDepth 20000 in
theorem S_X12_letter_58 {g : GT} {e : Nat} {Q : Int → Sg → Prop} {s : Sg} {v4 : Int} {v5 : Int} (h : ((6 ≤ v5 → Q (Int.tmod v4 27) s) ∧ (¬ 6 ≤ v5 → P_X12_letter_58 g e Q s (w32 (Int.tdiv v4 27)) (w32 (v5 + 1))))) : P_X12_letter_58 g e Q s v4 v5 := by
  refine r_iload dX12_letter_58 rfl ?_
  refine r_bipush dX12_letter_60 (by decide) rfl ?_
  refine r_icmp_ge (tgt := 78) dX12_letter_62 (by decide) (fun hc => ?_) (fun hc => ?_)
  · have h := h.1 hc
    refine r_iload dX12_letter_78 rfl ?_
    refine r_bipush dX12_letter_80 (by decide) rfl ?_
    refine r_irem dX12_letter_82 (by decide) ?_
    exact r_iret dX12_letter_83 rfl h
  · have h := h.2 hc
    refine r_iload dX12_letter_65 rfl ?_
    refine r_bipush dX12_letter_67 (by decide) rfl ?_
    refine r_idiv dX12_letter_69 (by decide) ?_
    refine r_istore (ls2 := [(9, 0), (9, 0), (9, 0), (9, 0), (0, (w32 (Int.tdiv v4 27))), (0, v5)]) dX12_letter_70 (by decide) rfl ?_
    refine r_iinc (ls2 := [(9, 0), (9, 0), (9, 0), (9, 0), (0, (w32 (Int.tdiv v4 27))), (0, (w32 (v5 + 1)))]) dX12_letter_72 rfl (by decide) rfl ?_
    refine r_goto (tgt := 58) dX12_letter_75 (by decide) ?_
    exact h
set_option maxRecDepth 20000 in
theorem S_X12_letter {g : GT} {e : Nat} {Q : Int → Sg → Prop} {s : Sg} {v1 : Int} {v2 : Int} {v3 : Int} (h : inR v1 → inR v2 → inR v3 → ((v1 < 0 → Q (-1) s) ∧ (¬ v1 < 0 → ((2 < v1 → Q (-1) s) ∧ (¬ 2 < v1 → ((v3 < 0 → Q (-1) s) ∧ (¬ v3 < 0 → ((v3 < 6 → ((v2 < 0 → Q (-1) s) ∧ (¬ v2 < 0 → ((0 ≤ v1 ∧ v1 < 3) ∧ ((v2 < (s ((s 1 8) + 1) v1) → ((0 ≤ v1 ∧ v1 < 3) ∧ ((0 ≤ v2 ∧ v2 < 8) ∧ P_X12_letter_58 g e Q s (s ((((s 1 8) + 2) + 1) + v1) v2) (w32 (v3 + 1))))) ∧ (¬ v2 < (s ((s 1 8) + 1) v1) → Q (-1) s)))))) ∧ (¬ v3 < 6 → Q (-1) s))))))))) : Mw g (e + 1) M_X12_letter [(20, 1), (0, v1), (0, v2), (0, v3)] s Q := by
  refine Mw.of (ls := [(20, 1), (0, v1), (0, v2), (0, v3), (9, 0), (9, 0)]) pn_X12_letter (Nat.le_of_ble_eq_true rfl) rfl (fun hv => ?_)
  have h := h (hv _ (List.Mem.tail _ (List.Mem.head _))) (hv _ (List.Mem.tail _ (List.Mem.tail _ (List.Mem.head _)))) (hv _ (List.Mem.tail _ (List.Mem.tail _ (List.Mem.tail _ (List.Mem.head _)))))
  refine r_iload_n dX12_letter_0 rfl ?_
  refine r_if_lt (tgt := 19) dX12_letter_1 (by decide) (fun hc => ?_) (fun hc => ?_)
  · have h := h.1 hc
    refine r_iconst dX12_letter_19 (by decide) ?_
    exact r_iret dX12_letter_20 rfl h
  · have h := h.2 hc
    refine r_iload_n dX12_letter_4 rfl ?_
    refine r_iconst dX12_letter_5 (by decide) ?_
    refine r_icmp_gt (tgt := 19) dX12_letter_6 (by decide) (fun hc => ?_) (fun hc => ?_)
    · have h := h.1 hc
      refine r_iconst dX12_letter_19 (by decide) ?_
      exact r_iret dX12_letter_20 rfl h
    · have h := h.2 hc
      refine r_iload_n dX12_letter_9 rfl ?_
      refine r_if_lt (tgt := 19) dX12_letter_10 (by decide) (fun hc => ?_) (fun hc => ?_)
      · have h := h.1 hc
        refine r_iconst dX12_letter_19 (by decide) ?_
        exact r_iret dX12_letter_20 rfl h
      · have h := h.2 hc
        refine r_iload_n dX12_letter_13 rfl ?_
        refine r_bipush dX12_letter_14 (by decide) rfl ?_
        refine r_icmp_lt (tgt := 21) dX12_letter_16 (by decide) (fun hc => ?_) (fun hc => ?_)
        · have h := h.1 hc
          refine r_iload_n dX12_letter_21 rfl ?_
          refine r_if_lt (tgt := 38) dX12_letter_22 (by decide) (fun hc => ?_) (fun hc => ?_)
          · have h := h.1 hc
            refine r_iconst dX12_letter_38 (by decide) ?_
            exact r_iret dX12_letter_39 rfl h
          · have h := h.2 hc
            refine r_iload_n dX12_letter_25 rfl ?_
            refine r_aload_n dX12_letter_26 rfl rfl ?_
            refine gf_X12_19 rfl dX12_letter_27 ?_
            refine gf_X12_164 rfl dX12_letter_30 ?_
            refine r_iload_n dX12_letter_33 rfl ?_
            obtain ⟨hb, h⟩ := h
            refine r_iald (n := 3) rfl (by decide) dX12_letter_34 hb ?_
            refine r_icmp_lt (tgt := 40) dX12_letter_35 (by decide) (fun hc => ?_) (fun hc => ?_)
            · have h := h.1 hc
              refine r_aload_n dX12_letter_40 rfl rfl ?_
              refine gf_X12_19 rfl dX12_letter_41 ?_
              refine gf_X12_167 rfl dX12_letter_44 ?_
              refine r_iload_n dX12_letter_47 rfl ?_
              obtain ⟨hb, h⟩ := h
              refine r_aald (n := 3) (t2 := 33) rfl (by decide) rfl dX12_letter_48 hb ?_
              show Wp g (e + 1) M_X12_letter Q 49 [(20, 1), (0, v1), (0, v2), (0, v3), (9, 0), (9, 0)] [(33, ((((s 1 8) + 2) + 1) + v1))] s
              refine r_iload_n dX12_letter_49 rfl ?_
              obtain ⟨hb, h⟩ := h
              refine r_iald (n := 8) rfl (by decide) dX12_letter_50 hb ?_
              refine r_istore (ls2 := [(20, 1), (0, v1), (0, v2), (0, v3), (0, (s ((((s 1 8) + 2) + 1) + v1) v2)), (9, 0)]) dX12_letter_51 (by decide) rfl ?_
              refine r_iload_n dX12_letter_53 rfl ?_
              refine r_iconst dX12_letter_54 (by decide) ?_
              refine r_iadd dX12_letter_55 ?_
              refine r_istore (ls2 := [(20, 1), (0, v1), (0, v2), (0, v3), (0, (s ((((s 1 8) + 2) + 1) + v1) v2)), (0, (w32 (v3 + 1)))]) dX12_letter_56 (by decide) rfl ?_
              exact r_fgt [false, false, false, false, true, true] rfl h
            · have h := h.2 hc
              refine r_iconst dX12_letter_38 (by decide) ?_
              exact r_iret dX12_letter_39 rfl h
        · have h := h.2 hc
          refine r_iconst dX12_letter_19 (by decide) ?_
          exact r_iret dX12_letter_20 rfl h
set_option maxRecDepth 20000 in
theorem S_X12_home {g : GT} {e : Nat} {Q : Int → Sg → Prop} {s : Sg} {v1 : Int} {v2 : Int} (h : inR v1 → inR v2 → ((v1 < 0 → Q (-1) s) ∧ (¬ v1 < 0 → (Mw g e M_X9_homeCount [(18, (s 1 8))] s (fun r1 s2 => ((v1 < r1 → ((v2 = 0 → ((0 ≤ v1 ∧ v1 < 6) ∧ Q (s2 ((s2 1 8) + 6) v1) s2)) ∧ (v2 = 1 → ((0 ≤ v1 ∧ v1 < 6) ∧ Q (s2 ((s2 1 8) + 7) v1) s2)) ∧ (v2 = 2 → (Mw g e M_X11_livingAt [(19, 48), (0, v1)] s2 (fun r3 s4 => Q r3 s4))) ∧ ((v2 < 0 ∨ 2 < v2) → Q (-1) s2))) ∧ (¬ v1 < r1 → Q (-1) s2))))))) : Mw g (e + 1) M_X12_home [(20, 1), (0, v1), (0, v2)] s Q := by
  refine Mw.of (ls := [(20, 1), (0, v1), (0, v2)]) pn_X12_home (Nat.le_of_ble_eq_true rfl) rfl (fun hv => ?_)
  have h := h (hv _ (List.Mem.tail _ (List.Mem.head _))) (hv _ (List.Mem.tail _ (List.Mem.tail _ (List.Mem.head _))))
  refine r_iload_n dX12_home_0 rfl ?_
  refine r_if_lt (tgt := 15) dX12_home_1 (by decide) (fun hc => ?_) (fun hc => ?_)
  · have h := h.1 hc
    refine r_iconst dX12_home_15 (by decide) ?_
    exact r_iret dX12_home_16 rfl h
  · have h := h.2 hc
    refine r_iload_n dX12_home_4 rfl ?_
    refine r_aload_n dX12_home_5 rfl rfl ?_
    refine gf_X12_19 rfl dX12_home_6 ?_
    refine r_callV (ci := 8) (As := []) (st := [(0, v1)]) (by decide) ok_X12_128 rfl rfl (Nat.le_of_ble_eq_true rfl) dX12_home_9 h (fun r1 s2 hv h => ?_)
    refine r_icmp_lt (tgt := 17) dX12_home_12 (by decide) (fun hc => ?_) (fun hc => ?_)
    · have h := h.1 hc
      refine r_iload_n dX12_home_17 rfl ?_
      obtain ⟨h_0, h_1, h_2, h_d⟩ := h
      rcases (show (v2 < 0 ∨ 2 < v2) ∨ v2 = 0 ∨ v2 = 1 ∨ v2 = 2 by omega) with hk | hk | hk | hk
      · have h := h_d hk
        refine r_tableOut (tgt := 73) dX12_home_18 hk (by decide) ?_
        refine r_iconst dX12_home_73 (by decide) ?_
        exact r_iret dX12_home_74 rfl h
      · have h := h_0 hk
        refine r_tableIn (tgt := 44) dX12_home_18 (by omega) (by omega) (by rw [hk]; rfl) (by decide) ?_
        refine r_aload_n dX12_home_44 rfl rfl ?_
        refine gf_X12_19 rfl dX12_home_45 ?_
        refine gf_X12_171 rfl dX12_home_48 ?_
        refine r_iload_n dX12_home_51 rfl ?_
        obtain ⟨hb, h⟩ := h
        refine r_iald (n := 6) rfl (by decide) dX12_home_52 hb ?_
        exact r_iret dX12_home_53 rfl h
      · have h := h_1 hk
        refine r_tableIn (tgt := 54) dX12_home_18 (by omega) (by omega) (by rw [hk]; rfl) (by decide) ?_
        refine r_aload_n dX12_home_54 rfl rfl ?_
        refine gf_X12_19 rfl dX12_home_55 ?_
        refine gf_X12_174 rfl dX12_home_58 ?_
        refine r_iload_n dX12_home_61 rfl ?_
        obtain ⟨hb, h⟩ := h
        refine r_iald (n := 6) rfl (by decide) dX12_home_62 hb ?_
        exact r_iret dX12_home_63 rfl h
      · have h := h_2 hk
        refine r_tableIn (tgt := 64) dX12_home_18 (by omega) (by omega) (by rw [hk]; rfl) (by decide) ?_
        refine r_aload_n dX12_home_64 rfl rfl ?_
        refine gf_X12_40 rfl dX12_home_65 ?_
        refine r_iload_n dX12_home_68 rfl ?_
        refine r_callV (ci := 9) (As := [(0, v1)]) (st := []) (by decide) ok_X12_177 rfl rfl (Nat.le_of_ble_eq_true rfl) dX12_home_69 h (fun r3 s4 hv h => ?_)
        exact r_iret dX12_home_72 rfl h
    · have h := h.2 hc
      refine r_iconst dX12_home_15 (by decide) ?_
      exact r_iret dX12_home_16 rfl h
set_option maxRecDepth 20000 in
theorem S_X12_isChild {g : GT} {e : Nat} {Q : Int → Sg → Prop} {s : Sg} {v1 : Int} (h : inR v1 → ((v1 < 0 → Q 0 s) ∧ (¬ v1 < 0 → (Mw g e M_X9_childCount [(18, (s 1 8))] s (fun r1 s2 => ((r1 ≤ v1 → Q 0 s2) ∧ (¬ r1 ≤ v1 → Q 1 s2))))))) : Mw g (e + 1) M_X12_isChild [(20, 1), (0, v1)] s Q := by
  refine Mw.of (ls := [(20, 1), (0, v1)]) pn_X12_isChild (Nat.le_of_ble_eq_true rfl) rfl (fun hv => ?_)
  have h := h (hv _ (List.Mem.tail _ (List.Mem.head _)))
  refine r_iload_n dX12_isChild_0 rfl ?_
  refine r_if_lt (tgt := 19) dX12_isChild_1 (by decide) (fun hc => ?_) (fun hc => ?_)
  · have h := h.1 hc
    refine r_iconst dX12_isChild_19 (by decide) ?_
    exact r_zret dX12_isChild_20 rfl (by decide) h
  · have h := h.2 hc
    refine r_iload_n dX12_isChild_4 rfl ?_
    refine r_aload_n dX12_isChild_5 rfl rfl ?_
    refine gf_X12_19 rfl dX12_isChild_6 ?_
    refine r_callV (ci := 8) (As := []) (st := [(0, v1)]) (by decide) ok_X12_132 rfl rfl (Nat.le_of_ble_eq_true rfl) dX12_isChild_9 h (fun r1 s2 hv h => ?_)
    refine r_icmp_ge (tgt := 19) dX12_isChild_12 (by decide) (fun hc => ?_) (fun hc => ?_)
    · have h := h.1 hc
      refine r_iconst dX12_isChild_19 (by decide) ?_
      exact r_zret dX12_isChild_20 rfl (by decide) h
    · have h := h.2 hc
      refine r_iconst dX12_isChild_15 (by decide) ?_
      refine r_goto (tgt := 20) dX12_isChild_16 (by decide) ?_
      exact r_zret dX12_isChild_20 rfl (by decide) h
set_option maxRecDepth 20000 in
theorem S_X12_child {g : GT} {e : Nat} {Q : Int → Sg → Prop} {s : Sg} {v1 : Int} {v2 : Int} (h : inR v1 → inR v2 → (Mw g e M_X12_isChild [(20, 1), (0, v1)] s (fun r1 s2 => ((¬ r1 = 0 → ((v2 = 0 → ((0 ≤ v1 ∧ v1 < 8) ∧ Q (s2 49 v1) s2)) ∧ (v2 = 1 → ((0 ≤ v1 ∧ v1 < 8) ∧ Q (s2 ((s2 1 8) + 9) v1) s2)) ∧ (v2 = 2 → ((0 ≤ v1 ∧ v1 < 8) ∧ Q (s2 ((s2 1 8) + 10) v1) s2)) ∧ (v2 = 3 → (Mw g e M_X9_foes [(18, (s2 1 8)), (0, v1), (0, (s2 48 2))] s2 (fun r3 s4 => Q r3 s4))) ∧ ((v2 < 0 ∨ 3 < v2) → Q (-1) s2))) ∧ (r1 = 0 → Q (-1) s2))))) : Mw g (e + 1) M_X12_child [(20, 1), (0, v1), (0, v2)] s Q := by
  refine Mw.of (ls := [(20, 1), (0, v1), (0, v2)]) pn_X12_child (Nat.le_of_ble_eq_true rfl) rfl (fun hv => ?_)
  have h := h (hv _ (List.Mem.tail _ (List.Mem.head _))) (hv _ (List.Mem.tail _ (List.Mem.tail _ (List.Mem.head _))))
  refine r_aload_n dX12_child_0 rfl rfl ?_
  refine r_iload_n dX12_child_1 rfl ?_
  refine r_callV (ci := 10) (As := [(0, v1)]) (st := []) (by decide) ok_X12_180 rfl rfl (Nat.le_of_ble_eq_true rfl) dX12_child_2 h (fun r1 s2 hv h => ?_)
  refine r_if_ne (tgt := 10) dX12_child_5 (by decide) (fun hc => ?_) (fun hc => ?_)
  · have h := h.1 hc
    refine r_iload_n dX12_child_10 rfl ?_
    obtain ⟨h_0, h_1, h_2, h_3, h_d⟩ := h
    rcases (show (v2 < 0 ∨ 3 < v2) ∨ v2 = 0 ∨ v2 = 1 ∨ v2 = 2 ∨ v2 = 3 by omega) with hk | hk | hk | hk | hk
    · have h := h_d hk
      refine r_tableOut (tgt := 86) dX12_child_11 hk (by decide) ?_
      refine r_iconst dX12_child_86 (by decide) ?_
      exact r_iret dX12_child_87 rfl h
    · have h := h_0 hk
      refine r_tableIn (tgt := 40) dX12_child_11 (by omega) (by omega) (by rw [hk]; rfl) (by decide) ?_
      refine r_aload_n dX12_child_40 rfl rfl ?_
      refine gf_X12_40 rfl dX12_child_41 ?_
      refine gf_X12_184 rfl dX12_child_44 ?_
      show Wp g (e + 1) M_X12_child Q 47 [(20, 1), (0, v1), (0, v2)] [(33, 49)] s2
      refine r_iload_n dX12_child_47 rfl ?_
      obtain ⟨hb, h⟩ := h
      refine r_iald (n := 8) rfl (by decide) dX12_child_48 hb ?_
      exact r_iret dX12_child_49 rfl h
    · have h := h_1 hk
      refine r_tableIn (tgt := 50) dX12_child_11 (by omega) (by omega) (by rw [hk]; rfl) (by decide) ?_
      refine r_aload_n dX12_child_50 rfl rfl ?_
      refine gf_X12_19 rfl dX12_child_51 ?_
      refine gf_X12_187 rfl dX12_child_54 ?_
      refine r_iload_n dX12_child_57 rfl ?_
      obtain ⟨hb, h⟩ := h
      refine r_iald (n := 8) rfl (by decide) dX12_child_58 hb ?_
      exact r_iret dX12_child_59 rfl h
    · have h := h_2 hk
      refine r_tableIn (tgt := 60) dX12_child_11 (by omega) (by omega) (by rw [hk]; rfl) (by decide) ?_
      refine r_aload_n dX12_child_60 rfl rfl ?_
      refine gf_X12_19 rfl dX12_child_61 ?_
      refine gf_X12_190 rfl dX12_child_64 ?_
      refine r_iload_n dX12_child_67 rfl ?_
      obtain ⟨hb, h⟩ := h
      refine r_iald (n := 8) rfl (by decide) dX12_child_68 hb ?_
      exact r_iret dX12_child_69 rfl h
    · have h := h_3 hk
      refine r_tableIn (tgt := 70) dX12_child_11 (by omega) (by omega) (by rw [hk]; rfl) (by decide) ?_
      refine r_aload_n dX12_child_70 rfl rfl ?_
      refine gf_X12_19 rfl dX12_child_71 ?_
      refine r_iload_n dX12_child_74 rfl ?_
      refine r_aload_n dX12_child_75 rfl rfl ?_
      refine gf_X12_40 rfl dX12_child_76 ?_
      refine gf_X12_141 rfl dX12_child_79 ?_
      refine r_callV (ci := 8) (As := [(0, v1), (0, (s2 48 2))]) (st := []) (by decide) ok_X12_193 rfl rfl (Nat.le_of_ble_eq_true rfl) dX12_child_82 h (fun r3 s4 hv h => ?_)
      exact r_iret dX12_child_85 rfl h
  · have h := h.2 hc
    refine r_iconst dX12_child_8 (by decide) ?_
    exact r_iret dX12_child_9 rfl h
set_option maxRecDepth 20000 in
theorem S_X12_isBuilt {g : GT} {e : Nat} {Q : Int → Sg → Prop} {s : Sg} {v1 : Int} (h : inR v1 → (Mw g e M_X12_isChild [(20, 1), (0, v1)] s (fun r1 s2 => ((r1 = 0 → Q 0 s2) ∧ (¬ r1 = 0 → ((0 ≤ v1 ∧ v1 < 8) ∧ (((s2 51 v1) = (-1) → Q 0 s2) ∧ (¬ (s2 51 v1) = (-1) → Q 1 s2)))))))) : Mw g (e + 1) M_X12_isBuilt [(20, 1), (0, v1)] s Q := by
  refine Mw.of (ls := [(20, 1), (0, v1)]) pn_X12_isBuilt (Nat.le_of_ble_eq_true rfl) rfl (fun hv => ?_)
  have h := h (hv _ (List.Mem.tail _ (List.Mem.head _)))
  refine r_aload_n dX12_isBuilt_0 rfl rfl ?_
  refine r_iload_n dX12_isBuilt_1 rfl ?_
  refine r_callV (ci := 10) (As := [(0, v1)]) (st := []) (by decide) ok_X12_180 rfl rfl (Nat.le_of_ble_eq_true rfl) dX12_isBuilt_2 h (fun r1 s2 hv h => ?_)
  refine r_if_eq (tgt := 25) dX12_isBuilt_5 (by decide) (fun hc => ?_) (fun hc => ?_)
  · have h := h.1 hc
    refine r_iconst dX12_isBuilt_25 (by decide) ?_
    exact r_zret dX12_isBuilt_26 rfl (by decide) h
  · have h := h.2 hc
    refine r_aload_n dX12_isBuilt_8 rfl rfl ?_
    refine gf_X12_40 rfl dX12_isBuilt_9 ?_
    refine gf_X12_332 rfl dX12_isBuilt_12 ?_
    show Wp g (e + 1) M_X12_isBuilt Q 15 [(20, 1), (0, v1)] [(33, 51)] s2
    refine r_iload_n dX12_isBuilt_15 rfl ?_
    obtain ⟨hb, h⟩ := h
    refine r_iald (n := 8) rfl (by decide) dX12_isBuilt_16 hb ?_
    refine r_iconst dX12_isBuilt_17 (by decide) ?_
    refine r_icmp_eq (tgt := 25) dX12_isBuilt_18 (by decide) (fun hc => ?_) (fun hc => ?_)
    · have h := h.1 hc
      refine r_iconst dX12_isBuilt_25 (by decide) ?_
      exact r_zret dX12_isBuilt_26 rfl (by decide) h
    · have h := h.2 hc
      refine r_iconst dX12_isBuilt_21 (by decide) ?_
      refine r_goto (tgt := 26) dX12_isBuilt_22 (by decide) ?_
      exact r_zret dX12_isBuilt_26 rfl (by decide) h
set_option maxRecDepth 20000 in
theorem S_X12_stone {g : GT} {e : Nat} {Q : Int → Sg → Prop} {s : Sg} {v1 : Int} {v2 : Int} (h : inR v1 → inR v2 → (Mw g e M_X12_isChild [(20, 1), (0, v1)] s (fun r1 s2 => ((¬ r1 = 0 → ((v2 = 0 → ((0 ≤ v1 ∧ v1 < 8) ∧ Q (s2 50 v1) s2)) ∧ (v2 = 1 → (Mw g e M_X11_where [(19, 48), (0, v1)] s2 (fun r7 s8 => Q r7 s8))) ∧ ((¬ v2 = 0 ∧ ¬ v2 = 1) → (Mw g e M_X12_isBuilt [(20, 1), (0, v1)] s2 (fun r3 s4 => ((r3 = 0 → Q (-1) s4) ∧ (¬ r3 = 0 → (Mw g e M_X11_lying [(19, 48), (0, v1), (0, v2)] s4 (fun r5 s6 => Q r5 s6))))))))) ∧ (r1 = 0 → Q (-1) s2))))) : Mw g (e + 1) M_X12_stone [(20, 1), (0, v1), (0, v2)] s Q := by
  refine Mw.of (ls := [(20, 1), (0, v1), (0, v2)]) pn_X12_stone (Nat.le_of_ble_eq_true rfl) rfl (fun hv => ?_)
  have h := h (hv _ (List.Mem.tail _ (List.Mem.head _))) (hv _ (List.Mem.tail _ (List.Mem.tail _ (List.Mem.head _))))
  refine r_aload_n dX12_stone_0 rfl rfl ?_
  refine r_iload_n dX12_stone_1 rfl ?_
  refine r_callV (ci := 10) (As := [(0, v1)]) (st := []) (by decide) ok_X12_180 rfl rfl (Nat.le_of_ble_eq_true rfl) dX12_stone_2 h (fun r1 s2 hv h => ?_)
  refine r_if_ne (tgt := 10) dX12_stone_5 (by decide) (fun hc => ?_) (fun hc => ?_)
  · have h := h.1 hc
    refine r_iload_n dX12_stone_10 rfl ?_
    obtain ⟨h_0, h_1, h_d⟩ := h
    rcases (show (¬ v2 = 0 ∧ ¬ v2 = 1) ∨ v2 = 0 ∨ v2 = 1 by omega) with hk | hk | hk
    · have h := h_d hk
      refine r_lookup (tgt := 55) (off := 44) dX12_stone_11 (by decide) (by simp [Op.lookupswitch.offset, hk]; try omega) (by decide) ?_
      refine r_aload_n dX12_stone_55 rfl rfl ?_
      refine r_iload_n dX12_stone_56 rfl ?_
      refine r_callV (ci := 10) (As := [(0, v1)]) (st := []) (by decide) ok_X12_203 rfl rfl (Nat.le_of_ble_eq_true rfl) dX12_stone_57 h (fun r3 s4 hv h => ?_)
      refine r_if_eq (tgt := 75) dX12_stone_60 (by decide) (fun hc => ?_) (fun hc => ?_)
      · have h := h.1 hc
        refine r_iconst dX12_stone_75 (by decide) ?_
        exact r_iret dX12_stone_76 rfl h
      · have h := h.2 hc
        refine r_aload_n dX12_stone_63 rfl rfl ?_
        refine gf_X12_40 rfl dX12_stone_64 ?_
        refine r_iload_n dX12_stone_67 rfl ?_
        refine r_iload_n dX12_stone_68 rfl ?_
        refine r_callV (ci := 9) (As := [(0, v1), (0, v2)]) (st := []) (by decide) ok_X12_206 rfl rfl (Nat.le_of_ble_eq_true rfl) dX12_stone_69 h (fun r5 s6 hv h => ?_)
        refine r_goto (tgt := 76) dX12_stone_72 (by decide) ?_
        exact r_iret dX12_stone_76 rfl h
    · have h := h_0 hk
      refine r_lookup (tgt := 36) (off := 25) dX12_stone_11 (by decide) (by rw [hk]; rfl) (by decide) ?_
      refine r_aload_n dX12_stone_36 rfl rfl ?_
      refine gf_X12_40 rfl dX12_stone_37 ?_
      refine gf_X12_197 rfl dX12_stone_40 ?_
      show Wp g (e + 1) M_X12_stone Q 43 [(20, 1), (0, v1), (0, v2)] [(33, 50)] s2
      refine r_iload_n dX12_stone_43 rfl ?_
      obtain ⟨hb, h⟩ := h
      refine r_iald (n := 8) rfl (by decide) dX12_stone_44 hb ?_
      exact r_iret dX12_stone_45 rfl h
    · have h := h_1 hk
      refine r_lookup (tgt := 46) (off := 35) dX12_stone_11 (by decide) (by rw [hk]; rfl) (by decide) ?_
      refine r_aload_n dX12_stone_46 rfl rfl ?_
      refine gf_X12_40 rfl dX12_stone_47 ?_
      refine r_iload_n dX12_stone_50 rfl ?_
      refine r_callV (ci := 9) (As := [(0, v1)]) (st := []) (by decide) ok_X12_200 rfl rfl (Nat.le_of_ble_eq_true rfl) dX12_stone_51 h (fun r7 s8 hv h => ?_)
      exact r_iret dX12_stone_54 rfl h
  · have h := h.2 hc
    refine r_iconst dX12_stone_8 (by decide) ?_
    exact r_iret dX12_stone_9 rfl h
set_option maxRecDepth 20000 in
theorem S_X12_isWall {g : GT} {e : Nat} {Q : Int → Sg → Prop} {s : Sg} {v1 : Int} (h : inR v1 → ((v1 < 0 → Q 0 s) ∧ (¬ v1 < 0 → (Mw g e M_X9_wallCount [(18, (s 1 8))] s (fun r1 s2 => ((r1 ≤ v1 → Q 0 s2) ∧ (¬ r1 ≤ v1 → Q 1 s2))))))) : Mw g (e + 1) M_X12_isWall [(20, 1), (0, v1)] s Q := by
  refine Mw.of (ls := [(20, 1), (0, v1)]) pn_X12_isWall (Nat.le_of_ble_eq_true rfl) rfl (fun hv => ?_)
  have h := h (hv _ (List.Mem.tail _ (List.Mem.head _)))
  refine r_iload_n dX12_isWall_0 rfl ?_
  refine r_if_lt (tgt := 19) dX12_isWall_1 (by decide) (fun hc => ?_) (fun hc => ?_)
  · have h := h.1 hc
    refine r_iconst dX12_isWall_19 (by decide) ?_
    exact r_zret dX12_isWall_20 rfl (by decide) h
  · have h := h.2 hc
    refine r_iload_n dX12_isWall_4 rfl ?_
    refine r_aload_n dX12_isWall_5 rfl rfl ?_
    refine gf_X12_19 rfl dX12_isWall_6 ?_
    refine r_callV (ci := 8) (As := []) (st := [(0, v1)]) (by decide) ok_X12_135 rfl rfl (Nat.le_of_ble_eq_true rfl) dX12_isWall_9 h (fun r1 s2 hv h => ?_)
    refine r_icmp_ge (tgt := 19) dX12_isWall_12 (by decide) (fun hc => ?_) (fun hc => ?_)
    · have h := h.1 hc
      refine r_iconst dX12_isWall_19 (by decide) ?_
      exact r_zret dX12_isWall_20 rfl (by decide) h
    · have h := h.2 hc
      refine r_iconst dX12_isWall_15 (by decide) ?_
      refine r_goto (tgt := 20) dX12_isWall_16 (by decide) ?_
      exact r_zret dX12_isWall_20 rfl (by decide) h
abbrev P_X12_wall_46 (g : GT) (e : Nat) (Q : Int → Sg → Prop) (s : Sg) (v1 : Int) (v2 : Int) : Prop := Wp g (e + 1) M_X12_wall Q 46 [(20, 1), (0, v1), (0, v2), (9, 0)] [] s
set_option maxRecDepth 20000 in
theorem S_X12_wall_46 {g : GT} {e : Nat} {Q : Int → Sg → Prop} {s : Sg} {v1 : Int} {v2 : Int} (h : ((v2 = 0 → ((0 ≤ v1 ∧ v1 < 4) ∧ Q (s ((s 1 8) + 11) v1) s)) ∧ (v2 = 1 → ((0 ≤ v1 ∧ v1 < 4) ∧ Q (s ((s 1 8) + 12) v1) s)) ∧ (v2 = 2 → (Mw g e M_X11_stonesIn [(19, 48), (0, v1)] s (fun r1 s2 => Q r1 s2))) ∧ ((v2 < 0 ∨ 2 < v2) → Q (-1) s))) : P_X12_wall_46 g e Q s v1 v2 := by
  refine r_iload_n dX12_wall_46 rfl ?_
  obtain ⟨h_0, h_1, h_2, h_d⟩ := h
  rcases (show (v2 < 0 ∨ 2 < v2) ∨ v2 = 0 ∨ v2 = 1 ∨ v2 = 2 by omega) with hk | hk | hk | hk
  · have h := h_d hk
    refine r_tableOut (tgt := 101) dX12_wall_47 hk (by decide) ?_
    refine r_iconst dX12_wall_101 (by decide) ?_
    exact r_iret dX12_wall_102 rfl h
  · have h := h_0 hk
    refine r_tableIn (tgt := 72) dX12_wall_47 (by omega) (by omega) (by rw [hk]; rfl) (by decide) ?_
    refine r_aload_n dX12_wall_72 rfl rfl ?_
    refine gf_X12_19 rfl dX12_wall_73 ?_
    refine gf_X12_212 rfl dX12_wall_76 ?_
    refine r_iload_n dX12_wall_79 rfl ?_
    obtain ⟨hb, h⟩ := h
    refine r_iald (n := 4) rfl (by decide) dX12_wall_80 hb ?_
    exact r_iret dX12_wall_81 rfl h
  · have h := h_1 hk
    refine r_tableIn (tgt := 82) dX12_wall_47 (by omega) (by omega) (by rw [hk]; rfl) (by decide) ?_
    refine r_aload_n dX12_wall_82 rfl rfl ?_
    refine gf_X12_19 rfl dX12_wall_83 ?_
    refine gf_X12_218 rfl dX12_wall_86 ?_
    refine r_iload_n dX12_wall_89 rfl ?_
    obtain ⟨hb, h⟩ := h
    refine r_iald (n := 4) rfl (by decide) dX12_wall_90 hb ?_
    exact r_iret dX12_wall_91 rfl h
  · have h := h_2 hk
    refine r_tableIn (tgt := 92) dX12_wall_47 (by omega) (by omega) (by rw [hk]; rfl) (by decide) ?_
    refine r_aload_n dX12_wall_92 rfl rfl ?_
    refine gf_X12_40 rfl dX12_wall_93 ?_
    refine r_iload_n dX12_wall_96 rfl ?_
    refine r_callV (ci := 9) (As := [(0, v1)]) (st := []) (by decide) ok_X12_221 rfl rfl (Nat.le_of_ble_eq_true rfl) dX12_wall_97 h (fun r1 s2 hv h => ?_)
    exact r_iret dX12_wall_100 rfl h
set_option maxRecDepth 20000 in
theorem S_X12_wall {g : GT} {e : Nat} {Q : Int → Sg → Prop} {s : Sg} {v1 : Int} {v2 : Int} (h : inR v1 → inR v2 → (Mw g e M_X12_isWall [(20, 1), (0, v1)] s (fun r1 s2 => ((¬ r1 = 0 → (((w32 (v2 - 10)) < 0 → P_X12_wall_46 g e Q s2 v1 v2) ∧ (¬ (w32 (v2 - 10)) < 0 → ((0 ≤ v1 ∧ v1 < 4) ∧ (((s2 ((s2 1 8) + 11) v1) ≤ (w32 (v2 - 10)) → P_X12_wall_46 g e Q s2 v1 v2) ∧ (¬ (s2 ((s2 1 8) + 11) v1) ≤ (w32 (v2 - 10)) → ((0 ≤ (w32 ((w32 (v1 * 4)) + (w32 (v2 - 10)))) ∧ (w32 ((w32 (v1 * 4)) + (w32 (v2 - 10)))) < 16) ∧ Q (s2 53 (w32 ((w32 (v1 * 4)) + (w32 (v2 - 10))))) s2))))))) ∧ (r1 = 0 → Q (-1) s2))))) : Mw g (e + 1) M_X12_wall [(20, 1), (0, v1), (0, v2)] s Q := by
  refine Mw.of (ls := [(20, 1), (0, v1), (0, v2), (9, 0)]) pn_X12_wall (Nat.le_of_ble_eq_true rfl) rfl (fun hv => ?_)
  have h := h (hv _ (List.Mem.tail _ (List.Mem.head _))) (hv _ (List.Mem.tail _ (List.Mem.tail _ (List.Mem.head _))))
  refine r_aload_n dX12_wall_0 rfl rfl ?_
  refine r_iload_n dX12_wall_1 rfl ?_
  refine r_callV (ci := 10) (As := [(0, v1)]) (st := []) (by decide) ok_X12_209 rfl rfl (Nat.le_of_ble_eq_true rfl) dX12_wall_2 h (fun r1 s2 hv h => ?_)
  refine r_if_ne (tgt := 10) dX12_wall_5 (by decide) (fun hc => ?_) (fun hc => ?_)
  · have h := h.1 hc
    refine r_iload_n dX12_wall_10 rfl ?_
    refine r_bipush dX12_wall_11 (by decide) rfl ?_
    refine r_isub dX12_wall_13 ?_
    refine r_istore_n (ls2 := [(20, 1), (0, v1), (0, v2), (0, (w32 (v2 - 10)))]) dX12_wall_14 (by decide) rfl ?_
    refine r_iload_n dX12_wall_15 rfl ?_
    refine r_if_lt (tgt := 46) dX12_wall_16 (by decide) (fun hc => ?_) (fun hc => ?_)
    · have h := h.1 hc
      exact r_fgt [true, true, true, false] rfl h
    · have h := h.2 hc
      refine r_iload_n dX12_wall_19 rfl ?_
      refine r_aload_n dX12_wall_20 rfl rfl ?_
      refine gf_X12_19 rfl dX12_wall_21 ?_
      refine gf_X12_212 rfl dX12_wall_24 ?_
      refine r_iload_n dX12_wall_27 rfl ?_
      obtain ⟨hb, h⟩ := h
      refine r_iald (n := 4) rfl (by decide) dX12_wall_28 hb ?_
      refine r_icmp_ge (tgt := 46) dX12_wall_29 (by decide) (fun hc => ?_) (fun hc => ?_)
      · have h := h.1 hc
        exact r_fgt [true, true, true, false] rfl h
      · have h := h.2 hc
        refine r_aload_n dX12_wall_32 rfl rfl ?_
        refine gf_X12_40 rfl dX12_wall_33 ?_
        refine gf_X12_215 rfl dX12_wall_36 ?_
        show Wp g (e + 1) M_X12_wall Q 39 [(20, 1), (0, v1), (0, v2), (0, (w32 (v2 - 10)))] [(40, 53)] s2
        refine r_iload_n dX12_wall_39 rfl ?_
        refine r_iconst dX12_wall_40 (by decide) ?_
        refine r_imul dX12_wall_41 ?_
        refine r_iload_n dX12_wall_42 rfl ?_
        refine r_iadd dX12_wall_43 ?_
        obtain ⟨hb, h⟩ := h
        refine r_iald (n := 16) rfl (by decide) dX12_wall_44 hb ?_
        exact r_iret dX12_wall_45 rfl h
  · have h := h.2 hc
    refine r_iconst dX12_wall_8 (by decide) ?_
    exact r_iret dX12_wall_9 rfl h
set_option maxRecDepth 20000 in
theorem S_X12_at {g : GT} {e : Nat} {Q : Int → Sg → Prop} {s : Sg} {v1 : Int} {v2 : Int} {v3 : Int} (h : inR v1 → inR v2 → inR v3 → (Mw g e M_X12_isWall [(20, 1), (0, v1)] s (fun r1 s2 => ((r1 = 0 → Q (-1) s2) ∧ (¬ r1 = 0 → ((v2 < 0 → Q (-1) s2) ∧ (¬ v2 < 0 → ((0 ≤ v1 ∧ v1 < 4) ∧ ((v2 < (s2 ((s2 1 8) + 11) v1) → ((v3 < 0 → Q (-1) s2) ∧ (¬ v3 < 0 → ((0 ≤ v1 ∧ v1 < 4) ∧ ((v3 < (s2 ((s2 1 8) + 12) v1) → (Mw g e M_X11_spot [(0, v1), (0, v2), (0, v3)] s2 (fun r3 s4 => ((0 ≤ r3 ∧ r3 < 64) ∧ Q (s4 52 r3) s4)))) ∧ (¬ v3 < (s2 ((s2 1 8) + 12) v1) → Q (-1) s2)))))) ∧ (¬ v2 < (s2 ((s2 1 8) + 11) v1) → Q (-1) s2)))))))))) : Mw g (e + 1) M_X12_at [(20, 1), (0, v1), (0, v2), (0, v3)] s Q := by
  refine Mw.of (ls := [(20, 1), (0, v1), (0, v2), (0, v3)]) pn_X12_at (Nat.le_of_ble_eq_true rfl) rfl (fun hv => ?_)
  have h := h (hv _ (List.Mem.tail _ (List.Mem.head _))) (hv _ (List.Mem.tail _ (List.Mem.tail _ (List.Mem.head _)))) (hv _ (List.Mem.tail _ (List.Mem.tail _ (List.Mem.tail _ (List.Mem.head _)))))
  refine r_aload_n dX12_at_0 rfl rfl ?_
  refine r_iload_n dX12_at_1 rfl ?_
  refine r_callV (ci := 10) (As := [(0, v1)]) (st := []) (by decide) ok_X12_209 rfl rfl (Nat.le_of_ble_eq_true rfl) dX12_at_2 h (fun r1 s2 hv h => ?_)
  refine r_if_eq (tgt := 25) dX12_at_5 (by decide) (fun hc => ?_) (fun hc => ?_)
  · have h := h.1 hc
    refine r_iconst dX12_at_25 (by decide) ?_
    exact r_iret dX12_at_26 rfl h
  · have h := h.2 hc
    refine r_iload_n dX12_at_8 rfl ?_
    refine r_if_lt (tgt := 25) dX12_at_9 (by decide) (fun hc => ?_) (fun hc => ?_)
    · have h := h.1 hc
      refine r_iconst dX12_at_25 (by decide) ?_
      exact r_iret dX12_at_26 rfl h
    · have h := h.2 hc
      refine r_iload_n dX12_at_12 rfl ?_
      refine r_aload_n dX12_at_13 rfl rfl ?_
      refine gf_X12_19 rfl dX12_at_14 ?_
      refine gf_X12_212 rfl dX12_at_17 ?_
      refine r_iload_n dX12_at_20 rfl ?_
      obtain ⟨hb, h⟩ := h
      refine r_iald (n := 4) rfl (by decide) dX12_at_21 hb ?_
      refine r_icmp_lt (tgt := 27) dX12_at_22 (by decide) (fun hc => ?_) (fun hc => ?_)
      · have h := h.1 hc
        refine r_iload_n dX12_at_27 rfl ?_
        refine r_if_lt (tgt := 44) dX12_at_28 (by decide) (fun hc => ?_) (fun hc => ?_)
        · have h := h.1 hc
          refine r_iconst dX12_at_44 (by decide) ?_
          exact r_iret dX12_at_45 rfl h
        · have h := h.2 hc
          refine r_iload_n dX12_at_31 rfl ?_
          refine r_aload_n dX12_at_32 rfl rfl ?_
          refine gf_X12_19 rfl dX12_at_33 ?_
          refine gf_X12_218 rfl dX12_at_36 ?_
          refine r_iload_n dX12_at_39 rfl ?_
          obtain ⟨hb, h⟩ := h
          refine r_iald (n := 4) rfl (by decide) dX12_at_40 hb ?_
          refine r_icmp_lt (tgt := 46) dX12_at_41 (by decide) (fun hc => ?_) (fun hc => ?_)
          · have h := h.1 hc
            refine r_aload_n dX12_at_46 rfl rfl ?_
            refine gf_X12_40 rfl dX12_at_47 ?_
            refine gf_X12_224 rfl dX12_at_50 ?_
            show Wp g (e + 1) M_X12_at Q 53 [(20, 1), (0, v1), (0, v2), (0, v3)] [(39, 52)] s2
            refine r_iload_n dX12_at_53 rfl ?_
            refine r_iload_n dX12_at_54 rfl ?_
            refine r_iload_n dX12_at_55 rfl ?_
            refine r_callS (As := [(0, v1), (0, v2), (0, v3)]) (st := [(39, 52)]) ok_X12_227 rfl rfl (Nat.le_of_ble_eq_true rfl) dX12_at_56 h (fun r3 s4 hv h => ?_)
            obtain ⟨hb, h⟩ := h
            refine r_iald (n := 64) rfl (by decide) dX12_at_59 hb ?_
            exact r_iret dX12_at_60 rfl h
          · have h := h.2 hc
            refine r_iconst dX12_at_44 (by decide) ?_
            exact r_iret dX12_at_45 rfl h
      · have h := h.2 hc
        refine r_iconst dX12_at_25 (by decide) ?_
        exact r_iret dX12_at_26 rfl h
set_option maxRecDepth 20000 in
theorem S_X12_later {g : GT} {e : Nat} {Q : Int → Sg → Prop} {s : Sg} {v1 : Int} {v2 : Int} (h : inR v1 → inR v2 → ((v1 < 0 → Q (-1) s) ∧ (¬ v1 < 0 → ((60 < v1 → Q (-1) s) ∧ (¬ 60 < v1 → ((999 < (w32 ((s 48 1) + v1)) → Q (-1) s) ∧ (¬ 999 < (w32 ((s 48 1) + v1)) → ((v2 < 0 → Q (-1) s) ∧ (¬ v2 < 0 → ((v2 ≤ 3 → (Mw g e M_X5_goAhead [(14, 55), (19, 48), (0, v1), (0, 0)] s (fun r1 s2 => ((v2 = 0 → (Mw g e M_X11_bitsAt [(19, 58), (0, 3)] s2 (fun r5 s6 => Q r5 s6))) ∧ (v2 = 1 → (Mw g e M_X11_bitsAt [(19, 58), (0, 2)] s2 (fun r7 s8 => Q r7 s8))) ∧ (v2 = 2 → Q (s2 58 11) s2) ∧ ((v2 < 0 ∨ 2 < v2) → (Mw g e M_X11_strongTogether [(19, 58)] s2 (fun r3 s4 => Q r3 s4))))))) ∧ (¬ v2 ≤ 3 → Q (-1) s))))))))))) : Mw g (e + 1) M_X12_later [(20, 1), (0, v1), (0, v2)] s Q := by
  refine Mw.of (ls := [(20, 1), (0, v1), (0, v2)]) pn_X12_later (Nat.le_of_ble_eq_true rfl) rfl (fun hv => ?_)
  have h := h (hv _ (List.Mem.tail _ (List.Mem.head _))) (hv _ (List.Mem.tail _ (List.Mem.tail _ (List.Mem.head _))))
  refine r_iload_n dX12_later_0 rfl ?_
  refine r_if_lt (tgt := 34) dX12_later_1 (by decide) (fun hc => ?_) (fun hc => ?_)
  · have h := h.1 hc
    refine r_iconst dX12_later_34 (by decide) ?_
    exact r_iret dX12_later_35 rfl h
  · have h := h.2 hc
    refine r_iload_n dX12_later_4 rfl ?_
    refine r_bipush dX12_later_5 (by decide) rfl ?_
    refine r_icmp_gt (tgt := 34) dX12_later_7 (by decide) (fun hc => ?_) (fun hc => ?_)
    · have h := h.1 hc
      refine r_iconst dX12_later_34 (by decide) ?_
      exact r_iret dX12_later_35 rfl h
    · have h := h.2 hc
      refine r_aload_n dX12_later_10 rfl rfl ?_
      refine gf_X12_40 rfl dX12_later_11 ?_
      refine gf_X12_149 rfl dX12_later_14 ?_
      refine r_iload_n dX12_later_17 rfl ?_
      refine r_iadd dX12_later_18 ?_
      refine r_sipush dX12_later_19 (by decide) rfl ?_
      refine r_icmp_gt (tgt := 34) dX12_later_22 (by decide) (fun hc => ?_) (fun hc => ?_)
      · have h := h.1 hc
        refine r_iconst dX12_later_34 (by decide) ?_
        exact r_iret dX12_later_35 rfl h
      · have h := h.2 hc
        refine r_iload_n dX12_later_25 rfl ?_
        refine r_if_lt (tgt := 34) dX12_later_26 (by decide) (fun hc => ?_) (fun hc => ?_)
        · have h := h.1 hc
          refine r_iconst dX12_later_34 (by decide) ?_
          exact r_iret dX12_later_35 rfl h
        · have h := h.2 hc
          refine r_iload_n dX12_later_29 rfl ?_
          refine r_iconst dX12_later_30 (by decide) ?_
          refine r_icmp_le (tgt := 36) dX12_later_31 (by decide) (fun hc => ?_) (fun hc => ?_)
          · have h := h.1 hc
            refine r_aload_n dX12_later_36 rfl rfl ?_
            refine gf_X12_47 rfl dX12_later_37 ?_
            refine r_aload_n dX12_later_40 rfl rfl ?_
            refine gf_X12_40 rfl dX12_later_41 ?_
            refine r_iload_n dX12_later_44 rfl ?_
            refine r_iconst dX12_later_45 (by decide) ?_
            refine r_callV (ci := 4) (As := [(19, 48), (0, v1), (0, 0)]) (st := []) (by decide) ok_X12_231 rfl rfl (Nat.le_of_ble_eq_true rfl) dX12_later_46 h (fun r1 s2 hv h => ?_)
            refine r_pop dX12_later_49 (show (0 : Nat) ≠ 2 by decide) ?_
            refine r_iload_n dX12_later_50 rfl ?_
            obtain ⟨h_0, h_1, h_2, h_d⟩ := h
            rcases (show (v2 < 0 ∨ 2 < v2) ∨ v2 = 0 ∨ v2 = 1 ∨ v2 = 2 by omega) with hk | hk | hk | hk
            · have h := h_d hk
              refine r_tableOut (tgt := 111) dX12_later_51 hk (by decide) ?_
              refine r_aload_n dX12_later_111 rfl rfl ?_
              refine gf_X12_47 rfl dX12_later_112 ?_
              refine gf_X12_235 rfl dX12_later_115 ?_
              refine r_callV (ci := 9) (As := []) (st := []) (by decide) ok_X12_241 rfl rfl (Nat.le_of_ble_eq_true rfl) dX12_later_118 h (fun r3 s4 hv h => ?_)
              exact r_iret dX12_later_121 rfl h
            · have h := h_0 hk
              refine r_tableIn (tgt := 76) dX12_later_51 (by omega) (by omega) (by rw [hk]; rfl) (by decide) ?_
              refine r_aload_n dX12_later_76 rfl rfl ?_
              refine gf_X12_47 rfl dX12_later_77 ?_
              refine gf_X12_235 rfl dX12_later_80 ?_
              refine r_iconst dX12_later_83 (by decide) ?_
              refine r_callV (ci := 9) (As := [(0, 3)]) (st := []) (by decide) ok_X12_152 rfl rfl (Nat.le_of_ble_eq_true rfl) dX12_later_84 h (fun r5 s6 hv h => ?_)
              exact r_iret dX12_later_87 rfl h
            · have h := h_1 hk
              refine r_tableIn (tgt := 88) dX12_later_51 (by omega) (by omega) (by rw [hk]; rfl) (by decide) ?_
              refine r_aload_n dX12_later_88 rfl rfl ?_
              refine gf_X12_47 rfl dX12_later_89 ?_
              refine gf_X12_235 rfl dX12_later_92 ?_
              refine r_iconst dX12_later_95 (by decide) ?_
              refine r_callV (ci := 9) (As := [(0, 2)]) (st := []) (by decide) ok_X12_152 rfl rfl (Nat.le_of_ble_eq_true rfl) dX12_later_96 h (fun r7 s8 hv h => ?_)
              exact r_iret dX12_later_99 rfl h
            · have h := h_2 hk
              refine r_tableIn (tgt := 100) dX12_later_51 (by omega) (by omega) (by rw [hk]; rfl) (by decide) ?_
              refine r_aload_n dX12_later_100 rfl rfl ?_
              refine gf_X12_47 rfl dX12_later_101 ?_
              refine gf_X12_235 rfl dX12_later_104 ?_
              refine gf_X12_238 rfl dX12_later_107 ?_
              exact r_iret dX12_later_110 rfl h
          · have h := h.2 hc
            refine r_iconst dX12_later_34 (by decide) ?_
            exact r_iret dX12_later_35 rfl h
set_option maxRecDepth 20000 in
theorem S_X12_built {g : GT} {e : Nat} {Q : Int → Sg → Prop} {s : Sg} {v1 : Int} (h : inR v1 → (Mw g e M_X12_isChild [(20, 1), (0, v1)] s (fun r1 s2 => ((r1 = 0 → Q (-1) s2) ∧ (¬ r1 = 0 → (Mw g e M_X5_firstBuilt [(14, 55), (19, 48), (0, v1)] s2 (fun r3 s4 => Q r3 s4))))))) : Mw g (e + 1) M_X12_built [(20, 1), (0, v1)] s Q := by
  refine Mw.of (ls := [(20, 1), (0, v1)]) pn_X12_built (Nat.le_of_ble_eq_true rfl) rfl (fun hv => ?_)
  have h := h (hv _ (List.Mem.tail _ (List.Mem.head _)))
  refine r_aload_n dX12_built_0 rfl rfl ?_
  refine r_iload_n dX12_built_1 rfl ?_
  refine r_callV (ci := 10) (As := [(0, v1)]) (st := []) (by decide) ok_X12_180 rfl rfl (Nat.le_of_ble_eq_true rfl) dX12_built_2 h (fun r1 s2 hv h => ?_)
  refine r_if_eq (tgt := 23) dX12_built_5 (by decide) (fun hc => ?_) (fun hc => ?_)
  · have h := h.1 hc
    refine r_iconst dX12_built_23 (by decide) ?_
    exact r_iret dX12_built_24 rfl h
  · have h := h.2 hc
    refine r_aload_n dX12_built_8 rfl rfl ?_
    refine gf_X12_47 rfl dX12_built_9 ?_
    refine r_aload_n dX12_built_12 rfl rfl ?_
    refine gf_X12_40 rfl dX12_built_13 ?_
    refine r_iload_n dX12_built_16 rfl ?_
    refine r_callV (ci := 4) (As := [(19, 48), (0, v1)]) (st := []) (by decide) ok_X12_244 rfl rfl (Nat.le_of_ble_eq_true rfl) dX12_built_17 h (fun r3 s4 hv h => ?_)
    refine r_goto (tgt := 24) dX12_built_20 (by decide) ?_
    exact r_iret dX12_built_24 rfl h
set_option maxRecDepth 20000 in
theorem S_X12_down {g : GT} {e : Nat} {Q : Int → Sg → Prop} {s : Sg} {v1 : Int} (h : inR v1 → (Mw g e M_X12_isBuilt [(20, 1), (0, v1)] s (fun r1 s2 => ((r1 = 0 → Q (-1) s2) ∧ (¬ r1 = 0 → (Mw g e M_X5_comingDown [(14, 55), (19, 48), (0, v1)] s2 (fun r3 s4 => Q r3 s4))))))) : Mw g (e + 1) M_X12_down [(20, 1), (0, v1)] s Q := by
  refine Mw.of (ls := [(20, 1), (0, v1)]) pn_X12_down (Nat.le_of_ble_eq_true rfl) rfl (fun hv => ?_)
  have h := h (hv _ (List.Mem.tail _ (List.Mem.head _)))
  refine r_aload_n dX12_down_0 rfl rfl ?_
  refine r_iload_n dX12_down_1 rfl ?_
  refine r_callV (ci := 10) (As := [(0, v1)]) (st := []) (by decide) ok_X12_203 rfl rfl (Nat.le_of_ble_eq_true rfl) dX12_down_2 h (fun r1 s2 hv h => ?_)
  refine r_if_eq (tgt := 23) dX12_down_5 (by decide) (fun hc => ?_) (fun hc => ?_)
  · have h := h.1 hc
    refine r_iconst dX12_down_23 (by decide) ?_
    exact r_iret dX12_down_24 rfl h
  · have h := h.2 hc
    refine r_aload_n dX12_down_8 rfl rfl ?_
    refine gf_X12_47 rfl dX12_down_9 ?_
    refine r_aload_n dX12_down_12 rfl rfl ?_
    refine gf_X12_40 rfl dX12_down_13 ?_
    refine r_iload_n dX12_down_16 rfl ?_
    refine r_callV (ci := 4) (As := [(19, 48), (0, v1)]) (st := []) (by decide) ok_X12_248 rfl rfl (Nat.le_of_ble_eq_true rfl) dX12_down_17 h (fun r3 s4 hv h => ?_)
    refine r_goto (tgt := 24) dX12_down_20 (by decide) ?_
    exact r_iret dX12_down_24 rfl h
set_option maxRecDepth 20000 in
theorem S_X12_props {g : GT} {e : Nat} {Q : Int → Sg → Prop} {s : Sg} {v1 : Int} (h : inR v1 → (Mw g e M_X12_isWall [(20, 1), (0, v1)] s (fun r1 s2 => ((r1 = 0 → Q (-1) s2) ∧ (¬ r1 = 0 → (Mw g e M_X5_fewestProps [(14, 55), (19, 48), (0, v1)] s2 (fun r3 s4 => Q r3 s4))))))) : Mw g (e + 1) M_X12_props [(20, 1), (0, v1)] s Q := by
  refine Mw.of (ls := [(20, 1), (0, v1)]) pn_X12_props (Nat.le_of_ble_eq_true rfl) rfl (fun hv => ?_)
  have h := h (hv _ (List.Mem.tail _ (List.Mem.head _)))
  refine r_aload_n dX12_props_0 rfl rfl ?_
  refine r_iload_n dX12_props_1 rfl ?_
  refine r_callV (ci := 10) (As := [(0, v1)]) (st := []) (by decide) ok_X12_209 rfl rfl (Nat.le_of_ble_eq_true rfl) dX12_props_2 h (fun r1 s2 hv h => ?_)
  refine r_if_eq (tgt := 23) dX12_props_5 (by decide) (fun hc => ?_) (fun hc => ?_)
  · have h := h.1 hc
    refine r_iconst dX12_props_23 (by decide) ?_
    exact r_iret dX12_props_24 rfl h
  · have h := h.2 hc
    refine r_aload_n dX12_props_8 rfl rfl ?_
    refine gf_X12_47 rfl dX12_props_9 ?_
    refine r_aload_n dX12_props_12 rfl rfl ?_
    refine gf_X12_40 rfl dX12_props_13 ?_
    refine r_iload_n dX12_props_16 rfl ?_
    refine r_callV (ci := 4) (As := [(19, 48), (0, v1)]) (st := []) (by decide) ok_X12_251 rfl rfl (Nat.le_of_ble_eq_true rfl) dX12_props_17 h (fun r3 s4 hv h => ?_)
    refine r_goto (tgt := 24) dX12_props_20 (by decide) ?_
    exact r_iret dX12_props_24 rfl h
set_option maxRecDepth 20000 in
theorem S_X12_strongest {g : GT} {e : Nat} {Q : Int → Sg → Prop} {s : Sg} {v1 : Int} {v2 : Int} (h : inR v1 → inR v2 → (Mw g e M_X12_isChild [(20, 1), (0, v1)] s (fun r1 s2 => ((r1 = 0 → Q (-1) s2) ∧ (¬ r1 = 0 → (Mw g e M_X11_isDone [(19, 48), (0, v1)] s2 (fun r3 s4 => ((r3 = 0 → (Mw g e M_X5_strongestHome [(14, 55), (19, 48), (0, v1)] s4 (fun r5 s6 => ((v2 = 0 → Q r5 s6) ∧ (v2 = 1 → (Mw g e M_X11_strongWhenDone [(19, 48), (0, v1), (0, r5)] s6 (fun r7 s8 => Q r7 s8))) ∧ ((¬ v2 = 0 ∧ ¬ v2 = 1) → Q (-1) s6))))) ∧ (¬ r3 = 0 → Q (-1) s4))))))))) : Mw g (e + 1) M_X12_strongest [(20, 1), (0, v1), (0, v2)] s Q := by
  refine Mw.of (ls := [(20, 1), (0, v1), (0, v2), (9, 0)]) pn_X12_strongest (Nat.le_of_ble_eq_true rfl) rfl (fun hv => ?_)
  have h := h (hv _ (List.Mem.tail _ (List.Mem.head _))) (hv _ (List.Mem.tail _ (List.Mem.tail _ (List.Mem.head _))))
  refine r_aload_n dX12_strongest_0 rfl rfl ?_
  refine r_iload_n dX12_strongest_1 rfl ?_
  refine r_callV (ci := 10) (As := [(0, v1)]) (st := []) (by decide) ok_X12_180 rfl rfl (Nat.le_of_ble_eq_true rfl) dX12_strongest_2 h (fun r1 s2 hv h => ?_)
  refine r_if_eq (tgt := 19) dX12_strongest_5 (by decide) (fun hc => ?_) (fun hc => ?_)
  · have h := h.1 hc
    refine r_iconst dX12_strongest_19 (by decide) ?_
    exact r_iret dX12_strongest_20 rfl h
  · have h := h.2 hc
    refine r_aload_n dX12_strongest_8 rfl rfl ?_
    refine gf_X12_40 rfl dX12_strongest_9 ?_
    refine r_iload_n dX12_strongest_12 rfl ?_
    refine r_callV (ci := 9) (As := [(0, v1)]) (st := []) (by decide) ok_X12_254 rfl rfl (Nat.le_of_ble_eq_true rfl) dX12_strongest_13 h (fun r3 s4 hv h => ?_)
    refine r_if_eq (tgt := 21) dX12_strongest_16 (by decide) (fun hc => ?_) (fun hc => ?_)
    · have h := h.1 hc
      refine r_aload_n dX12_strongest_21 rfl rfl ?_
      refine gf_X12_47 rfl dX12_strongest_22 ?_
      refine r_aload_n dX12_strongest_25 rfl rfl ?_
      refine gf_X12_40 rfl dX12_strongest_26 ?_
      refine r_iload_n dX12_strongest_29 rfl ?_
      refine r_callV (ci := 4) (As := [(19, 48), (0, v1)]) (st := []) (by decide) ok_X12_257 rfl rfl (Nat.le_of_ble_eq_true rfl) dX12_strongest_30 h (fun r5 s6 hv h => ?_)
      refine r_istore_n (ls2 := [(20, 1), (0, v1), (0, v2), (0, r5)]) dX12_strongest_33 (by decide) rfl ?_
      refine r_iload_n dX12_strongest_34 rfl ?_
      obtain ⟨h_0, h_1, h_d⟩ := h
      rcases (show (¬ v2 = 0 ∧ ¬ v2 = 1) ∨ v2 = 0 ∨ v2 = 1 by omega) with hk | hk | hk
      · have h := h_d hk
        refine r_lookup (tgt := 72) (off := 37) dX12_strongest_35 (by decide) (by simp [Op.lookupswitch.offset, hk]; try omega) (by decide) ?_
        refine r_iconst dX12_strongest_72 (by decide) ?_
        exact r_iret dX12_strongest_73 rfl h
      · have h := h_0 hk
        refine r_lookup (tgt := 60) (off := 25) dX12_strongest_35 (by decide) (by rw [hk]; rfl) (by decide) ?_
        refine r_iload_n dX12_strongest_60 rfl ?_
        exact r_iret dX12_strongest_61 rfl h
      · have h := h_1 hk
        refine r_lookup (tgt := 62) (off := 27) dX12_strongest_35 (by decide) (by rw [hk]; rfl) (by decide) ?_
        refine r_aload_n dX12_strongest_62 rfl rfl ?_
        refine gf_X12_40 rfl dX12_strongest_63 ?_
        refine r_iload_n dX12_strongest_66 rfl ?_
        refine r_iload_n dX12_strongest_67 rfl ?_
        refine r_callV (ci := 9) (As := [(0, v1), (0, r5)]) (st := []) (by decide) ok_X12_260 rfl rfl (Nat.le_of_ble_eq_true rfl) dX12_strongest_68 h (fun r7 s8 hv h => ?_)
        exact r_iret dX12_strongest_71 rfl h
    · have h := h.2 hc
      refine r_iconst dX12_strongest_19 (by decide) ?_
      exact r_iret dX12_strongest_20 rfl h
set_option maxRecDepth 20000 in
theorem S_X12_order {g : GT} {e : Nat} {Q : Int → Sg → Prop} {s : Sg} {v1 : Int} (h : inR v1 → (Mw g e M_X11_bitsAt [(19, 48), (0, 2)] s (fun r1 s2 => (Mw g e M_J6_bitCount_0f7a4 [(0, r1)] s2 (fun r3 s4 => ((6 < r3 → Q (-1) s4) ∧ (¬ 6 < r3 → ((v1 < (-1) → Q (-1) s4) ∧ (¬ v1 < (-1) → ((v1 < r3 → (Mw g e M_X5_findOrder [(14, 55), (19, 48), (0, r1)] s4 (fun _ s6 => ((¬ v1 = (-1) → ((0 ≤ v1 ∧ v1 < 6) ∧ Q (s6 56 v1) s6)) ∧ (v1 = (-1) → Q (s6 55 2) s6))))) ∧ (¬ v1 < r3 → Q (-1) s4))))))))))) : Mw g (e + 1) M_X12_order [(20, 1), (0, v1)] s Q := by
  refine Mw.of (ls := [(20, 1), (0, v1), (9, 0), (9, 0)]) pn_X12_order (Nat.le_of_ble_eq_true rfl) rfl (fun hv => ?_)
  have h := h (hv _ (List.Mem.tail _ (List.Mem.head _)))
  refine r_aload_n dX12_order_0 rfl rfl ?_
  refine gf_X12_40 rfl dX12_order_1 ?_
  refine r_iconst dX12_order_4 (by decide) ?_
  refine r_callV (ci := 9) (As := [(0, 2)]) (st := []) (by decide) ok_X12_152 rfl rfl (Nat.le_of_ble_eq_true rfl) dX12_order_5 h (fun r1 s2 hv h => ?_)
  refine r_istore_n (ls2 := [(20, 1), (0, v1), (0, r1), (9, 0)]) dX12_order_8 (by decide) rfl ?_
  refine r_iload_n dX12_order_9 rfl ?_
  refine r_callS (As := [(0, r1)]) (st := []) ok_X12_144 rfl rfl (Nat.le_of_ble_eq_true rfl) dX12_order_10 h (fun r3 s4 hv h => ?_)
  refine r_istore_n (ls2 := [(20, 1), (0, v1), (0, r1), (0, r3)]) dX12_order_13 (by decide) rfl ?_
  refine r_iload_n dX12_order_14 rfl ?_
  refine r_bipush dX12_order_15 (by decide) rfl ?_
  refine r_icmp_gt (tgt := 30) dX12_order_17 (by decide) (fun hc => ?_) (fun hc => ?_)
  · have h := h.1 hc
    refine r_iconst dX12_order_30 (by decide) ?_
    exact r_iret dX12_order_31 rfl h
  · have h := h.2 hc
    refine r_iload_n dX12_order_20 rfl ?_
    refine r_iconst dX12_order_21 (by decide) ?_
    refine r_icmp_lt (tgt := 30) dX12_order_22 (by decide) (fun hc => ?_) (fun hc => ?_)
    · have h := h.1 hc
      refine r_iconst dX12_order_30 (by decide) ?_
      exact r_iret dX12_order_31 rfl h
    · have h := h.2 hc
      refine r_iload_n dX12_order_25 rfl ?_
      refine r_iload_n dX12_order_26 rfl ?_
      refine r_icmp_lt (tgt := 32) dX12_order_27 (by decide) (fun hc => ?_) (fun hc => ?_)
      · have h := h.1 hc
        refine r_aload_n dX12_order_32 rfl rfl ?_
        refine gf_X12_47 rfl dX12_order_33 ?_
        refine r_aload_n dX12_order_36 rfl rfl ?_
        refine gf_X12_40 rfl dX12_order_37 ?_
        refine r_iload_n dX12_order_40 rfl ?_
        refine r_callV (ci := 4) (As := [(19, 48), (0, r1)]) (st := []) (by decide) ok_X12_263 rfl rfl (Nat.le_of_ble_eq_true rfl) dX12_order_41 h (fun r5 s6 hv h => ?_)
        refine r_iload_n dX12_order_44 rfl ?_
        refine r_iconst dX12_order_45 (by decide) ?_
        refine r_icmp_ne (tgt := 59) dX12_order_46 (by decide) (fun hc => ?_) (fun hc => ?_)
        · have h := h.1 hc
          refine r_aload_n dX12_order_59 rfl rfl ?_
          refine gf_X12_47 rfl dX12_order_60 ?_
          refine gf_X12_270 rfl dX12_order_63 ?_
          refine r_iload_n dX12_order_66 rfl ?_
          obtain ⟨hb, h⟩ := h
          refine r_iald (n := 6) rfl (by decide) dX12_order_67 hb ?_
          exact r_iret dX12_order_68 rfl h
        · have h := h.2 hc
          refine r_aload_n dX12_order_49 rfl rfl ?_
          refine gf_X12_47 rfl dX12_order_50 ?_
          refine gf_X12_267 rfl dX12_order_53 ?_
          refine r_goto (tgt := 68) dX12_order_56 (by decide) ?_
          exact r_iret dX12_order_68 rfl h
      · have h := h.2 hc
        refine r_iconst dX12_order_30 (by decide) ?_
        exact r_iret dX12_order_31 rfl h
abbrev P_X12_reconcile_51 (g : GT) (e : Nat) (Q : Int → Sg → Prop) (s : Sg) (v1 : Int) (v2 : Int) (v3 : Int) (v4 : Int) (v5 : Int) (v6 : Int) : Prop := Wp g (e + 1) M_X12_reconcile Q 51 [(20, 1), (0, v1), (0, v2), (0, v3), (0, v4), (0, v5), (0, v6), (9, 0), (9, 0)] [] s
abbrev P_X12_reconcile_83 (g : GT) (e : Nat) (Q : Int → Sg → Prop) (s : Sg) (v1 : Int) (v2 : Int) (v3 : Int) (v4 : Int) (v5 : Int) (v6 : Int) (x0 : Int) : Prop := Wp g (e + 1) M_X12_reconcile Q 83 [(20, 1), (0, v1), (0, v2), (0, v3), (0, v4), (0, v5), (0, v6), (9, 0), (9, 0)] [(0, x0)] s
abbrev P_X12_reconcile_110 (g : GT) (e : Nat) (Q : Int → Sg → Prop) (s : Sg) (v1 : Int) (v2 : Int) (v3 : Int) (v4 : Int) (v5 : Int) (v6 : Int) (x0 : Int) : Prop := Wp g (e + 1) M_X12_reconcile Q 110 [(20, 1), (0, v1), (0, v2), (0, v3), (0, v4), (0, v5), (0, v6), (9, 0), (9, 0)] [(0, x0)] s
set_option maxRecDepth 20000 in
theorem S_X12_reconcile_51 {g : GT} {e : Nat} {Q : Int → Sg → Prop} {s : Sg} {v1 : Int} {v2 : Int} {v3 : Int} {v4 : Int} {v5 : Int} {v6 : Int} (h : (((s (s 1 8) 13) ≤ v6 → ((v5 = (-1) → Q (-1) s) ∧ (¬ v5 = (-1) → ((v2 < 0 → Q (-1) s) ∧ (¬ v2 < 0 → ((v2 ≤ 1 → ((¬ v2 = 0 → Q (w32 (v4 - v3)) s) ∧ (v2 = 0 → Q v5 s))) ∧ (¬ v2 ≤ 1 → Q (-1) s))))))) ∧ (¬ (s (s 1 8) 13) ≤ v6 → ((¬ (bAnd (s 48 2) (bShl 1 v6)) = 0 → P_X12_reconcile_83 g e Q s v1 v2 v3 v4 v5 v6 0) ∧ ((bAnd (s 48 2) (bShl 1 v6)) = 0 → P_X12_reconcile_83 g e Q s v1 v2 v3 v4 v5 v6 1))))) : P_X12_reconcile_51 g e Q s v1 v2 v3 v4 v5 v6 := by
  refine r_iload dX12_reconcile_51 rfl ?_
  refine r_aload_n dX12_reconcile_53 rfl rfl ?_
  refine gf_X12_19 rfl dX12_reconcile_54 ?_
  refine gf_X12_138 rfl dX12_reconcile_57 ?_
  refine r_icmp_ge (tgt := 133) dX12_reconcile_60 (by decide) (fun hc => ?_) (fun hc => ?_)
  · have h := h.1 hc
    refine r_iload dX12_reconcile_133 rfl ?_
    refine r_iconst dX12_reconcile_135 (by decide) ?_
    refine r_icmp_eq (tgt := 148) dX12_reconcile_136 (by decide) (fun hc => ?_) (fun hc => ?_)
    · have h := h.1 hc
      refine r_iconst dX12_reconcile_148 (by decide) ?_
      exact r_iret dX12_reconcile_149 rfl h
    · have h := h.2 hc
      refine r_iload_n dX12_reconcile_139 rfl ?_
      refine r_if_lt (tgt := 148) dX12_reconcile_140 (by decide) (fun hc => ?_) (fun hc => ?_)
      · have h := h.1 hc
        refine r_iconst dX12_reconcile_148 (by decide) ?_
        exact r_iret dX12_reconcile_149 rfl h
      · have h := h.2 hc
        refine r_iload_n dX12_reconcile_143 rfl ?_
        refine r_iconst dX12_reconcile_144 (by decide) ?_
        refine r_icmp_le (tgt := 150) dX12_reconcile_145 (by decide) (fun hc => ?_) (fun hc => ?_)
        · have h := h.1 hc
          refine r_iload_n dX12_reconcile_150 rfl ?_
          refine r_if_ne (tgt := 159) dX12_reconcile_151 (by decide) (fun hc => ?_) (fun hc => ?_)
          · have h := h.1 hc
            refine r_iload dX12_reconcile_159 rfl ?_
            refine r_iload_n dX12_reconcile_161 rfl ?_
            refine r_isub dX12_reconcile_162 ?_
            exact r_iret dX12_reconcile_163 rfl h
          · have h := h.2 hc
            refine r_iload dX12_reconcile_154 rfl ?_
            refine r_goto (tgt := 163) dX12_reconcile_156 (by decide) ?_
            exact r_iret dX12_reconcile_163 rfl h
        · have h := h.2 hc
          refine r_iconst dX12_reconcile_148 (by decide) ?_
          exact r_iret dX12_reconcile_149 rfl h
  · have h := h.2 hc
    refine r_aload_n dX12_reconcile_63 rfl rfl ?_
    refine gf_X12_40 rfl dX12_reconcile_64 ?_
    refine gf_X12_141 rfl dX12_reconcile_67 ?_
    refine r_iconst dX12_reconcile_70 (by decide) ?_
    refine r_iload dX12_reconcile_71 rfl ?_
    refine r_ishl dX12_reconcile_73 ?_
    refine r_iand dX12_reconcile_74 ?_
    refine r_if_ne (tgt := 82) dX12_reconcile_75 (by decide) (fun hc => ?_) (fun hc => ?_)
    · have h := h.1 hc
      refine r_iconst dX12_reconcile_82 (by decide) ?_
      exact h
    · have h := h.2 hc
      refine r_iconst dX12_reconcile_78 (by decide) ?_
      refine r_goto (tgt := 83) dX12_reconcile_79 (by decide) ?_
      exact h
set_option maxRecDepth 20000 in
theorem S_X12_reconcile_83 {g : GT} {e : Nat} {Q : Int → Sg → Prop} {s : Sg} {v1 : Int} {v2 : Int} {v3 : Int} {v4 : Int} {v5 : Int} {v6 : Int} {x0 : Int} (h : ((x0 = 0 → P_X12_reconcile_110 g e Q s v1 v2 v3 v4 v5 v6 v3) ∧ (¬ x0 = 0 → (Mw g e M_X5_goAhead [(14, 55), (19, 48), (0, v1), (0, (bShl 1 v6))] s (fun r1 s2 => P_X12_reconcile_110 g e Q s2 v1 v2 v3 v4 v5 v6 r1))))) : P_X12_reconcile_83 g e Q s v1 v2 v3 v4 v5 v6 x0 := by
  refine r_istore (ls2 := [(20, 1), (0, v1), (0, v2), (0, v3), (0, v4), (0, v5), (0, v6), (0, x0), (9, 0)]) dX12_reconcile_83 (by decide) rfl ?_
  refine r_iload dX12_reconcile_85 rfl ?_
  refine r_if_eq (tgt := 109) dX12_reconcile_87 (by decide) (fun hc => ?_) (fun hc => ?_)
  · have h := h.1 hc
    refine r_iload_n dX12_reconcile_109 rfl ?_
    exact r_fgt [true, true, true, true, true, true, true, false, false] rfl h
  · have h := h.2 hc
    refine r_aload_n dX12_reconcile_90 rfl rfl ?_
    refine gf_X12_47 rfl dX12_reconcile_91 ?_
    refine r_aload_n dX12_reconcile_94 rfl rfl ?_
    refine gf_X12_40 rfl dX12_reconcile_95 ?_
    refine r_iload_n dX12_reconcile_98 rfl ?_
    refine r_iconst dX12_reconcile_99 (by decide) ?_
    refine r_iload dX12_reconcile_100 rfl ?_
    refine r_ishl dX12_reconcile_102 ?_
    refine r_callV (ci := 4) (As := [(19, 48), (0, v1), (0, (bShl 1 v6))]) (st := []) (by decide) ok_X12_231 rfl rfl (Nat.le_of_ble_eq_true rfl) dX12_reconcile_103 h (fun r1 s2 hv h => ?_)
    refine r_goto (tgt := 110) dX12_reconcile_106 (by decide) ?_
    exact r_fgt [true, true, true, true, true, true, true, false, false] rfl h
set_option maxRecDepth 20000 in
theorem S_X12_reconcile_110 {g : GT} {e : Nat} {Q : Int → Sg → Prop} {s : Sg} {v1 : Int} {v2 : Int} {v3 : Int} {v4 : Int} {v5 : Int} {v6 : Int} {x0 : Int} (h : ((x0 ≤ v4 → P_X12_reconcile_51 g e Q s v1 v2 v3 v4 v5 (w32 (v6 + 1))) ∧ (¬ x0 ≤ v4 → P_X12_reconcile_51 g e Q s v1 v2 v3 x0 v6 (w32 (v6 + 1))))) : P_X12_reconcile_110 g e Q s v1 v2 v3 v4 v5 v6 x0 := by
  refine r_istore (ls2 := [(20, 1), (0, v1), (0, v2), (0, v3), (0, v4), (0, v5), (0, v6), (9, 0), (0, x0)]) dX12_reconcile_110 (by decide) rfl ?_
  refine r_iload dX12_reconcile_112 rfl ?_
  refine r_iload dX12_reconcile_114 rfl ?_
  refine r_icmp_le (tgt := 127) dX12_reconcile_116 (by decide) (fun hc => ?_) (fun hc => ?_)
  · have h := h.1 hc
    refine r_iinc (ls2 := [(20, 1), (0, v1), (0, v2), (0, v3), (0, v4), (0, v5), (0, (w32 (v6 + 1))), (9, 0), (0, x0)]) dX12_reconcile_127 rfl (by decide) rfl ?_
    refine r_goto (tgt := 51) dX12_reconcile_130 (by decide) ?_
    exact r_fgt [true, true, true, true, true, true, true, false, false] rfl h
  · have h := h.2 hc
    refine r_iload dX12_reconcile_119 rfl ?_
    refine r_istore (ls2 := [(20, 1), (0, v1), (0, v2), (0, v3), (0, x0), (0, v5), (0, v6), (9, 0), (0, x0)]) dX12_reconcile_121 (by decide) rfl ?_
    refine r_iload dX12_reconcile_123 rfl ?_
    refine r_istore (ls2 := [(20, 1), (0, v1), (0, v2), (0, v3), (0, x0), (0, v6), (0, v6), (9, 0), (0, x0)]) dX12_reconcile_125 (by decide) rfl ?_
    refine r_iinc (ls2 := [(20, 1), (0, v1), (0, v2), (0, v3), (0, x0), (0, v6), (0, (w32 (v6 + 1))), (9, 0), (0, x0)]) dX12_reconcile_127 rfl (by decide) rfl ?_
    refine r_goto (tgt := 51) dX12_reconcile_130 (by decide) ?_
    exact r_fgt [true, true, true, true, true, true, true, false, false] rfl h
set_option maxRecDepth 20000 in
theorem S_X12_reconcile {g : GT} {e : Nat} {Q : Int → Sg → Prop} {s : Sg} {v1 : Int} {v2 : Int} (h : inR v1 → inR v2 → ((v1 < 1 → Q (-1) s) ∧ (¬ v1 < 1 → ((40 < v1 → Q (-1) s) ∧ (¬ 40 < v1 → (((w32 ((s 48 1) + v1)) ≤ 999 → (Mw g e M_X5_goAhead [(14, 55), (19, 48), (0, v1), (0, 0)] s (fun r1 s2 => P_X12_reconcile_51 g e Q s2 v1 v2 r1 r1 (-1) 0))) ∧ (¬ (w32 ((s 48 1) + v1)) ≤ 999 → Q (-1) s))))))) : Mw g (e + 1) M_X12_reconcile [(20, 1), (0, v1), (0, v2)] s Q := by
  refine Mw.of (ls := [(20, 1), (0, v1), (0, v2), (9, 0), (9, 0), (9, 0), (9, 0), (9, 0), (9, 0)]) pn_X12_reconcile (Nat.le_of_ble_eq_true rfl) rfl (fun hv => ?_)
  have h := h (hv _ (List.Mem.tail _ (List.Mem.head _))) (hv _ (List.Mem.tail _ (List.Mem.tail _ (List.Mem.head _))))
  refine r_iload_n dX12_reconcile_0 rfl ?_
  refine r_iconst dX12_reconcile_1 (by decide) ?_
  refine r_icmp_lt (tgt := 26) dX12_reconcile_2 (by decide) (fun hc => ?_) (fun hc => ?_)
  · have h := h.1 hc
    refine r_iconst dX12_reconcile_26 (by decide) ?_
    exact r_iret dX12_reconcile_27 rfl h
  · have h := h.2 hc
    refine r_iload_n dX12_reconcile_5 rfl ?_
    refine r_bipush dX12_reconcile_6 (by decide) rfl ?_
    refine r_icmp_gt (tgt := 26) dX12_reconcile_8 (by decide) (fun hc => ?_) (fun hc => ?_)
    · have h := h.1 hc
      refine r_iconst dX12_reconcile_26 (by decide) ?_
      exact r_iret dX12_reconcile_27 rfl h
    · have h := h.2 hc
      refine r_aload_n dX12_reconcile_11 rfl rfl ?_
      refine gf_X12_40 rfl dX12_reconcile_12 ?_
      refine gf_X12_149 rfl dX12_reconcile_15 ?_
      refine r_iload_n dX12_reconcile_18 rfl ?_
      refine r_iadd dX12_reconcile_19 ?_
      refine r_sipush dX12_reconcile_20 (by decide) rfl ?_
      refine r_icmp_le (tgt := 28) dX12_reconcile_23 (by decide) (fun hc => ?_) (fun hc => ?_)
      · have h := h.1 hc
        refine r_aload_n dX12_reconcile_28 rfl rfl ?_
        refine gf_X12_47 rfl dX12_reconcile_29 ?_
        refine r_aload_n dX12_reconcile_32 rfl rfl ?_
        refine gf_X12_40 rfl dX12_reconcile_33 ?_
        refine r_iload_n dX12_reconcile_36 rfl ?_
        refine r_iconst dX12_reconcile_37 (by decide) ?_
        refine r_callV (ci := 4) (As := [(19, 48), (0, v1), (0, 0)]) (st := []) (by decide) ok_X12_231 rfl rfl (Nat.le_of_ble_eq_true rfl) dX12_reconcile_38 h (fun r1 s2 hv h => ?_)
        refine r_istore_n (ls2 := [(20, 1), (0, v1), (0, v2), (0, r1), (9, 0), (9, 0), (9, 0), (9, 0), (9, 0)]) dX12_reconcile_41 (by decide) rfl ?_
        refine r_iload_n dX12_reconcile_42 rfl ?_
        refine r_istore (ls2 := [(20, 1), (0, v1), (0, v2), (0, r1), (0, r1), (9, 0), (9, 0), (9, 0), (9, 0)]) dX12_reconcile_43 (by decide) rfl ?_
        refine r_iconst dX12_reconcile_45 (by decide) ?_
        refine r_istore (ls2 := [(20, 1), (0, v1), (0, v2), (0, r1), (0, r1), (0, (-1)), (9, 0), (9, 0), (9, 0)]) dX12_reconcile_46 (by decide) rfl ?_
        refine r_iconst dX12_reconcile_48 (by decide) ?_
        refine r_istore (ls2 := [(20, 1), (0, v1), (0, v2), (0, r1), (0, r1), (0, (-1)), (0, 0), (9, 0), (9, 0)]) dX12_reconcile_49 (by decide) rfl ?_
        exact h
      · have h := h.2 hc
        refine r_iconst dX12_reconcile_26 (by decide) ?_
        exact r_iret dX12_reconcile_27 rfl h
set_option maxRecDepth 20000 in
theorem S_X12_seams {g : GT} {e : Nat} {Q : Int → Sg → Prop} {s : Sg} {v1 : Int} (h : inR v1 → (Mw g e M_X7_take [(16, 87), (18, (s 1 8)), (17, 2), (0, v1)] s (fun r1 s2 => (∀ s3, s3 = ups s2 2 1 0 → ((r1 = 0 → (Mw g e M_X12_refuse [(20, 1), (0, 5)] s3 (fun r4 s5 => Q r4 s5))) ∧ (¬ r1 = 0 → (Mw g e M_J6_bitCount_0f7a4 [(0, (s3 87 0))] s3 (fun r6 s7 => Q r6 s7)))))))) : Mw g (e + 1) M_X12_seams [(20, 1), (0, v1)] s Q := by
  refine Mw.of (ls := [(20, 1), (0, v1), (9, 0)]) pn_X12_seams (Nat.le_of_ble_eq_true rfl) rfl (fun hv => ?_)
  have h := h (hv _ (List.Mem.tail _ (List.Mem.head _)))
  refine r_aload_n dX12_seams_0 rfl rfl ?_
  refine gf_X12_61 rfl dX12_seams_1 ?_
  refine r_aload_n dX12_seams_4 rfl rfl ?_
  refine gf_X12_19 rfl dX12_seams_5 ?_
  refine r_aload_n dX12_seams_8 rfl rfl ?_
  refine gf_X12_10 rfl dX12_seams_9 ?_
  refine r_iload_n dX12_seams_12 rfl ?_
  refine r_callV (ci := 6) (As := [(18, (s 1 8)), (17, 2), (0, v1)]) (st := []) (by decide) ok_X12_273 rfl rfl (Nat.le_of_ble_eq_true rfl) dX12_seams_13 h (fun r1 s2 hv h => ?_)
  refine r_istore_n (ls2 := [(20, 1), (0, v1), (0, r1)]) dX12_seams_16 (by decide) rfl ?_
  refine r_aload_n dX12_seams_17 rfl rfl ?_
  refine gf_X12_10 rfl dX12_seams_18 ?_
  refine r_iconst dX12_seams_21 (by decide) ?_
  refine pf_X12_86 rfl dX12_seams_22 ?_
  have h := h _ rfl
  generalize hs_s3 : ups s2 2 1 0 = s3 at h ⊢
  refine r_iload_n dX12_seams_25 rfl ?_
  refine r_if_eq (tgt := 42) dX12_seams_26 (by decide) (fun hc => ?_) (fun hc => ?_)
  · have h := h.1 hc
    refine r_aload_n dX12_seams_42 rfl rfl ?_
    refine r_iconst dX12_seams_43 (by decide) ?_
    refine r_callV (ci := 10) (As := [(0, 5)]) (st := []) (by decide) ok_X12_89 rfl rfl (Nat.le_of_ble_eq_true rfl) dX12_seams_44 h (fun r4 s5 hv h => ?_)
    exact r_iret dX12_seams_47 rfl h
  · have h := h.2 hc
    refine r_aload_n dX12_seams_29 rfl rfl ?_
    refine gf_X12_61 rfl dX12_seams_30 ?_
    refine gf_X12_277 rfl dX12_seams_33 ?_
    refine r_callS (As := [(0, (s3 87 0))]) (st := []) ok_X12_144 rfl rfl (Nat.le_of_ble_eq_true rfl) dX12_seams_36 h (fun r6 s7 hv h => ?_)
    refine r_goto (tgt := 47) dX12_seams_39 (by decide) ?_
    exact r_iret dX12_seams_47 rfl h
set_option maxRecDepth 20000 in
theorem S_X12_homes {g : GT} {e : Nat} {Q : Int → Sg → Prop} {s : Sg} {v1 : Int} (h : inR v1 → ((v1 = 0 → Q (s 87 0) s) ∧ (v1 = 1 → (Mw g e M_X7_telling [(16, 87), (18, (s 1 8))] s (fun r1 s2 => Q r1 s2))) ∧ ((¬ v1 = 0 ∧ ¬ v1 = 1) → Q (-1) s))) : Mw g (e + 1) M_X12_homes [(20, 1), (0, v1)] s Q := by
  refine Mw.of (ls := [(20, 1), (0, v1)]) pn_X12_homes (Nat.le_of_ble_eq_true rfl) rfl (fun hv => ?_)
  have h := h (hv _ (List.Mem.tail _ (List.Mem.head _)))
  refine r_iload_n dX12_homes_0 rfl ?_
  obtain ⟨h_0, h_1, h_d⟩ := h
  rcases (show (¬ v1 = 0 ∧ ¬ v1 = 1) ∨ v1 = 0 ∨ v1 = 1 by omega) with hk | hk | hk
  · have h := h_d hk
    refine r_lookup (tgt := 48) (off := 47) dX12_homes_1 (by decide) (by simp [Op.lookupswitch.offset, hk]; try omega) (by decide) ?_
    refine r_iconst dX12_homes_48 (by decide) ?_
    exact r_iret dX12_homes_49 rfl h
  · have h := h_0 hk
    refine r_lookup (tgt := 28) (off := 27) dX12_homes_1 (by decide) (by rw [hk]; rfl) (by decide) ?_
    refine r_aload_n dX12_homes_28 rfl rfl ?_
    refine gf_X12_61 rfl dX12_homes_29 ?_
    refine gf_X12_277 rfl dX12_homes_32 ?_
    exact r_iret dX12_homes_35 rfl h
  · have h := h_1 hk
    refine r_lookup (tgt := 36) (off := 35) dX12_homes_1 (by decide) (by rw [hk]; rfl) (by decide) ?_
    refine r_aload_n dX12_homes_36 rfl rfl ?_
    refine gf_X12_61 rfl dX12_homes_37 ?_
    refine r_aload_n dX12_homes_40 rfl rfl ?_
    refine gf_X12_19 rfl dX12_homes_41 ?_
    refine r_callV (ci := 6) (As := [(18, (s 1 8))]) (st := []) (by decide) ok_X12_280 rfl rfl (Nat.le_of_ble_eq_true rfl) dX12_homes_44 h (fun r1 s2 hv h => ?_)
    exact r_iret dX12_homes_47 rfl h
set_option maxRecDepth 20000 in
theorem S_X12_pulling {g : GT} {e : Nat} {Q : Int → Sg → Prop} {s : Sg} {v1 : Int} (h : inR v1 → (Mw g e M_X12_isWall [(20, 1), (0, v1)] s (fun r1 s2 => ((¬ r1 = 0 → (Mw g e M_X5_firstWins [(14, 55), (19, 48), (0, v1)] s2 (fun r3 s4 => ((r3 = 0 → Q 0 s4) ∧ (¬ r3 = 0 → Q 1 s4))))) ∧ (r1 = 0 → Q (-1) s2))))) : Mw g (e + 1) M_X12_pulling [(20, 1), (0, v1)] s Q := by
  refine Mw.of (ls := [(20, 1), (0, v1)]) pn_X12_pulling (Nat.le_of_ble_eq_true rfl) rfl (fun hv => ?_)
  have h := h (hv _ (List.Mem.tail _ (List.Mem.head _)))
  refine r_aload_n dX12_pulling_0 rfl rfl ?_
  refine r_iload_n dX12_pulling_1 rfl ?_
  refine r_callV (ci := 10) (As := [(0, v1)]) (st := []) (by decide) ok_X12_209 rfl rfl (Nat.le_of_ble_eq_true rfl) dX12_pulling_2 h (fun r1 s2 hv h => ?_)
  refine r_if_ne (tgt := 10) dX12_pulling_5 (by decide) (fun hc => ?_) (fun hc => ?_)
  · have h := h.1 hc
    refine r_aload_n dX12_pulling_10 rfl rfl ?_
    refine gf_X12_47 rfl dX12_pulling_11 ?_
    refine r_aload_n dX12_pulling_14 rfl rfl ?_
    refine gf_X12_40 rfl dX12_pulling_15 ?_
    refine r_iload_n dX12_pulling_18 rfl ?_
    refine r_callV (ci := 4) (As := [(19, 48), (0, v1)]) (st := []) (by decide) ok_X12_284 rfl rfl (Nat.le_of_ble_eq_true rfl) dX12_pulling_19 h (fun r3 s4 hv h => ?_)
    refine r_if_eq (tgt := 29) dX12_pulling_22 (by decide) (fun hc => ?_) (fun hc => ?_)
    · have h := h.1 hc
      refine r_iconst dX12_pulling_29 (by decide) ?_
      exact r_iret dX12_pulling_30 rfl h
    · have h := h.2 hc
      refine r_iconst dX12_pulling_25 (by decide) ?_
      refine r_goto (tgt := 30) dX12_pulling_26 (by decide) ?_
      exact r_iret dX12_pulling_30 rfl h
  · have h := h.2 hc
    refine r_iconst dX12_pulling_8 (by decide) ?_
    exact r_iret dX12_pulling_9 rfl h
set_option maxRecDepth 20000 in
theorem S_X12_canPass {g : GT} {e : Nat} {Q : Int → Sg → Prop} {s : Sg} {v1 : Int} (h : inR v1 → ((v1 < 1 → Q 0 s) ∧ (¬ v1 < 1 → ((100 < v1 → Q 0 s) ∧ (¬ 100 < v1 → ((999 < (w32 ((s 48 1) + v1)) → Q 0 s) ∧ (¬ 999 < (w32 ((s 48 1) + v1)) → Q 1 s))))))) : Mw g (e + 1) M_X12_canPass [(20, 1), (0, v1)] s Q := by
  refine Mw.of (ls := [(20, 1), (0, v1)]) pn_X12_canPass (Nat.le_of_ble_eq_true rfl) rfl (fun hv => ?_)
  have h := h (hv _ (List.Mem.tail _ (List.Mem.head _)))
  refine r_iload_n dX12_canPass_0 rfl ?_
  refine r_iconst dX12_canPass_1 (by decide) ?_
  refine r_icmp_lt (tgt := 30) dX12_canPass_2 (by decide) (fun hc => ?_) (fun hc => ?_)
  · have h := h.1 hc
    refine r_iconst dX12_canPass_30 (by decide) ?_
    exact r_zret dX12_canPass_31 rfl (by decide) h
  · have h := h.2 hc
    refine r_iload_n dX12_canPass_5 rfl ?_
    refine r_bipush dX12_canPass_6 (by decide) rfl ?_
    refine r_icmp_gt (tgt := 30) dX12_canPass_8 (by decide) (fun hc => ?_) (fun hc => ?_)
    · have h := h.1 hc
      refine r_iconst dX12_canPass_30 (by decide) ?_
      exact r_zret dX12_canPass_31 rfl (by decide) h
    · have h := h.2 hc
      refine r_aload_n dX12_canPass_11 rfl rfl ?_
      refine gf_X12_40 rfl dX12_canPass_12 ?_
      refine gf_X12_149 rfl dX12_canPass_15 ?_
      refine r_iload_n dX12_canPass_18 rfl ?_
      refine r_iadd dX12_canPass_19 ?_
      refine r_sipush dX12_canPass_20 (by decide) rfl ?_
      refine r_icmp_gt (tgt := 30) dX12_canPass_23 (by decide) (fun hc => ?_) (fun hc => ?_)
      · have h := h.1 hc
        refine r_iconst dX12_canPass_30 (by decide) ?_
        exact r_zret dX12_canPass_31 rfl (by decide) h
      · have h := h.2 hc
        refine r_iconst dX12_canPass_26 (by decide) ?_
        refine r_goto (tgt := 31) dX12_canPass_27 (by decide) ?_
        exact r_zret dX12_canPass_31 rfl (by decide) h
abbrev P_X12_years_35 (g : GT) (e : Nat) (Q : Int → Sg → Prop) (s : Sg) (v1 : Int) (v2 : Int) : Prop := Wp g (e + 1) M_X12_years Q 35 [(20, 1), (0, v1), (0, v2)] [] s
set_option maxRecDepth 20000 in
theorem S_X12_years_35 {g : GT} {e : Nat} {Q : Int → Sg → Prop} {s : Sg} {v1 : Int} {v2 : Int} (h : ((v1 ≤ v2 → Q (s 48 12) s) ∧ (¬ v1 ≤ v2 → (Mw g e M_X11_passYear [(19, 48), (0, 0)] s (fun _ s2 => P_X12_years_35 g e Q s2 v1 (w32 (v2 + 1))))))) : P_X12_years_35 g e Q s v1 v2 := by
  refine r_iload_n dX12_years_35 rfl ?_
  refine r_iload_n dX12_years_36 rfl ?_
  refine r_icmp_ge (tgt := 54) dX12_years_37 (by decide) (fun hc => ?_) (fun hc => ?_)
  · have h := h.1 hc
    refine r_aload_n dX12_years_54 rfl rfl ?_
    refine gf_X12_40 rfl dX12_years_55 ?_
    refine gf_X12_295 rfl dX12_years_58 ?_
    exact r_iret dX12_years_61 rfl h
  · have h := h.2 hc
    refine r_aload_n dX12_years_40 rfl rfl ?_
    refine gf_X12_40 rfl dX12_years_41 ?_
    refine r_iconst dX12_years_44 (by decide) ?_
    refine r_callV (ci := 9) (As := [(0, 0)]) (st := []) (by decide) ok_X12_298 rfl rfl (Nat.le_of_ble_eq_true rfl) dX12_years_45 h (fun r1 s2 hv h => ?_)
    refine r_iinc (ls2 := [(20, 1), (0, v1), (0, (w32 (v2 + 1)))]) dX12_years_48 rfl (by decide) rfl ?_
    refine r_goto (tgt := 35) dX12_years_51 (by decide) ?_
    exact h
set_option maxRecDepth 20000 in
theorem S_X12_years {g : GT} {e : Nat} {Q : Int → Sg → Prop} {s : Sg} {v1 : Int} (h : inR v1 → (Mw g e M_X12_canPass [(20, 1), (0, v1)] s (fun r1 s2 => ((¬ r1 = 0 → (Mw g e M_X1_save [(10, 65), (19, 48)] s2 (fun _ s4 => (∀ s5, s5 = ups s4 48 12 0 → P_X12_years_35 g e Q s5 v1 0)))) ∧ (r1 = 0 → (Mw g e M_X12_refuse [(20, 1), (0, 2)] s2 (fun r6 s7 => Q r6 s7))))))) : Mw g (e + 1) M_X12_years [(20, 1), (0, v1)] s Q := by
  refine Mw.of (ls := [(20, 1), (0, v1), (9, 0)]) pn_X12_years (Nat.le_of_ble_eq_true rfl) rfl (fun hv => ?_)
  have h := h (hv _ (List.Mem.tail _ (List.Mem.head _)))
  refine r_aload_n dX12_years_0 rfl rfl ?_
  refine r_iload_n dX12_years_1 rfl ?_
  refine r_callV (ci := 10) (As := [(0, v1)]) (st := []) (by decide) ok_X12_288 rfl rfl (Nat.le_of_ble_eq_true rfl) dX12_years_2 h (fun r1 s2 hv h => ?_)
  refine r_if_ne (tgt := 14) dX12_years_5 (by decide) (fun hc => ?_) (fun hc => ?_)
  · have h := h.1 hc
    refine r_aload_n dX12_years_14 rfl rfl ?_
    refine gf_X12_54 rfl dX12_years_15 ?_
    refine r_aload_n dX12_years_18 rfl rfl ?_
    refine gf_X12_40 rfl dX12_years_19 ?_
    refine r_callV (ci := 0) (As := [(19, 48)]) (st := []) (by decide) ok_X12_291 rfl rfl (Nat.le_of_ble_eq_true rfl) dX12_years_22 h (fun r3 s4 hv h => ?_)
    refine r_aload_n dX12_years_25 rfl rfl ?_
    refine gf_X12_40 rfl dX12_years_26 ?_
    refine r_iconst dX12_years_29 (by decide) ?_
    refine pf_X12_295 rfl dX12_years_30 ?_
    have h := h _ rfl
    generalize hs_s5 : ups s4 48 12 0 = s5 at h ⊢
    refine r_iconst dX12_years_33 (by decide) ?_
    refine r_istore_n (ls2 := [(20, 1), (0, v1), (0, 0)]) dX12_years_34 (by decide) rfl ?_
    exact h
  · have h := h.2 hc
    refine r_aload_n dX12_years_8 rfl rfl ?_
    refine r_iconst dX12_years_9 (by decide) ?_
    refine r_callV (ci := 10) (As := [(0, 2)]) (st := []) (by decide) ok_X12_89 rfl rfl (Nat.le_of_ble_eq_true rfl) dX12_years_10 h (fun r6 s7 hv h => ?_)
    exact r_iret dX12_years_13 rfl h
set_option maxRecDepth 20000 in
theorem S_X12_drawHundred {g : GT} {e : Nat} {Q : Int → Sg → Prop} {s : Sg} (h : (∀ s1, s1 = ups s 1 12 (w32 (lAnd (w64 ((w64 (1103515245 * (s 1 12))) + 12345)) 2147483647)) → Q (Int.tmod (w32 (Int.tdiv (s1 1 12) 64)) 100) s1)) : Mw g (e + 1) M_X12_drawHundred [(20, 1)] s Q := by
  refine Mw.of (ls := [(20, 1)]) pn_X12_drawHundred (Nat.le_of_ble_eq_true rfl) rfl (fun hv => ?_)
  refine r_aload_n dX12_drawHundred_0 rfl rfl ?_
  refine r_ldc2 (v := 1103515245) dX12_drawHundred_1 lk_X12_334 (by decide) ?_
  refine r_aload_n dX12_drawHundred_4 rfl rfl ?_
  refine gf_X12_83 rfl dX12_drawHundred_5 ?_
  refine r_i2l dX12_drawHundred_8 ?_
  refine r_lmul dX12_drawHundred_9 ?_
  refine r_ldc2 (v := 12345) dX12_drawHundred_10 lk_X12_336 (by decide) ?_
  refine r_ladd dX12_drawHundred_13 ?_
  refine r_ldc2 (v := 2147483647) dX12_drawHundred_14 lk_X12_338 (by decide) ?_
  refine r_land dX12_drawHundred_17 ?_
  refine r_l2i dX12_drawHundred_18 ?_
  refine pf_X12_83 rfl dX12_drawHundred_19 ?_
  have h := h _ rfl
  generalize hs_s1 : ups s 1 12 (w32 (lAnd (w64 ((w64 (1103515245 * (s 1 12))) + 12345)) 2147483647)) = s1 at h ⊢
  refine r_aload_n dX12_drawHundred_22 rfl rfl ?_
  refine gf_X12_83 rfl dX12_drawHundred_23 ?_
  refine r_bipush dX12_drawHundred_26 (by decide) rfl ?_
  refine r_idiv dX12_drawHundred_28 (by decide) ?_
  refine r_bipush dX12_drawHundred_29 (by decide) rfl ?_
  refine r_irem dX12_drawHundred_31 (by decide) ?_
  exact r_iret dX12_drawHundred_32 rfl h
abbrev P_X12_chance_29 (g : GT) (e : Nat) (Q : Int → Sg → Prop) (s : Sg) (v1 : Int) (v2 : Int) (v3 : Int) : Prop := Wp g (e + 1) M_X12_chance Q 29 [(20, 1), (0, v1), (0, v2), (0, v3), (9, 0)] [] s
abbrev P_X12_chance_53 (g : GT) (e : Nat) (Q : Int → Sg → Prop) (s : Sg) (v1 : Int) (v2 : Int) (v3 : Int) (x0 : Int) : Prop := Wp g (e + 1) M_X12_chance Q 53 [(20, 1), (0, v1), (0, v2), (0, v3), (9, 0)] [(0, x0)] s
set_option maxRecDepth 20000 in
theorem S_X12_chance_29 {g : GT} {e : Nat} {Q : Int → Sg → Prop} {s : Sg} {v1 : Int} {v2 : Int} {v3 : Int} (h : ((v1 ≤ v3 → Q v2 s) ∧ (¬ v1 ≤ v3 → (Mw g e M_X12_drawHundred [(20, 1)] s (fun r1 s2 => (((s2 (s2 1 8) 17) ≤ r1 → P_X12_chance_53 g e Q s2 v1 v2 v3 0) ∧ (¬ (s2 (s2 1 8) 17) ≤ r1 → P_X12_chance_53 g e Q s2 v1 v2 v3 1))))))) : P_X12_chance_29 g e Q s v1 v2 v3 := by
  refine r_iload_n dX12_chance_29 rfl ?_
  refine r_iload_n dX12_chance_30 rfl ?_
  refine r_icmp_ge (tgt := 83) dX12_chance_31 (by decide) (fun hc => ?_) (fun hc => ?_)
  · have h := h.1 hc
    refine r_iload_n dX12_chance_83 rfl ?_
    exact r_iret dX12_chance_84 rfl h
  · have h := h.2 hc
    refine r_aload_n dX12_chance_34 rfl rfl ?_
    refine r_callV (ci := 10) (As := []) (st := []) (by decide) ok_X12_302 rfl rfl (Nat.le_of_ble_eq_true rfl) dX12_chance_35 h (fun r1 s2 hv h => ?_)
    refine r_aload_n dX12_chance_38 rfl rfl ?_
    refine gf_X12_19 rfl dX12_chance_39 ?_
    refine gf_X12_305 rfl dX12_chance_42 ?_
    refine r_icmp_ge (tgt := 52) dX12_chance_45 (by decide) (fun hc => ?_) (fun hc => ?_)
    · have h := h.1 hc
      refine r_iconst dX12_chance_52 (by decide) ?_
      exact h
    · have h := h.2 hc
      refine r_iconst dX12_chance_48 (by decide) ?_
      refine r_goto (tgt := 53) dX12_chance_49 (by decide) ?_
      exact h
set_option maxRecDepth 20000 in
theorem S_X12_chance_53 {g : GT} {e : Nat} {Q : Int → Sg → Prop} {s : Sg} {v1 : Int} {v2 : Int} {v3 : Int} {x0 : Int} (h : (Mw g e M_X11_passYear [(19, 48), (0, x0)] s (fun _ s2 => ((x0 = 0 → P_X12_chance_29 g e Q s2 v1 (w32 (v2 + 0)) (w32 (v3 + 1))) ∧ (¬ x0 = 0 → P_X12_chance_29 g e Q s2 v1 (w32 (v2 + 1)) (w32 (v3 + 1))))))) : P_X12_chance_53 g e Q s v1 v2 v3 x0 := by
  refine r_istore (ls2 := [(20, 1), (0, v1), (0, v2), (0, v3), (0, x0)]) dX12_chance_53 (by decide) rfl ?_
  refine r_aload_n dX12_chance_55 rfl rfl ?_
  refine gf_X12_40 rfl dX12_chance_56 ?_
  refine r_iload dX12_chance_59 rfl ?_
  refine r_callV (ci := 9) (As := [(0, x0)]) (st := []) (by decide) ok_X12_298 rfl rfl (Nat.le_of_ble_eq_true rfl) dX12_chance_61 h (fun r1 s2 hv h => ?_)
  refine r_iload_n dX12_chance_64 rfl ?_
  refine r_iload dX12_chance_65 rfl ?_
  refine r_if_eq (tgt := 74) dX12_chance_67 (by decide) (fun hc => ?_) (fun hc => ?_)
  · have h := h.1 hc
    refine r_iconst dX12_chance_74 (by decide) ?_
    refine r_iadd dX12_chance_75 ?_
    refine r_istore_n (ls2 := [(20, 1), (0, v1), (0, (w32 (v2 + 0))), (0, v3), (0, x0)]) dX12_chance_76 (by decide) rfl ?_
    refine r_iinc (ls2 := [(20, 1), (0, v1), (0, (w32 (v2 + 0))), (0, (w32 (v3 + 1))), (0, x0)]) dX12_chance_77 rfl (by decide) rfl ?_
    refine r_goto (tgt := 29) dX12_chance_80 (by decide) ?_
    exact r_fgt [true, true, true, true, false] rfl h
  · have h := h.2 hc
    refine r_iconst dX12_chance_70 (by decide) ?_
    refine r_goto (tgt := 75) dX12_chance_71 (by decide) ?_
    refine r_iadd dX12_chance_75 ?_
    refine r_istore_n (ls2 := [(20, 1), (0, v1), (0, (w32 (v2 + 1))), (0, v3), (0, x0)]) dX12_chance_76 (by decide) rfl ?_
    refine r_iinc (ls2 := [(20, 1), (0, v1), (0, (w32 (v2 + 1))), (0, (w32 (v3 + 1))), (0, x0)]) dX12_chance_77 rfl (by decide) rfl ?_
    refine r_goto (tgt := 29) dX12_chance_80 (by decide) ?_
    exact r_fgt [true, true, true, true, false] rfl h
set_option maxRecDepth 20000 in
theorem S_X12_chance {g : GT} {e : Nat} {Q : Int → Sg → Prop} {s : Sg} {v1 : Int} (h : inR v1 → (Mw g e M_X12_canPass [(20, 1), (0, v1)] s (fun r1 s2 => ((¬ r1 = 0 → (Mw g e M_X1_save [(10, 65), (19, 48)] s2 (fun _ s4 => P_X12_chance_29 g e Q s4 v1 0 0))) ∧ (r1 = 0 → (Mw g e M_X12_refuse [(20, 1), (0, 2)] s2 (fun r5 s6 => Q r5 s6))))))) : Mw g (e + 1) M_X12_chance [(20, 1), (0, v1)] s Q := by
  refine Mw.of (ls := [(20, 1), (0, v1), (9, 0), (9, 0), (9, 0)]) pn_X12_chance (Nat.le_of_ble_eq_true rfl) rfl (fun hv => ?_)
  have h := h (hv _ (List.Mem.tail _ (List.Mem.head _)))
  refine r_aload_n dX12_chance_0 rfl rfl ?_
  refine r_iload_n dX12_chance_1 rfl ?_
  refine r_callV (ci := 10) (As := [(0, v1)]) (st := []) (by decide) ok_X12_288 rfl rfl (Nat.le_of_ble_eq_true rfl) dX12_chance_2 h (fun r1 s2 hv h => ?_)
  refine r_if_ne (tgt := 14) dX12_chance_5 (by decide) (fun hc => ?_) (fun hc => ?_)
  · have h := h.1 hc
    refine r_aload_n dX12_chance_14 rfl rfl ?_
    refine gf_X12_54 rfl dX12_chance_15 ?_
    refine r_aload_n dX12_chance_18 rfl rfl ?_
    refine gf_X12_40 rfl dX12_chance_19 ?_
    refine r_callV (ci := 0) (As := [(19, 48)]) (st := []) (by decide) ok_X12_291 rfl rfl (Nat.le_of_ble_eq_true rfl) dX12_chance_22 h (fun r3 s4 hv h => ?_)
    refine r_iconst dX12_chance_25 (by decide) ?_
    refine r_istore_n (ls2 := [(20, 1), (0, v1), (0, 0), (9, 0), (9, 0)]) dX12_chance_26 (by decide) rfl ?_
    refine r_iconst dX12_chance_27 (by decide) ?_
    refine r_istore_n (ls2 := [(20, 1), (0, v1), (0, 0), (0, 0), (9, 0)]) dX12_chance_28 (by decide) rfl ?_
    exact h
  · have h := h.2 hc
    refine r_aload_n dX12_chance_8 rfl rfl ?_
    refine r_iconst dX12_chance_9 (by decide) ?_
    refine r_callV (ci := 10) (As := [(0, 2)]) (st := []) (by decide) ok_X12_89 rfl rfl (Nat.le_of_ble_eq_true rfl) dX12_chance_10 h (fun r5 s6 hv h => ?_)
    exact r_iret dX12_chance_13 rfl h
abbrev P_X12_go_27 (g : GT) (e : Nat) (Q : Int → Sg → Prop) (s : Sg) (v1 : Int) (v2 : Int) : Prop := Wp g (e + 1) M_X12_go Q 27 [(20, 1), (0, v1), (0, v2), (9, 0)] [] s
abbrev P_X12_go_28 (g : GT) (e : Nat) (Q : Int → Sg → Prop) (s : Sg) (v1 : Int) (v2 : Int) (x0 : Int) : Prop := Wp g (e + 1) M_X12_go Q 28 [(20, 1), (0, v1), (0, v2), (9, 0)] [(0, x0)] s
abbrev P_X12_go_46 (g : GT) (e : Nat) (Q : Int → Sg → Prop) (s : Sg) : Prop := Wp g (e + 1) M_X12_go Q 46 [(20, 1), (9, 0), (9, 0), (9, 0)] [] s
set_option maxRecDepth 20000 in
theorem S_X12_go_27 {g : GT} {e : Nat} {Q : Int → Sg → Prop} {s : Sg} {v1 : Int} {v2 : Int} (h : P_X12_go_28 g e Q s v1 v2 0) : P_X12_go_27 g e Q s v1 v2 := by
  refine r_iconst dX12_go_27 (by decide) ?_
  exact h
set_option maxRecDepth 20000 in
theorem S_X12_go_28 {g : GT} {e : Nat} {Q : Int → Sg → Prop} {s : Sg} {v1 : Int} {v2 : Int} {x0 : Int} (h : ((x0 = 0 → P_X12_go_46 g e Q s) ∧ (¬ x0 = 0 → ((0 ≤ v1 ∧ v1 < 8) ∧ ((¬ (s 49 v1) = v2 → (Mw g e M_X1_save [(10, 65), (19, 48)] s (fun _ s2 => ((0 ≤ v1 ∧ v1 < 8) ∧ ∀ s3, s3 = ups s2 49 v1 v2 → Q 1 s3)))) ∧ ((s 49 v1) = v2 → P_X12_go_46 g e Q s)))))) : P_X12_go_28 g e Q s v1 v2 x0 := by
  refine r_istore_n (ls2 := [(20, 1), (0, v1), (0, v2), (0, x0)]) dX12_go_28 (by decide) rfl ?_
  refine r_iload_n dX12_go_29 rfl ?_
  refine r_if_eq (tgt := 46) dX12_go_30 (by decide) (fun hc => ?_) (fun hc => ?_)
  · have h := h.1 hc
    exact r_fgt [true, false, false, false] rfl h
  · have h := h.2 hc
    refine r_aload_n dX12_go_33 rfl rfl ?_
    refine gf_X12_40 rfl dX12_go_34 ?_
    refine gf_X12_184 rfl dX12_go_37 ?_
    show Wp g (e + 1) M_X12_go Q 40 [(20, 1), (0, v1), (0, v2), (0, x0)] [(33, 49)] s
    refine r_iload_n dX12_go_40 rfl ?_
    obtain ⟨hb, h⟩ := h
    refine r_iald (n := 8) rfl (by decide) dX12_go_41 hb ?_
    refine r_iload_n dX12_go_42 rfl ?_
    refine r_icmp_ne (tgt := 54) dX12_go_43 (by decide) (fun hc => ?_) (fun hc => ?_)
    · have h := h.1 hc
      refine r_aload_n dX12_go_54 rfl rfl ?_
      refine gf_X12_54 rfl dX12_go_55 ?_
      refine r_aload_n dX12_go_58 rfl rfl ?_
      refine gf_X12_40 rfl dX12_go_59 ?_
      refine r_callV (ci := 0) (As := [(19, 48)]) (st := []) (by decide) ok_X12_291 rfl rfl (Nat.le_of_ble_eq_true rfl) dX12_go_62 h (fun r1 s2 hv h => ?_)
      refine r_aload_n dX12_go_65 rfl rfl ?_
      refine gf_X12_40 rfl dX12_go_66 ?_
      refine gf_X12_184 rfl dX12_go_69 ?_
      show Wp g (e + 1) M_X12_go Q 72 [(20, 1), (0, v1), (0, v2), (0, x0)] [(33, 49)] s2
      refine r_iload_n dX12_go_72 rfl ?_
      refine r_iload_n dX12_go_73 rfl ?_
      obtain ⟨hb, h⟩ := h
      refine r_iast (n := 8) rfl (by decide) dX12_go_74 hb ?_
      have h := h _ rfl
      generalize hs_s3 : ups s2 49 v1 v2 = s3 at h ⊢
      refine r_iconst dX12_go_75 (by decide) ?_
      exact r_zret dX12_go_76 rfl (by decide) h
    · have h := h.2 hc
      exact r_fgt [true, false, false, false] rfl h
set_option maxRecDepth 20000 in
theorem S_X12_go_46 {g : GT} {e : Nat} {Q : Int → Sg → Prop} {s : Sg} (h : (Mw g e M_X12_refuse [(20, 1), (0, 3)] s (fun r1 s2 => Q 0 s2))) : P_X12_go_46 g e Q s := by
  refine r_aload_n dX12_go_46 rfl rfl ?_
  refine r_iconst dX12_go_47 (by decide) ?_
  refine r_callV (ci := 10) (As := [(0, 3)]) (st := []) (by decide) ok_X12_89 rfl rfl (Nat.le_of_ble_eq_true rfl) dX12_go_48 h (fun r1 s2 hv h => ?_)
  refine r_pop dX12_go_51 (show (0 : Nat) ≠ 2 by decide) ?_
  refine r_iconst dX12_go_52 (by decide) ?_
  exact r_zret dX12_go_53 rfl (by decide) h
set_option maxRecDepth 20000 in
theorem S_X12_go {g : GT} {e : Nat} {Q : Int → Sg → Prop} {s : Sg} {v1 : Int} {v2 : Int} (h : inR v1 → inR v2 → (Mw g e M_X12_isChild [(20, 1), (0, v1)] s (fun r1 s2 => ((r1 = 0 → P_X12_go_27 g e Q s2 v1 v2) ∧ (¬ r1 = 0 → ((v2 < 0 → P_X12_go_27 g e Q s2 v1 v2) ∧ (¬ v2 < 0 → (Mw g e M_X9_homeCount [(18, (s2 1 8))] s2 (fun r3 s4 => ((r3 ≤ v2 → P_X12_go_27 g e Q s4 v1 v2) ∧ (¬ r3 ≤ v2 → P_X12_go_28 g e Q s4 v1 v2 1))))))))))) : Mw g (e + 1) M_X12_go [(20, 1), (0, v1), (0, v2)] s Q := by
  refine Mw.of (ls := [(20, 1), (0, v1), (0, v2), (9, 0)]) pn_X12_go (Nat.le_of_ble_eq_true rfl) rfl (fun hv => ?_)
  have h := h (hv _ (List.Mem.tail _ (List.Mem.head _))) (hv _ (List.Mem.tail _ (List.Mem.tail _ (List.Mem.head _))))
  refine r_aload_n dX12_go_0 rfl rfl ?_
  refine r_iload_n dX12_go_1 rfl ?_
  refine r_callV (ci := 10) (As := [(0, v1)]) (st := []) (by decide) ok_X12_180 rfl rfl (Nat.le_of_ble_eq_true rfl) dX12_go_2 h (fun r1 s2 hv h => ?_)
  refine r_if_eq (tgt := 27) dX12_go_5 (by decide) (fun hc => ?_) (fun hc => ?_)
  · have h := h.1 hc
    exact h
  · have h := h.2 hc
    refine r_iload_n dX12_go_8 rfl ?_
    refine r_if_lt (tgt := 27) dX12_go_9 (by decide) (fun hc => ?_) (fun hc => ?_)
    · have h := h.1 hc
      exact h
    · have h := h.2 hc
      refine r_iload_n dX12_go_12 rfl ?_
      refine r_aload_n dX12_go_13 rfl rfl ?_
      refine gf_X12_19 rfl dX12_go_14 ?_
      refine r_callV (ci := 8) (As := []) (st := [(0, v2)]) (by decide) ok_X12_128 rfl rfl (Nat.le_of_ble_eq_true rfl) dX12_go_17 h (fun r3 s4 hv h => ?_)
      refine r_icmp_ge (tgt := 27) dX12_go_20 (by decide) (fun hc => ?_) (fun hc => ?_)
      · have h := h.1 hc
        exact h
      · have h := h.2 hc
        refine r_iconst dX12_go_23 (by decide) ?_
        refine r_goto (tgt := 28) dX12_go_24 (by decide) ?_
        exact h
set_option maxRecDepth 20000 in
theorem S_X12_pull {g : GT} {e : Nat} {Q : Int → Sg → Prop} {s : Sg} {v1 : Int} (h : inR v1 → (Mw g e M_X12_isBuilt [(20, 1), (0, v1)] s (fun r1 s2 => ((¬ r1 = 0 → (Mw g e M_X1_save [(10, 65), (19, 48)] s2 (fun _ s4 => (∀ s5, s5 = ups s4 48 11 0 → (Mw g e M_X11_pullOut [(19, 48), (0, v1)] s5 (fun _ s7 => Q (s7 48 11) s7)))))) ∧ (r1 = 0 → (Mw g e M_X12_refuse [(20, 1), (0, 3)] s2 (fun r8 s9 => Q r8 s9))))))) : Mw g (e + 1) M_X12_pull [(20, 1), (0, v1)] s Q := by
  refine Mw.of (ls := [(20, 1), (0, v1)]) pn_X12_pull (Nat.le_of_ble_eq_true rfl) rfl (fun hv => ?_)
  have h := h (hv _ (List.Mem.tail _ (List.Mem.head _)))
  refine r_aload_n dX12_pull_0 rfl rfl ?_
  refine r_iload_n dX12_pull_1 rfl ?_
  refine r_callV (ci := 10) (As := [(0, v1)]) (st := []) (by decide) ok_X12_203 rfl rfl (Nat.le_of_ble_eq_true rfl) dX12_pull_2 h (fun r1 s2 hv h => ?_)
  refine r_if_ne (tgt := 14) dX12_pull_5 (by decide) (fun hc => ?_) (fun hc => ?_)
  · have h := h.1 hc
    refine r_aload_n dX12_pull_14 rfl rfl ?_
    refine gf_X12_54 rfl dX12_pull_15 ?_
    refine r_aload_n dX12_pull_18 rfl rfl ?_
    refine gf_X12_40 rfl dX12_pull_19 ?_
    refine r_callV (ci := 0) (As := [(19, 48)]) (st := []) (by decide) ok_X12_291 rfl rfl (Nat.le_of_ble_eq_true rfl) dX12_pull_22 h (fun r3 s4 hv h => ?_)
    refine r_aload_n dX12_pull_25 rfl rfl ?_
    refine gf_X12_40 rfl dX12_pull_26 ?_
    refine r_iconst dX12_pull_29 (by decide) ?_
    refine pf_X12_238 rfl dX12_pull_30 ?_
    have h := h _ rfl
    generalize hs_s5 : ups s4 48 11 0 = s5 at h ⊢
    refine r_aload_n dX12_pull_33 rfl rfl ?_
    refine gf_X12_40 rfl dX12_pull_34 ?_
    refine r_iload_n dX12_pull_37 rfl ?_
    refine r_callV (ci := 9) (As := [(0, v1)]) (st := []) (by decide) ok_X12_308 rfl rfl (Nat.le_of_ble_eq_true rfl) dX12_pull_38 h (fun r6 s7 hv h => ?_)
    refine r_aload_n dX12_pull_41 rfl rfl ?_
    refine gf_X12_40 rfl dX12_pull_42 ?_
    refine gf_X12_238 rfl dX12_pull_45 ?_
    exact r_iret dX12_pull_48 rfl h
  · have h := h.2 hc
    refine r_aload_n dX12_pull_8 rfl rfl ?_
    refine r_iconst dX12_pull_9 (by decide) ?_
    refine r_callV (ci := 10) (As := [(0, 3)]) (st := []) (by decide) ok_X12_89 rfl rfl (Nat.le_of_ble_eq_true rfl) dX12_pull_10 h (fun r8 s9 hv h => ?_)
    exact r_iret dX12_pull_13 rfl h
abbrev P_X12_peace_29 (g : GT) (e : Nat) (Q : Int → Sg → Prop) (s : Sg) : Prop := Wp g (e + 1) M_X12_peace Q 29 [(20, 1), (9, 0)] [] s
set_option maxRecDepth 20000 in
theorem S_X12_peace_29 {g : GT} {e : Nat} {Q : Int → Sg → Prop} {s : Sg} (h : (Mw g e M_X12_refuse [(20, 1), (0, 3)] s (fun r1 s2 => Q 0 s2))) : P_X12_peace_29 g e Q s := by
  refine r_aload_n dX12_peace_29 rfl rfl ?_
  refine r_iconst dX12_peace_30 (by decide) ?_
  refine r_callV (ci := 10) (As := [(0, 3)]) (st := []) (by decide) ok_X12_89 rfl rfl (Nat.le_of_ble_eq_true rfl) dX12_peace_31 h (fun r1 s2 hv h => ?_)
  refine r_pop dX12_peace_34 (show (0 : Nat) ≠ 2 by decide) ?_
  refine r_iconst dX12_peace_35 (by decide) ?_
  exact r_zret dX12_peace_36 rfl (by decide) h
set_option maxRecDepth 20000 in
theorem S_X12_peace {g : GT} {e : Nat} {Q : Int → Sg → Prop} {s : Sg} {v1 : Int} (h : inR v1 → ((v1 < 0 → P_X12_peace_29 g e Q s) ∧ (¬ v1 < 0 → (((s (s 1 8) 13) ≤ v1 → P_X12_peace_29 g e Q s) ∧ (¬ (s (s 1 8) 13) ≤ v1 → (((bAnd (s 48 2) (bShl 1 v1)) = 0 → (Mw g e M_X1_save [(10, 65), (19, 48)] s (fun _ s2 => (∀ s3, s3 = ups s2 48 2 (bOr (s2 48 2) (bShl 1 v1)) → Q 1 s3)))) ∧ (¬ (bAnd (s 48 2) (bShl 1 v1)) = 0 → P_X12_peace_29 g e Q s))))))) : Mw g (e + 1) M_X12_peace [(20, 1), (0, v1)] s Q := by
  refine Mw.of (ls := [(20, 1), (0, v1)]) pn_X12_peace (Nat.le_of_ble_eq_true rfl) rfl (fun hv => ?_)
  have h := h (hv _ (List.Mem.tail _ (List.Mem.head _)))
  refine r_iload_n dX12_peace_0 rfl ?_
  refine r_if_lt (tgt := 29) dX12_peace_1 (by decide) (fun hc => ?_) (fun hc => ?_)
  · have h := h.1 hc
    exact r_fgt [true, false] rfl h
  · have h := h.2 hc
    refine r_iload_n dX12_peace_4 rfl ?_
    refine r_aload_n dX12_peace_5 rfl rfl ?_
    refine gf_X12_19 rfl dX12_peace_6 ?_
    refine gf_X12_138 rfl dX12_peace_9 ?_
    refine r_icmp_ge (tgt := 29) dX12_peace_12 (by decide) (fun hc => ?_) (fun hc => ?_)
    · have h := h.1 hc
      exact r_fgt [true, false] rfl h
    · have h := h.2 hc
      refine r_aload_n dX12_peace_15 rfl rfl ?_
      refine gf_X12_40 rfl dX12_peace_16 ?_
      refine gf_X12_141 rfl dX12_peace_19 ?_
      refine r_iconst dX12_peace_22 (by decide) ?_
      refine r_iload_n dX12_peace_23 rfl ?_
      refine r_ishl dX12_peace_24 ?_
      refine r_iand dX12_peace_25 ?_
      refine r_if_eq (tgt := 37) dX12_peace_26 (by decide) (fun hc => ?_) (fun hc => ?_)
      · have h := h.1 hc
        refine r_aload_n dX12_peace_37 rfl rfl ?_
        refine gf_X12_54 rfl dX12_peace_38 ?_
        refine r_aload_n dX12_peace_41 rfl rfl ?_
        refine gf_X12_40 rfl dX12_peace_42 ?_
        refine r_callV (ci := 0) (As := [(19, 48)]) (st := []) (by decide) ok_X12_291 rfl rfl (Nat.le_of_ble_eq_true rfl) dX12_peace_45 h (fun r1 s2 hv h => ?_)
        refine r_aload_n dX12_peace_48 rfl rfl ?_
        refine gf_X12_40 rfl dX12_peace_49 ?_
        refine r_dup dX12_peace_52 (show (19 : Nat) ≠ 2 by decide) ?_
        refine gf_X12_141 rfl dX12_peace_53 ?_
        refine r_iconst dX12_peace_56 (by decide) ?_
        refine r_iload_n dX12_peace_57 rfl ?_
        refine r_ishl dX12_peace_58 ?_
        refine r_ior dX12_peace_59 ?_
        refine pf_X12_141 rfl dX12_peace_60 ?_
        have h := h _ rfl
        generalize hs_s3 : ups s2 48 2 (bOr (s2 48 2) (bShl 1 v1)) = s3 at h ⊢
        refine r_iconst dX12_peace_63 (by decide) ?_
        exact r_zret dX12_peace_64 rfl (by decide) h
      · have h := h.2 hc
        exact r_fgt [true, false] rfl h
set_option maxRecDepth 20000 in
theorem S_X12_undo {g : GT} {e : Nat} {Q : Int → Sg → Prop} {s : Sg} (h : (Mw g e M_X1_takeBack [(10, 65), (19, 48)] s (fun r1 s2 => ((¬ r1 = 0 → Q 1 s2) ∧ (r1 = 0 → (Mw g e M_X12_refuse [(20, 1), (0, 4)] s2 (fun r3 s4 => Q 0 s4))))))) : Mw g (e + 1) M_X12_undo [(20, 1)] s Q := by
  refine Mw.of (ls := [(20, 1)]) pn_X12_undo (Nat.le_of_ble_eq_true rfl) rfl (fun hv => ?_)
  refine r_aload_n dX12_undo_0 rfl rfl ?_
  refine gf_X12_54 rfl dX12_undo_1 ?_
  refine r_aload_n dX12_undo_4 rfl rfl ?_
  refine gf_X12_40 rfl dX12_undo_5 ?_
  refine r_callV (ci := 0) (As := [(19, 48)]) (st := []) (by decide) ok_X12_311 rfl rfl (Nat.le_of_ble_eq_true rfl) dX12_undo_8 h (fun r1 s2 hv h => ?_)
  refine r_if_ne (tgt := 22) dX12_undo_11 (by decide) (fun hc => ?_) (fun hc => ?_)
  · have h := h.1 hc
    refine r_iconst dX12_undo_22 (by decide) ?_
    exact r_zret dX12_undo_23 rfl (by decide) h
  · have h := h.2 hc
    refine r_aload_n dX12_undo_14 rfl rfl ?_
    refine r_iconst dX12_undo_15 (by decide) ?_
    refine r_callV (ci := 10) (As := [(0, 4)]) (st := []) (by decide) ok_X12_89 rfl rfl (Nat.le_of_ble_eq_true rfl) dX12_undo_16 h (fun r3 s4 hv h => ?_)
    refine r_pop dX12_undo_19 (show (0 : Nat) ≠ 2 by decide) ?_
    refine r_iconst dX12_undo_20 (by decide) ?_
    exact r_zret dX12_undo_21 rfl (by decide) h
set_option maxRecDepth 20000 in
theorem S_X12_seed {g : GT} {e : Nat} {Q : Int → Sg → Prop} {s : Sg} {v1 : Int} (h : inR v1 → ((0 ≤ v1 → (∀ s1, s1 = ups s 1 12 v1 → Q 1 s1)) ∧ (¬ 0 ≤ v1 → (Mw g e M_X12_refuse [(20, 1), (0, 5)] s (fun r2 s3 => Q 0 s3))))) : Mw g (e + 1) M_X12_seed [(20, 1), (0, v1)] s Q := by
  refine Mw.of (ls := [(20, 1), (0, v1)]) pn_X12_seed (Nat.le_of_ble_eq_true rfl) rfl (fun hv => ?_)
  have h := h (hv _ (List.Mem.tail _ (List.Mem.head _)))
  refine r_iload_n dX12_seed_0 rfl ?_
  refine r_if_ge (tgt := 12) dX12_seed_1 (by decide) (fun hc => ?_) (fun hc => ?_)
  · have h := h.1 hc
    refine r_aload_n dX12_seed_12 rfl rfl ?_
    refine r_iload_n dX12_seed_13 rfl ?_
    refine pf_X12_83 rfl dX12_seed_14 ?_
    have h := h _ rfl
    generalize hs_s1 : ups s 1 12 v1 = s1 at h ⊢
    refine r_iconst dX12_seed_17 (by decide) ?_
    exact r_zret dX12_seed_18 rfl (by decide) h
  · have h := h.2 hc
    refine r_aload_n dX12_seed_4 rfl rfl ?_
    refine r_iconst dX12_seed_5 (by decide) ?_
    refine r_callV (ci := 10) (As := [(0, 5)]) (st := []) (by decide) ok_X12_89 rfl rfl (Nat.le_of_ble_eq_true rfl) dX12_seed_6 h (fun r2 s3 hv h => ?_)
    refine r_pop dX12_seed_9 (show (0 : Nat) ≠ 2 by decide) ?_
    refine r_iconst dX12_seed_10 (by decide) ?_
    exact r_zret dX12_seed_11 rfl (by decide) h
set_option maxRecDepth 20000 in
theorem S_X12_kept {g : GT} {e : Nat} {Q : Int → Sg → Prop} {s : Sg} {v1 : Int} {v2 : Int} (h : inR v1 → inR v2 → ((v1 < 0 → Q (-1) s) ∧ (¬ v1 < 0 → ((v1 < (s 48 9) → ((0 ≤ v1 ∧ v1 < 60) ∧ ((v2 = 0 → Q (bShr (s 54 v1) 6) s) ∧ (v2 = 1 → Q (bAnd (bShr (s 54 v1) 3) 7) s) ∧ (v2 = 2 → Q (bAnd (bShr (s 54 v1) 1) 3) s) ∧ (v2 = 3 → Q (bAnd (s 54 v1) 1) s) ∧ ((v2 < 0 ∨ 3 < v2) → Q (-1) s)))) ∧ (¬ v1 < (s 48 9) → Q (-1) s))))) : Mw g (e + 1) M_X12_kept [(20, 1), (0, v1), (0, v2)] s Q := by
  refine Mw.of (ls := [(20, 1), (0, v1), (0, v2), (9, 0)]) pn_X12_kept (Nat.le_of_ble_eq_true rfl) rfl (fun hv => ?_)
  have h := h (hv _ (List.Mem.tail _ (List.Mem.head _))) (hv _ (List.Mem.tail _ (List.Mem.tail _ (List.Mem.head _))))
  refine r_iload_n dX12_kept_0 rfl ?_
  refine r_if_lt (tgt := 15) dX12_kept_1 (by decide) (fun hc => ?_) (fun hc => ?_)
  · have h := h.1 hc
    refine r_iconst dX12_kept_15 (by decide) ?_
    exact r_iret dX12_kept_16 rfl h
  · have h := h.2 hc
    refine r_iload_n dX12_kept_4 rfl ?_
    refine r_aload_n dX12_kept_5 rfl rfl ?_
    refine gf_X12_40 rfl dX12_kept_6 ?_
    refine gf_X12_158 rfl dX12_kept_9 ?_
    refine r_icmp_lt (tgt := 17) dX12_kept_12 (by decide) (fun hc => ?_) (fun hc => ?_)
    · have h := h.1 hc
      refine r_aload_n dX12_kept_17 rfl rfl ?_
      refine gf_X12_40 rfl dX12_kept_18 ?_
      refine gf_X12_315 rfl dX12_kept_21 ?_
      show Wp g (e + 1) M_X12_kept Q 24 [(20, 1), (0, v1), (0, v2), (9, 0)] [(41, 54)] s
      refine r_iload_n dX12_kept_24 rfl ?_
      obtain ⟨hb, h⟩ := h
      refine r_iald (n := 60) rfl (by decide) dX12_kept_25 hb ?_
      refine r_istore_n (ls2 := [(20, 1), (0, v1), (0, v2), (0, (s 54 v1))]) dX12_kept_26 (by decide) rfl ?_
      refine r_iload_n dX12_kept_27 rfl ?_
      obtain ⟨h_0, h_1, h_2, h_3, h_d⟩ := h
      rcases (show (v2 < 0 ∨ 3 < v2) ∨ v2 = 0 ∨ v2 = 1 ∨ v2 = 2 ∨ v2 = 3 by omega) with hk | hk | hk | hk | hk
      · have h := h_d hk
        refine r_tableOut (tgt := 82) dX12_kept_28 hk (by decide) ?_
        refine r_iconst dX12_kept_82 (by decide) ?_
        exact r_iret dX12_kept_83 rfl h
      · have h := h_0 hk
        refine r_tableIn (tgt := 60) dX12_kept_28 (by omega) (by omega) (by rw [hk]; rfl) (by decide) ?_
        refine r_iload_n dX12_kept_60 rfl ?_
        refine r_bipush dX12_kept_61 (by decide) rfl ?_
        refine r_ishr dX12_kept_63 ?_
        exact r_iret dX12_kept_64 rfl h
      · have h := h_1 hk
        refine r_tableIn (tgt := 65) dX12_kept_28 (by omega) (by omega) (by rw [hk]; rfl) (by decide) ?_
        refine r_iload_n dX12_kept_65 rfl ?_
        refine r_iconst dX12_kept_66 (by decide) ?_
        refine r_ishr dX12_kept_67 ?_
        refine r_bipush dX12_kept_68 (by decide) rfl ?_
        refine r_iand dX12_kept_70 ?_
        exact r_iret dX12_kept_71 rfl h
      · have h := h_2 hk
        refine r_tableIn (tgt := 72) dX12_kept_28 (by omega) (by omega) (by rw [hk]; rfl) (by decide) ?_
        refine r_iload_n dX12_kept_72 rfl ?_
        refine r_iconst dX12_kept_73 (by decide) ?_
        refine r_ishr dX12_kept_74 ?_
        refine r_iconst dX12_kept_75 (by decide) ?_
        refine r_iand dX12_kept_76 ?_
        exact r_iret dX12_kept_77 rfl h
      · have h := h_3 hk
        refine r_tableIn (tgt := 78) dX12_kept_28 (by omega) (by omega) (by rw [hk]; rfl) (by decide) ?_
        refine r_iload_n dX12_kept_78 rfl ?_
        refine r_iconst dX12_kept_79 (by decide) ?_
        refine r_iand dX12_kept_80 ?_
        exact r_iret dX12_kept_81 rfl h
    · have h := h.2 hc
      refine r_iconst dX12_kept_15 (by decide) ?_
      exact r_iret dX12_kept_16 rfl h
set_option maxRecDepth 20000 in
theorem S_X12_image {g : GT} {e : Nat} {Q : Int → Sg → Prop} {s : Sg} (h : (Mw g e M_X3_write [(12, 89), (19, 48)] s (fun _ s2 => Q (s2 89 1) s2))) : Mw g (e + 1) M_X12_image [(20, 1)] s Q := by
  refine Mw.of (ls := [(20, 1)]) pn_X12_image (Nat.le_of_ble_eq_true rfl) rfl (fun hv => ?_)
  refine r_aload_n dX12_image_0 rfl rfl ?_
  refine gf_X12_68 rfl dX12_image_1 ?_
  refine r_aload_n dX12_image_4 rfl rfl ?_
  refine gf_X12_40 rfl dX12_image_5 ?_
  refine r_callV (ci := 2) (As := [(19, 48)]) (st := []) (by decide) ok_X12_318 rfl rfl (Nat.le_of_ble_eq_true rfl) dX12_image_8 h (fun r1 s2 hv h => ?_)
  refine r_aload_n dX12_image_11 rfl rfl ?_
  refine gf_X12_68 rfl dX12_image_12 ?_
  refine gf_X12_321 rfl dX12_image_15 ?_
  exact r_iret dX12_image_18 rfl h
set_option maxRecDepth 20000 in
theorem S_X12_octet {g : GT} {e : Nat} {Q : Int → Sg → Prop} {s : Sg} {v1 : Int} (h : inR v1 → ((v1 < 0 → Q (-1) s) ∧ (¬ v1 < 0 → (((s 89 1) ≤ v1 → Q (-1) s) ∧ (¬ (s 89 1) ≤ v1 → ((0 ≤ v1 ∧ v1 < 61) ∧ Q (s 90 v1) s)))))) : Mw g (e + 1) M_X12_octet [(20, 1), (0, v1)] s Q := by
  refine Mw.of (ls := [(20, 1), (0, v1)]) pn_X12_octet (Nat.le_of_ble_eq_true rfl) rfl (fun hv => ?_)
  have h := h (hv _ (List.Mem.tail _ (List.Mem.head _)))
  refine r_iload_n dX12_octet_0 rfl ?_
  refine r_if_lt (tgt := 27) dX12_octet_1 (by decide) (fun hc => ?_) (fun hc => ?_)
  · have h := h.1 hc
    refine r_iconst dX12_octet_27 (by decide) ?_
    exact r_iret dX12_octet_28 rfl h
  · have h := h.2 hc
    refine r_iload_n dX12_octet_4 rfl ?_
    refine r_aload_n dX12_octet_5 rfl rfl ?_
    refine gf_X12_68 rfl dX12_octet_6 ?_
    refine gf_X12_321 rfl dX12_octet_9 ?_
    refine r_icmp_ge (tgt := 27) dX12_octet_12 (by decide) (fun hc => ?_) (fun hc => ?_)
    · have h := h.1 hc
      refine r_iconst dX12_octet_27 (by decide) ?_
      exact r_iret dX12_octet_28 rfl h
    · have h := h.2 hc
      refine r_aload_n dX12_octet_15 rfl rfl ?_
      refine gf_X12_68 rfl dX12_octet_16 ?_
      refine gf_X12_322 rfl dX12_octet_19 ?_
      refine r_iload_n dX12_octet_22 rfl ?_
      obtain ⟨hb, h⟩ := h
      refine r_iald (n := 61) rfl (by decide) dX12_octet_23 hb ?_
      refine r_goto (tgt := 28) dX12_octet_24 (by decide) ?_
      exact r_iret dX12_octet_28 rfl h
set_option maxRecDepth 20000 in
theorem S_X12_on {g : GT} {e : Nat} {Q : Int → Sg → Prop} {s : Sg} (h : (Mw g e M_X3_read [(17, 2), (18, (s 1 8)), (19, 58)] s (fun r1 s2 => (∀ s3, s3 = ups s2 2 1 0 → ((¬ r1 = 0 → (Mw g e M_X11_copy [(19, 48), (19, 58)] s3 (fun _ s5 => (Mw g e M_X1_forget [(10, 65)] s5 (fun _ s7 => Q 1 s7))))) ∧ (r1 = 0 → (Mw g e M_X12_refuse [(20, 1), (0, 5)] s3 (fun r8 s9 => Q 0 s9)))))))) : Mw g (e + 1) M_X12_on [(20, 1)] s Q := by
  refine Mw.of (ls := [(20, 1), (9, 0)]) pn_X12_on (Nat.le_of_ble_eq_true rfl) rfl (fun hv => ?_)
  refine r_aload_n dX12_on_0 rfl rfl ?_
  refine gf_X12_10 rfl dX12_on_1 ?_
  refine r_aload_n dX12_on_4 rfl rfl ?_
  refine gf_X12_19 rfl dX12_on_5 ?_
  refine r_aload_n dX12_on_8 rfl rfl ?_
  refine gf_X12_47 rfl dX12_on_9 ?_
  refine gf_X12_235 rfl dX12_on_12 ?_
  refine r_callS (As := [(17, 2), (18, (s 1 8)), (19, 58)]) (st := []) ok_X12_325 rfl rfl (Nat.le_of_ble_eq_true rfl) dX12_on_15 h (fun r1 s2 hv h => ?_)
  refine r_istore_n (ls2 := [(20, 1), (0, r1)]) dX12_on_18 (by decide) rfl ?_
  refine r_aload_n dX12_on_19 rfl rfl ?_
  refine gf_X12_10 rfl dX12_on_20 ?_
  refine r_iconst dX12_on_23 (by decide) ?_
  refine pf_X12_86 rfl dX12_on_24 ?_
  have h := h _ rfl
  generalize hs_s3 : ups s2 2 1 0 = s3 at h ⊢
  refine r_iload_n dX12_on_27 rfl ?_
  refine r_if_ne (tgt := 39) dX12_on_28 (by decide) (fun hc => ?_) (fun hc => ?_)
  · have h := h.1 hc
    refine r_aload_n dX12_on_39 rfl rfl ?_
    refine gf_X12_40 rfl dX12_on_40 ?_
    refine r_aload_n dX12_on_43 rfl rfl ?_
    refine gf_X12_47 rfl dX12_on_44 ?_
    refine gf_X12_235 rfl dX12_on_47 ?_
    refine r_callV (ci := 9) (As := [(19, 58)]) (st := []) (by decide) ok_X12_329 rfl rfl (Nat.le_of_ble_eq_true rfl) dX12_on_50 h (fun r4 s5 hv h => ?_)
    refine r_aload_n dX12_on_53 rfl rfl ?_
    refine gf_X12_54 rfl dX12_on_54 ?_
    refine r_callV (ci := 0) (As := []) (st := []) (by decide) ok_X12_123 rfl rfl (Nat.le_of_ble_eq_true rfl) dX12_on_57 h (fun r6 s7 hv h => ?_)
    refine r_iconst dX12_on_60 (by decide) ?_
    exact r_zret dX12_on_61 rfl (by decide) h
  · have h := h.2 hc
    refine r_aload_n dX12_on_31 rfl rfl ?_
    refine r_iconst dX12_on_32 (by decide) ?_
    refine r_callV (ci := 10) (As := [(0, 5)]) (st := []) (by decide) ok_X12_89 rfl rfl (Nat.le_of_ble_eq_true rfl) dX12_on_33 h (fun r8 s9 hv h => ?_)
    refine r_pop dX12_on_36 (show (0 : Nat) ≠ 2 by decide) ?_
    refine r_iconst dX12_on_37 (by decide) ?_
    exact r_zret dX12_on_38 rfl (by decide) h
set_option maxRecDepth 20000 in
theorem S_X12_status {g : GT} {e : Nat} {Q : Int → Sg → Prop} {s : Sg} {v1 : Int} (h : inR v1 → ((v1 < 0 → Q (-1) s) ∧ (¬ v1 < 0 → ((5 < v1 → Q (-1) s) ∧ (¬ 5 < v1 → ((0 ≤ v1 ∧ v1 < 6) ∧ Q (s 91 v1) s)))))) : Mw g (e + 1) M_X12_status [(20, 1), (0, v1)] s Q := by
  refine Mw.of (ls := [(20, 1), (0, v1)]) pn_X12_status (Nat.le_of_ble_eq_true rfl) rfl (fun hv => ?_)
  have h := h (hv _ (List.Mem.tail _ (List.Mem.head _)))
  refine r_iload_n dX12_status_0 rfl ?_
  refine r_if_lt (tgt := 18) dX12_status_1 (by decide) (fun hc => ?_) (fun hc => ?_)
  · have h := h.1 hc
    refine r_iconst dX12_status_18 (by decide) ?_
    exact r_iret dX12_status_19 rfl h
  · have h := h.2 hc
    refine r_iload_n dX12_status_4 rfl ?_
    refine r_iconst dX12_status_5 (by decide) ?_
    refine r_icmp_gt (tgt := 18) dX12_status_6 (by decide) (fun hc => ?_) (fun hc => ?_)
    · have h := h.1 hc
      refine r_iconst dX12_status_18 (by decide) ?_
      exact r_iret dX12_status_19 rfl h
    · have h := h.2 hc
      refine r_aload_n dX12_status_9 rfl rfl ?_
      refine gf_X12_72 rfl dX12_status_10 ?_
      refine r_iload_n dX12_status_13 rfl ?_
      obtain ⟨hb, h⟩ := h
      refine r_iald (n := 6) rfl (by decide) dX12_status_14 hb ?_
      refine r_goto (tgt := 19) dX12_status_15 (by decide) ?_
      exact r_iret dX12_status_19 rfl h
