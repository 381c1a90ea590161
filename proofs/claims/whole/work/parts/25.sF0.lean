set_option maxRecDepth 20000 in
theorem S_X13_isDefault {g : GT} {e : Nat} {Q : Int → Sg → Prop} {s : Sg} {v1 : Int} (h : inR v1 → ((0 ≤ (w32 ((w32 (5 * v1)) + 0)) ∧ (w32 ((w32 (5 * v1)) + 0)) < 10) ∧ ∀ s1, s1 = ups s 107 (w32 ((w32 (5 * v1)) + 0)) 7 → ((0 ≤ (w32 ((w32 (5 * v1)) + 1)) ∧ (w32 ((w32 (5 * v1)) + 1)) < 10) ∧ ∀ s2, s2 = ups s1 107 (w32 ((w32 (5 * v1)) + 1)) 21 → ((0 ≤ (w32 ((w32 (5 * v1)) + 2)) ∧ (w32 ((w32 (5 * v1)) + 2)) < 10) ∧ ∀ s3, s3 = ups s2 107 (w32 ((w32 (5 * v1)) + 2)) 10 → ((0 ≤ (w32 ((w32 (5 * v1)) + 3)) ∧ (w32 ((w32 (5 * v1)) + 3)) < 10) ∧ ∀ s4, s4 = ups s3 107 (w32 ((w32 (5 * v1)) + 3)) 0 → ((0 ≤ (w32 ((w32 (5 * v1)) + 4)) ∧ (w32 ((w32 (5 * v1)) + 4)) < 10) ∧ ∀ s5, s5 = ups s4 107 (w32 ((w32 (5 * v1)) + 4)) 5 → Q 0 s5)))))) : Mw g (e + 1) M_X13_isDefault [(21, 92), (0, v1)] s Q := by
  refine Mw.of (ls := [(21, 92), (0, v1)]) pn_X13_isDefault (Nat.le_of_ble_eq_true rfl) rfl (fun hv => ?_)
  have h := h (hv _ (List.Mem.tail _ (List.Mem.head _)))
  refine r_aload_n dX13_isDefault_0 rfl rfl ?_
  refine gf_X13_93 rfl dX13_isDefault_1 ?_
  refine r_iconst dX13_isDefault_4 (by decide) ?_
  refine r_iload_n dX13_isDefault_5 rfl ?_
  refine r_imul dX13_isDefault_6 ?_
  refine r_iconst dX13_isDefault_7 (by decide) ?_
  refine r_iadd dX13_isDefault_8 ?_
  refine r_bipush dX13_isDefault_9 (by decide) rfl ?_
  obtain ⟨hb, h⟩ := h
  refine r_iast (n := 10) rfl (by decide) dX13_isDefault_11 hb ?_
  have h := h _ rfl
  generalize hs_s1 : ups s 107 (w32 ((w32 (5 * v1)) + 0)) 7 = s1 at h ⊢
  refine r_aload_n dX13_isDefault_12 rfl rfl ?_
  refine gf_X13_93 rfl dX13_isDefault_13 ?_
  refine r_iconst dX13_isDefault_16 (by decide) ?_
  refine r_iload_n dX13_isDefault_17 rfl ?_
  refine r_imul dX13_isDefault_18 ?_
  refine r_iconst dX13_isDefault_19 (by decide) ?_
  refine r_iadd dX13_isDefault_20 ?_
  refine r_bipush dX13_isDefault_21 (by decide) rfl ?_
  obtain ⟨hb, h⟩ := h
  refine r_iast (n := 10) rfl (by decide) dX13_isDefault_23 hb ?_
  have h := h _ rfl
  generalize hs_s2 : ups s1 107 (w32 ((w32 (5 * v1)) + 1)) 21 = s2 at h ⊢
  refine r_aload_n dX13_isDefault_24 rfl rfl ?_
  refine gf_X13_93 rfl dX13_isDefault_25 ?_
  refine r_iconst dX13_isDefault_28 (by decide) ?_
  refine r_iload_n dX13_isDefault_29 rfl ?_
  refine r_imul dX13_isDefault_30 ?_
  refine r_iconst dX13_isDefault_31 (by decide) ?_
  refine r_iadd dX13_isDefault_32 ?_
  refine r_bipush dX13_isDefault_33 (by decide) rfl ?_
  obtain ⟨hb, h⟩ := h
  refine r_iast (n := 10) rfl (by decide) dX13_isDefault_35 hb ?_
  have h := h _ rfl
  generalize hs_s3 : ups s2 107 (w32 ((w32 (5 * v1)) + 2)) 10 = s3 at h ⊢
  refine r_aload_n dX13_isDefault_36 rfl rfl ?_
  refine gf_X13_93 rfl dX13_isDefault_37 ?_
  refine r_iconst dX13_isDefault_40 (by decide) ?_
  refine r_iload_n dX13_isDefault_41 rfl ?_
  refine r_imul dX13_isDefault_42 ?_
  refine r_iconst dX13_isDefault_43 (by decide) ?_
  refine r_iadd dX13_isDefault_44 ?_
  refine r_iconst dX13_isDefault_45 (by decide) ?_
  obtain ⟨hb, h⟩ := h
  refine r_iast (n := 10) rfl (by decide) dX13_isDefault_46 hb ?_
  have h := h _ rfl
  generalize hs_s4 : ups s3 107 (w32 ((w32 (5 * v1)) + 3)) 0 = s4 at h ⊢
  refine r_aload_n dX13_isDefault_47 rfl rfl ?_
  refine gf_X13_93 rfl dX13_isDefault_48 ?_
  refine r_iconst dX13_isDefault_51 (by decide) ?_
  refine r_iload_n dX13_isDefault_52 rfl ?_
  refine r_imul dX13_isDefault_53 ?_
  refine r_iconst dX13_isDefault_54 (by decide) ?_
  refine r_iadd dX13_isDefault_55 ?_
  refine r_iconst dX13_isDefault_56 (by decide) ?_
  obtain ⟨hb, h⟩ := h
  refine r_iast (n := 10) rfl (by decide) dX13_isDefault_57 hb ?_
  have h := h _ rfl
  generalize hs_s5 : ups s4 107 (w32 ((w32 (5 * v1)) + 4)) 5 = s5 at h ⊢
  exact r_ret dX13_isDefault_58 rfl h
set_option maxRecDepth 20000 in
theorem S_X13_is {g : GT} {e : Nat} {Q : Int → Sg → Prop} {s : Sg} {v0 : Int} {v1 : Int} {v2 : Int} (h : inR v0 → inR v1 → inR v2 → ((v0 < v1 → Q 0 s) ∧ (¬ v0 < v1 → ((v2 < v0 → Q 0 s) ∧ (¬ v2 < v0 → Q 1 s))))) : Mw g (e + 1) M_X13_is [(0, v0), (0, v1), (0, v2)] s Q := by
  refine Mw.of (ls := [(0, v0), (0, v1), (0, v2)]) pn_X13_is (Nat.le_of_ble_eq_true rfl) rfl (fun hv => ?_)
  have h := h (hv _ (List.Mem.head _)) (hv _ (List.Mem.tail _ (List.Mem.head _))) (hv _ (List.Mem.tail _ (List.Mem.tail _ (List.Mem.head _))))
  refine r_iload_n dX13_is_0 rfl ?_
  refine r_iload_n dX13_is_1 rfl ?_
  refine r_icmp_lt (tgt := 14) dX13_is_2 (by decide) (fun hc => ?_) (fun hc => ?_)
  · have h := h.1 hc
    refine r_iconst dX13_is_14 (by decide) ?_
    exact r_zret dX13_is_15 rfl (by decide) h
  · have h := h.2 hc
    refine r_iload_n dX13_is_5 rfl ?_
    refine r_iload_n dX13_is_6 rfl ?_
    refine r_icmp_gt (tgt := 14) dX13_is_7 (by decide) (fun hc => ?_) (fun hc => ?_)
    · have h := h.1 hc
      refine r_iconst dX13_is_14 (by decide) ?_
      exact r_zret dX13_is_15 rfl (by decide) h
    · have h := h.2 hc
      refine r_iconst dX13_is_10 (by decide) ?_
      refine r_goto (tgt := 15) dX13_is_11 (by decide) ?_
      exact r_zret dX13_is_15 rfl (by decide) h
abbrev P_X13_put_3 (g : GT) (e : Nat) (Q : Int → Sg → Prop) (s : Sg) (v1 : Int) (v2 : Int) : Prop := Wp g (e + 1) M_X13_put Q 3 [(21, 92), (0, v1), (0, v2)] [] s
set_option maxRecDepth 20000 in
theorem S_X13_put_3 {g : GT} {e : Nat} {Q : Int → Sg → Prop} {s : Sg} {v1 : Int} {v2 : Int} (h : ((v2 < 0 → Q 0 s) ∧ (¬ v2 < 0 → ((0 ≤ (s 92 1) ∧ (s 92 1) < 1800) ∧ ∀ s1, s1 = ups s 93 (s 92 1) (bAnd (bShr v1 v2) 255) → (∀ s2, s2 = ups s1 92 1 (w32 ((s1 92 1) + 1)) → P_X13_put_3 g e Q s2 v1 (w32 (v2 + (-8)))))))) : P_X13_put_3 g e Q s v1 v2 := by
  refine r_iload_n dX13_put_3 rfl ?_
  refine r_if_lt (tgt := 39) dX13_put_4 (by decide) (fun hc => ?_) (fun hc => ?_)
  · have h := h.1 hc
    exact r_ret dX13_put_39 rfl h
  · have h := h.2 hc
    refine r_aload_n dX13_put_7 rfl rfl ?_
    refine gf_X13_7 rfl dX13_put_8 ?_
    refine r_aload_n dX13_put_11 rfl rfl ?_
    refine gf_X13_13 rfl dX13_put_12 ?_
    refine r_iload_n dX13_put_15 rfl ?_
    refine r_iload_n dX13_put_16 rfl ?_
    refine r_ishr dX13_put_17 ?_
    refine r_sipush dX13_put_18 (by decide) rfl ?_
    refine r_iand dX13_put_21 ?_
    obtain ⟨hb, h⟩ := h
    refine r_iast (n := 1800) rfl (by decide) dX13_put_22 hb ?_
    have h := h _ rfl
    generalize hs_s1 : ups s 93 (s 92 1) (bAnd (bShr v1 v2) 255) = s1 at h ⊢
    refine r_aload_n dX13_put_23 rfl rfl ?_
    refine r_dup dX13_put_24 (show (21 : Nat) ≠ 2 by decide) ?_
    refine gf_X13_13 rfl dX13_put_25 ?_
    refine r_iconst dX13_put_28 (by decide) ?_
    refine r_iadd dX13_put_29 ?_
    refine pf_X13_13 rfl dX13_put_30 ?_
    have h := h _ rfl
    generalize hs_s2 : ups s1 92 1 (w32 ((s1 92 1) + 1)) = s2 at h ⊢
    refine r_iinc (ls2 := [(21, 92), (0, v1), (0, (w32 (v2 + (-8))))]) dX13_put_33 rfl (by decide) rfl ?_
    refine r_goto (tgt := 3) dX13_put_36 (by decide) ?_
    exact h
set_option maxRecDepth 20000 in
theorem S_X13_put {g : GT} {e : Nat} {Q : Int → Sg → Prop} {s : Sg} {v1 : Int} (h : inR v1 → P_X13_put_3 g e Q s v1 24) : Mw g (e + 1) M_X13_put [(21, 92), (0, v1)] s Q := by
  refine Mw.of (ls := [(21, 92), (0, v1), (9, 0)]) pn_X13_put (Nat.le_of_ble_eq_true rfl) rfl (fun hv => ?_)
  have h := h (hv _ (List.Mem.tail _ (List.Mem.head _)))
  refine r_bipush dX13_put_0 (by decide) rfl ?_
  refine r_istore_n (ls2 := [(21, 92), (0, v1), (0, 24)]) dX13_put_2 (by decide) rfl ?_
  exact h
set_option maxRecDepth 20000 in
theorem S_X13_refuses {g : GT} {e : Nat} {Q : Int → Sg → Prop} {s : Sg} {v1 : Int} (h : inR v1 → ((0 ≤ v1 ∧ v1 < 6) ∧ ((0 ≤ v1 ∧ v1 < 6) ∧ ∀ s1, s1 = ups s 121 v1 (w32 ((s 121 v1) + 1)) → Q (-1) s1))) : Mw g (e + 1) M_X13_refuses [(21, 92), (0, v1)] s Q := by
  refine Mw.of (ls := [(21, 92), (0, v1)]) pn_X13_refuses (Nat.le_of_ble_eq_true rfl) rfl (fun hv => ?_)
  have h := h (hv _ (List.Mem.tail _ (List.Mem.head _)))
  refine r_aload_n dX13_refuses_0 rfl rfl ?_
  refine gf_X13_159 rfl dX13_refuses_1 ?_
  refine r_iload_n dX13_refuses_4 rfl ?_
  refine r_dup2 dX13_refuses_5 (show (0 : Nat) ≠ 2 by decide) (show (34 : Nat) ≠ 2 by decide) ?_
  obtain ⟨hb, h⟩ := h
  refine r_iald (n := 6) rfl (by decide) dX13_refuses_6 hb ?_
  refine r_iconst dX13_refuses_7 (by decide) ?_
  refine r_iadd dX13_refuses_8 ?_
  obtain ⟨hb, h⟩ := h
  refine r_iast (n := 6) rfl (by decide) dX13_refuses_9 hb ?_
  have h := h _ rfl
  generalize hs_s1 : ups s 121 v1 (w32 ((s 121 v1) + 1)) = s1 at h ⊢
  refine r_iconst dX13_refuses_10 (by decide) ?_
  exact r_iret dX13_refuses_11 rfl h
set_option maxRecDepth 20000 in
theorem S_X13_feed {g : GT} {e : Nat} {Q : Int → Sg → Prop} {s : Sg} {v1 : Int} {v2 : Int} {v3 : Int} {v4 : Int} {v5 : Int} (h : inR v1 → inR v2 → inR v3 → inR v4 → inR v5 → (((w32 ((s 92 1) + 20)) ≤ 1600 → (Mw g e M_X13_put [(21, 92), (0, v1)] s (fun _ s2 => (Mw g e M_X13_put [(21, 92), (0, v2)] s2 (fun _ s4 => (Mw g e M_X13_put [(21, 92), (0, v3)] s4 (fun _ s6 => (Mw g e M_X13_put [(21, 92), (0, v4)] s6 (fun _ s8 => (Mw g e M_X13_put [(21, 92), (0, v5)] s8 (fun _ s10 => Q (s10 92 1) s10))))))))))) ∧ (¬ (w32 ((s 92 1) + 20)) ≤ 1600 → (Mw g e M_X13_refuses [(21, 92), (0, 0)] s (fun r11 s12 => Q r11 s12))))) : Mw g (e + 1) M_X13_feed [(21, 92), (0, v1), (0, v2), (0, v3), (0, v4), (0, v5)] s Q := by
  refine Mw.of (ls := [(21, 92), (0, v1), (0, v2), (0, v3), (0, v4), (0, v5)]) pn_X13_feed (Nat.le_of_ble_eq_true rfl) rfl (fun hv => ?_)
  have h := h (hv _ (List.Mem.tail _ (List.Mem.head _))) (hv _ (List.Mem.tail _ (List.Mem.tail _ (List.Mem.head _)))) (hv _ (List.Mem.tail _ (List.Mem.tail _ (List.Mem.tail _ (List.Mem.head _))))) (hv _ (List.Mem.tail _ (List.Mem.tail _ (List.Mem.tail _ (List.Mem.tail _ (List.Mem.head _)))))) (hv _ (List.Mem.tail _ (List.Mem.tail _ (List.Mem.tail _ (List.Mem.tail _ (List.Mem.tail _ (List.Mem.head _)))))))
  refine r_aload_n dX13_feed_0 rfl rfl ?_
  refine gf_X13_13 rfl dX13_feed_1 ?_
  refine r_bipush dX13_feed_4 (by decide) rfl ?_
  refine r_iadd dX13_feed_6 ?_
  refine r_sipush dX13_feed_7 (by decide) rfl ?_
  refine r_icmp_le (tgt := 19) dX13_feed_10 (by decide) (fun hc => ?_) (fun hc => ?_)
  · have h := h.1 hc
    refine r_aload_n dX13_feed_19 rfl rfl ?_
    refine r_iload_n dX13_feed_20 rfl ?_
    refine r_callV (ci := 11) (As := [(0, v1)]) (st := []) (by decide) ok_X13_254 rfl rfl (Nat.le_of_ble_eq_true rfl) dX13_feed_21 h (fun r1 s2 hv h => ?_)
    refine r_aload_n dX13_feed_24 rfl rfl ?_
    refine r_iload_n dX13_feed_25 rfl ?_
    refine r_callV (ci := 11) (As := [(0, v2)]) (st := []) (by decide) ok_X13_254 rfl rfl (Nat.le_of_ble_eq_true rfl) dX13_feed_26 h (fun r3 s4 hv h => ?_)
    refine r_aload_n dX13_feed_29 rfl rfl ?_
    refine r_iload_n dX13_feed_30 rfl ?_
    refine r_callV (ci := 11) (As := [(0, v3)]) (st := []) (by decide) ok_X13_254 rfl rfl (Nat.le_of_ble_eq_true rfl) dX13_feed_31 h (fun r5 s6 hv h => ?_)
    refine r_aload_n dX13_feed_34 rfl rfl ?_
    refine r_iload dX13_feed_35 rfl ?_
    refine r_callV (ci := 11) (As := [(0, v4)]) (st := []) (by decide) ok_X13_254 rfl rfl (Nat.le_of_ble_eq_true rfl) dX13_feed_37 h (fun r7 s8 hv h => ?_)
    refine r_aload_n dX13_feed_40 rfl rfl ?_
    refine r_iload dX13_feed_41 rfl ?_
    refine r_callV (ci := 11) (As := [(0, v5)]) (st := []) (by decide) ok_X13_254 rfl rfl (Nat.le_of_ble_eq_true rfl) dX13_feed_43 h (fun r9 s10 hv h => ?_)
    refine r_aload_n dX13_feed_46 rfl rfl ?_
    refine gf_X13_13 rfl dX13_feed_47 ?_
    exact r_iret dX13_feed_50 rfl h
  · have h := h.2 hc
    refine r_aload_n dX13_feed_13 rfl rfl ?_
    refine r_iconst dX13_feed_14 (by decide) ?_
    refine r_callV (ci := 11) (As := [(0, 0)]) (st := []) (by decide) ok_X13_250 rfl rfl (Nat.le_of_ble_eq_true rfl) dX13_feed_15 h (fun r11 s12 hv h => ?_)
    exact r_iret dX13_feed_18 rfl h
abbrev P_X13_end_12 (g : GT) (e : Nat) (Q : Int → Sg → Prop) (s : Sg) : Prop := Wp g (e + 1) M_X13_end Q 12 [(21, 92), (9, 0)] [] s
set_option maxRecDepth 20000 in
theorem S_X13_end_12 {g : GT} {e : Nat} {Q : Int → Sg → Prop} {s : Sg} (h : (Mw g e M_X13_refuses [(21, 92), (0, 0)] s (fun r1 s2 => ((r1 < 0 → Q 0 s2) ∧ (¬ r1 < 0 → Q 1 s2))))) : P_X13_end_12 g e Q s := by
  refine r_aload_n dX13_end_12 rfl rfl ?_
  refine r_iconst dX13_end_13 (by decide) ?_
  refine r_callV (ci := 11) (As := [(0, 0)]) (st := []) (by decide) ok_X13_250 rfl rfl (Nat.le_of_ble_eq_true rfl) dX13_end_14 h (fun r1 s2 hv h => ?_)
  refine r_if_lt (tgt := 24) dX13_end_17 (by decide) (fun hc => ?_) (fun hc => ?_)
  · have h := h.1 hc
    refine r_iconst dX13_end_24 (by decide) ?_
    exact r_zret dX13_end_25 rfl (by decide) h
  · have h := h.2 hc
    refine r_iconst dX13_end_20 (by decide) ?_
    refine r_goto (tgt := 25) dX13_end_21 (by decide) ?_
    exact r_zret dX13_end_25 rfl (by decide) h
set_option maxRecDepth 20000 in
theorem S_X13_end {g : GT} {e : Nat} {Q : Int → Sg → Prop} {s : Sg} {v1 : Int} (h : inR v1 → ((v1 < 0 → P_X13_end_12 g e Q s) ∧ (¬ v1 < 0 → ((v1 ≤ (s 92 1) → (∀ s1, s1 = ups s 92 1 v1 → Q 1 s1)) ∧ (¬ v1 ≤ (s 92 1) → P_X13_end_12 g e Q s))))) : Mw g (e + 1) M_X13_end [(21, 92), (0, v1)] s Q := by
  refine Mw.of (ls := [(21, 92), (0, v1)]) pn_X13_end (Nat.le_of_ble_eq_true rfl) rfl (fun hv => ?_)
  have h := h (hv _ (List.Mem.tail _ (List.Mem.head _)))
  refine r_iload_n dX13_end_0 rfl ?_
  refine r_if_lt (tgt := 12) dX13_end_1 (by decide) (fun hc => ?_) (fun hc => ?_)
  · have h := h.1 hc
    exact r_fgt [true, false] rfl h
  · have h := h.2 hc
    refine r_iload_n dX13_end_4 rfl ?_
    refine r_aload_n dX13_end_5 rfl rfl ?_
    refine gf_X13_13 rfl dX13_end_6 ?_
    refine r_icmp_le (tgt := 26) dX13_end_9 (by decide) (fun hc => ?_) (fun hc => ?_)
    · have h := h.1 hc
      refine r_aload_n dX13_end_26 rfl rfl ?_
      refine r_iload_n dX13_end_27 rfl ?_
      refine pf_X13_13 rfl dX13_end_28 ?_
      have h := h _ rfl
      generalize hs_s1 : ups s 92 1 v1 = s1 at h ⊢
      refine r_iconst dX13_end_31 (by decide) ?_
      exact r_zret dX13_end_32 rfl (by decide) h
    · have h := h.2 hc
      exact r_fgt [true, false] rfl h
set_option maxRecDepth 20000 in
theorem S_X13_blame {g : GT} {e : Nat} {Q : Int → Sg → Prop} {s : Sg} {v1 : Int} {v2 : Int} (h : inR v1 → inR v2 → (((s 92 8) ≤ 0 → (∀ s1, s1 = ups s 92 8 v1 → (∀ s2, s2 = ups s1 92 9 v2 → Q 0 s2))) ∧ (¬ (s 92 8) ≤ 0 → Q 0 s))) : Mw g (e + 1) M_X13_blame [(21, 92), (0, v1), (0, v2)] s Q := by
  refine Mw.of (ls := [(21, 92), (0, v1), (0, v2)]) pn_X13_blame (Nat.le_of_ble_eq_true rfl) rfl (fun hv => ?_)
  have h := h (hv _ (List.Mem.tail _ (List.Mem.head _))) (hv _ (List.Mem.tail _ (List.Mem.tail _ (List.Mem.head _))))
  refine r_aload_n dX13_blame_0 rfl rfl ?_
  refine gf_X13_36 rfl dX13_blame_1 ?_
  refine r_if_le (tgt := 8) dX13_blame_4 (by decide) (fun hc => ?_) (fun hc => ?_)
  · have h := h.1 hc
    refine r_aload_n dX13_blame_8 rfl rfl ?_
    refine r_iload_n dX13_blame_9 rfl ?_
    refine pf_X13_36 rfl dX13_blame_10 ?_
    have h := h _ rfl
    generalize hs_s1 : ups s 92 8 v1 = s1 at h ⊢
    refine r_aload_n dX13_blame_13 rfl rfl ?_
    refine r_iload_n dX13_blame_14 rfl ?_
    refine pf_X13_39 rfl dX13_blame_15 ?_
    have h := h _ rfl
    generalize hs_s2 : ups s1 92 9 v2 = s2 at h ⊢
    exact r_ret dX13_blame_18 rfl h
  · have h := h.2 hc
    exact r_ret dX13_blame_7 rfl h
set_option maxRecDepth 20000 in
theorem S_X13_isLetter {g : GT} {e : Nat} {Q : Int → Sg → Prop} {s : Sg} {v0 : Int} (h : inR v0 → ((v0 < 97 → Q 0 s) ∧ (¬ v0 < 97 → ((122 < v0 → Q 0 s) ∧ (¬ 122 < v0 → Q 1 s))))) : Mw g (e + 1) M_X13_isLetter [(0, v0)] s Q := by
  refine Mw.of (ls := [(0, v0)]) pn_X13_isLetter (Nat.le_of_ble_eq_true rfl) rfl (fun hv => ?_)
  have h := h (hv _ (List.Mem.head _))
  refine r_iload_n dX13_isLetter_0 rfl ?_
  refine r_bipush dX13_isLetter_1 (by decide) rfl ?_
  refine r_icmp_lt (tgt := 16) dX13_isLetter_3 (by decide) (fun hc => ?_) (fun hc => ?_)
  · have h := h.1 hc
    refine r_iconst dX13_isLetter_16 (by decide) ?_
    exact r_zret dX13_isLetter_17 rfl (by decide) h
  · have h := h.2 hc
    refine r_iload_n dX13_isLetter_6 rfl ?_
    refine r_bipush dX13_isLetter_7 (by decide) rfl ?_
    refine r_icmp_gt (tgt := 16) dX13_isLetter_9 (by decide) (fun hc => ?_) (fun hc => ?_)
    · have h := h.1 hc
      refine r_iconst dX13_isLetter_16 (by decide) ?_
      exact r_zret dX13_isLetter_17 rfl (by decide) h
    · have h := h.2 hc
      refine r_iconst dX13_isLetter_12 (by decide) ?_
      refine r_goto (tgt := 17) dX13_isLetter_13 (by decide) ?_
      exact r_zret dX13_isLetter_17 rfl (by decide) h
set_option maxRecDepth 20000 in
theorem S_X13_isDigit {g : GT} {e : Nat} {Q : Int → Sg → Prop} {s : Sg} {v0 : Int} (h : inR v0 → ((v0 < 48 → Q 0 s) ∧ (¬ v0 < 48 → ((57 < v0 → Q 0 s) ∧ (¬ 57 < v0 → Q 1 s))))) : Mw g (e + 1) M_X13_isDigit [(0, v0)] s Q := by
  refine Mw.of (ls := [(0, v0)]) pn_X13_isDigit (Nat.le_of_ble_eq_true rfl) rfl (fun hv => ?_)
  have h := h (hv _ (List.Mem.head _))
  refine r_iload_n dX13_isDigit_0 rfl ?_
  refine r_bipush dX13_isDigit_1 (by decide) rfl ?_
  refine r_icmp_lt (tgt := 16) dX13_isDigit_3 (by decide) (fun hc => ?_) (fun hc => ?_)
  · have h := h.1 hc
    refine r_iconst dX13_isDigit_16 (by decide) ?_
    exact r_zret dX13_isDigit_17 rfl (by decide) h
  · have h := h.2 hc
    refine r_iload_n dX13_isDigit_6 rfl ?_
    refine r_bipush dX13_isDigit_7 (by decide) rfl ?_
    refine r_icmp_gt (tgt := 16) dX13_isDigit_9 (by decide) (fun hc => ?_) (fun hc => ?_)
    · have h := h.1 hc
      refine r_iconst dX13_isDigit_16 (by decide) ?_
      exact r_zret dX13_isDigit_17 rfl (by decide) h
    · have h := h.2 hc
      refine r_iconst dX13_isDigit_12 (by decide) ?_
      refine r_goto (tgt := 17) dX13_isDigit_13 (by decide) ?_
      exact r_zret dX13_isDigit_17 rfl (by decide) h
set_option maxRecDepth 20000 in
theorem S_X13_lex {g : GT} {e : Nat} {Q : Int → Sg → Prop} {s : Sg} (h : (((s 92 12) = (-1) → Q 0 s) ∧ (¬ (s 92 12) = (-1) → (Mw g e M_X13_blame [(21, 92), (0, 1), (0, (s 92 12))] s (fun _ s2 => Q 0 s2))))) : Mw g (e + 1) M_X13_lex [(21, 92)] s Q := by
  refine Mw.of (ls := [(21, 92)]) pn_X13_lex (Nat.le_of_ble_eq_true rfl) rfl (fun hv => ?_)
  refine r_aload_n dX13_lex_0 rfl rfl ?_
  refine gf_X13_48 rfl dX13_lex_1 ?_
  refine r_iconst dX13_lex_4 (by decide) ?_
  refine r_icmp_eq (tgt := 17) dX13_lex_5 (by decide) (fun hc => ?_) (fun hc => ?_)
  · have h := h.1 hc
    exact r_ret dX13_lex_17 rfl h
  · have h := h.2 hc
    refine r_aload_n dX13_lex_8 rfl rfl ?_
    refine r_iconst dX13_lex_9 (by decide) ?_
    refine r_aload_n dX13_lex_10 rfl rfl ?_
    refine gf_X13_48 rfl dX13_lex_11 ?_
    refine r_callV (ci := 11) (As := [(0, 1), (0, (s 92 12))]) (st := []) (by decide) ok_X13_257 rfl rfl (Nat.le_of_ble_eq_true rfl) dX13_lex_14 h (fun r1 s2 hv h => ?_)
    exact r_ret dX13_lex_17 rfl h
abbrev P_X13_ahead_5 (g : GT) (e : Nat) (Q : Int → Sg → Prop) (s : Sg) (v1 : Int) : Prop := Wp g (e + 1) M_X13_ahead Q 5 [(21, 92), (0, v1), (9, 0), (9, 0), (9, 0), (9, 0)] [] s
abbrev P_X13_ahead_41 (g : GT) (e : Nat) (Q : Int → Sg → Prop) (s : Sg) (v1 : Int) : Prop := Wp g (e + 1) M_X13_ahead Q 41 [(21, 92), (0, v1), (9, 0), (9, 0), (9, 0), (9, 0)] [] s
abbrev P_X13_ahead_98 (g : GT) (e : Nat) (Q : Int → Sg → Prop) (s : Sg) (v1 : Int) (v2 : Int) (v3 : Int) : Prop := Wp g (e + 1) M_X13_ahead Q 98 [(21, 92), (0, v1), (0, v2), (0, v3), (9, 0), (9, 0)] [] s
abbrev P_X13_ahead_130 (g : GT) (e : Nat) (Q : Int → Sg → Prop) (s : Sg) (v1 : Int) (v2 : Int) (v3 : Int) : Prop := Wp g (e + 1) M_X13_ahead Q 130 [(21, 92), (0, v1), (0, v2), (0, v3), (9, 0), (9, 0)] [] s
abbrev P_X13_ahead_135 (g : GT) (e : Nat) (Q : Int → Sg → Prop) (s : Sg) (v1 : Int) (v2 : Int) (v3 : Int) : Prop := Wp g (e + 1) M_X13_ahead Q 135 [(21, 92), (0, v1), (0, v2), (0, v3), (9, 0), (9, 0)] [] s
abbrev P_X13_ahead_176 (g : GT) (e : Nat) (Q : Int → Sg → Prop) (s : Sg) (v1 : Int) (v2 : Int) (v3 : Int) : Prop := Wp g (e + 1) M_X13_ahead Q 176 [(21, 92), (0, v1), (0, v2), (0, v3), (9, 0), (9, 0)] [] s
abbrev P_X13_ahead_186 (g : GT) (e : Nat) (Q : Int → Sg → Prop) (s : Sg) (v1 : Int) (v2 : Int) (v3 : Int) (x1 : Int) : Prop := Wp g (e + 1) M_X13_ahead Q 186 [(21, 92), (0, v1), (0, v2), (0, v3), (9, 0), (9, 0)] [(0, x1), (21, 92)] s
abbrev P_X13_ahead_204 (g : GT) (e : Nat) (Q : Int → Sg → Prop) (s : Sg) (v1 : Int) (v2 : Int) (v3 : Int) (v4 : Int) (v5 : Int) : Prop := Wp g (e + 1) M_X13_ahead Q 204 [(21, 92), (0, v1), (0, v2), (0, v3), (0, v4), (0, v5)] [] s
abbrev P_X13_ahead_243 (g : GT) (e : Nat) (Q : Int → Sg → Prop) (s : Sg) (v1 : Int) (v2 : Int) (v3 : Int) (v4 : Int) (v5 : Int) : Prop := Wp g (e + 1) M_X13_ahead Q 243 [(21, 92), (0, v1), (0, v2), (0, v3), (0, v4), (0, v5)] [] s
abbrev P_X13_ahead_263 (g : GT) (e : Nat) (Q : Int → Sg → Prop) (s : Sg) (v1 : Int) (v2 : Int) (v3 : Int) (v4 : Int) (v5 : Int) : Prop := Wp g (e + 1) M_X13_ahead Q 263 [(21, 92), (0, v1), (0, v2), (0, v3), (0, v4), (0, v5)] [] s
abbrev P_X13_ahead_293 (g : GT) (e : Nat) (Q : Int → Sg → Prop) (s : Sg) (v1 : Int) (v2 : Int) (v3 : Int) (v4 : Int) (v5 : Int) : Prop := Wp g (e + 1) M_X13_ahead Q 293 [(21, 92), (0, v1), (0, v2), (0, v3), (0, v4), (0, v5)] [] s
set_option maxRecDepth 20000 in
theorem S_X13_ahead_5 {g : GT} {e : Nat} {Q : Int → Sg → Prop} {s : Sg} {v1 : Int} (h : (((s 92 2) ≤ v1 → P_X13_ahead_41 g e Q s v1) ∧ (¬ (s 92 2) ≤ v1 → ((0 ≤ v1 ∧ v1 < 1800) ∧ (((s 93 v1) = 32 → P_X13_ahead_5 g e Q s (w32 (v1 + 1))) ∧ (¬ (s 93 v1) = 32 → ((0 ≤ v1 ∧ v1 < 1800) ∧ ((¬ (s 93 v1) = 10 → P_X13_ahead_41 g e Q s v1) ∧ ((s 93 v1) = 10 → P_X13_ahead_5 g e Q s (w32 (v1 + 1))))))))))) : P_X13_ahead_5 g e Q s v1 := by
  refine r_iload_n dX13_ahead_5 rfl ?_
  refine r_aload_n dX13_ahead_6 rfl rfl ?_
  refine gf_X13_17 rfl dX13_ahead_7 ?_
  refine r_icmp_ge (tgt := 41) dX13_ahead_10 (by decide) (fun hc => ?_) (fun hc => ?_)
  · have h := h.1 hc
    exact h
  · have h := h.2 hc
    refine r_aload_n dX13_ahead_13 rfl rfl ?_
    refine gf_X13_7 rfl dX13_ahead_14 ?_
    refine r_iload_n dX13_ahead_17 rfl ?_
    obtain ⟨hb, h⟩ := h
    refine r_iald (n := 1800) rfl (by decide) dX13_ahead_18 hb ?_
    refine r_bipush dX13_ahead_19 (by decide) rfl ?_
    refine r_icmp_eq (tgt := 35) dX13_ahead_21 (by decide) (fun hc => ?_) (fun hc => ?_)
    · have h := h.1 hc
      refine r_iinc (ls2 := [(21, 92), (0, (w32 (v1 + 1))), (9, 0), (9, 0), (9, 0), (9, 0)]) dX13_ahead_35 rfl (by decide) rfl ?_
      refine r_goto (tgt := 5) dX13_ahead_38 (by decide) ?_
      exact h
    · have h := h.2 hc
      refine r_aload_n dX13_ahead_24 rfl rfl ?_
      refine gf_X13_7 rfl dX13_ahead_25 ?_
      refine r_iload_n dX13_ahead_28 rfl ?_
      obtain ⟨hb, h⟩ := h
      refine r_iald (n := 1800) rfl (by decide) dX13_ahead_29 hb ?_
      refine r_bipush dX13_ahead_30 (by decide) rfl ?_
      refine r_icmp_ne (tgt := 41) dX13_ahead_32 (by decide) (fun hc => ?_) (fun hc => ?_)
      · have h := h.1 hc
        exact h
      · have h := h.2 hc
        refine r_iinc (ls2 := [(21, 92), (0, (w32 (v1 + 1))), (9, 0), (9, 0), (9, 0), (9, 0)]) dX13_ahead_35 rfl (by decide) rfl ?_
        refine r_goto (tgt := 5) dX13_ahead_38 (by decide) ?_
        exact h
set_option maxRecDepth 20000 in
theorem S_X13_ahead_41 {g : GT} {e : Nat} {Q : Int → Sg → Prop} {s : Sg} {v1 : Int} (h : (∀ s1, s1 = ups s 92 4 v1 → (∀ s2, s2 = ups s1 92 5 v1 → (∀ s3, s3 = ups s2 92 3 0 → (∀ s4, s4 = ups s3 92 12 (-1) → ((v1 < (s4 92 2) → ((0 ≤ v1 ∧ v1 < 1800) ∧ (Mw g e M_X13_isLetter [(0, (s4 93 v1))] s4 (fun r5 s6 => ((0 ≤ v1 ∧ v1 < 1800) ∧ (Mw g e M_X13_isDigit [(0, (s6 93 v1))] s6 (fun r7 s8 => ((¬ r5 = 0 → P_X13_ahead_98 g e Q s8 v1 r5 r7) ∧ (r5 = 0 → ((r7 = 0 → P_X13_ahead_135 g e Q s8 v1 r5 r7) ∧ (¬ r7 = 0 → P_X13_ahead_98 g e Q s8 v1 r5 r7))))))))))) ∧ (¬ v1 < (s4 92 2) → Q 0 s4))))))) : P_X13_ahead_41 g e Q s v1 := by
  refine r_aload_n dX13_ahead_41 rfl rfl ?_
  refine r_iload_n dX13_ahead_42 rfl ?_
  refine pf_X13_23 rfl dX13_ahead_43 ?_
  have h := h _ rfl
  generalize hs_s1 : ups s 92 4 v1 = s1 at h ⊢
  refine r_aload_n dX13_ahead_46 rfl rfl ?_
  refine r_iload_n dX13_ahead_47 rfl ?_
  refine pf_X13_26 rfl dX13_ahead_48 ?_
  have h := h _ rfl
  generalize hs_s2 : ups s1 92 5 v1 = s2 at h ⊢
  refine r_aload_n dX13_ahead_51 rfl rfl ?_
  refine r_iconst dX13_ahead_52 (by decide) ?_
  refine pf_X13_20 rfl dX13_ahead_53 ?_
  have h := h _ rfl
  generalize hs_s3 : ups s2 92 3 0 = s3 at h ⊢
  refine r_aload_n dX13_ahead_56 rfl rfl ?_
  refine r_iconst dX13_ahead_57 (by decide) ?_
  refine pf_X13_48 rfl dX13_ahead_58 ?_
  have h := h _ rfl
  generalize hs_s4 : ups s3 92 12 (-1) = s4 at h ⊢
  refine r_iload_n dX13_ahead_61 rfl ?_
  refine r_aload_n dX13_ahead_62 rfl rfl ?_
  refine gf_X13_17 rfl dX13_ahead_63 ?_
  refine r_icmp_lt (tgt := 70) dX13_ahead_66 (by decide) (fun hc => ?_) (fun hc => ?_)
  · have h := h.1 hc
    refine r_aload_n dX13_ahead_70 rfl rfl ?_
    refine gf_X13_7 rfl dX13_ahead_71 ?_
    refine r_iload_n dX13_ahead_74 rfl ?_
    obtain ⟨hb, h⟩ := h
    refine r_iald (n := 1800) rfl (by decide) dX13_ahead_75 hb ?_
    refine r_callS (As := [(0, (s4 93 v1))]) (st := []) ok_X13_261 rfl rfl (Nat.le_of_ble_eq_true rfl) dX13_ahead_76 h (fun r5 s6 hv h => ?_)
    refine r_istore_n (ls2 := [(21, 92), (0, v1), (0, r5), (9, 0), (9, 0), (9, 0)]) dX13_ahead_79 (by decide) rfl ?_
    refine r_aload_n dX13_ahead_80 rfl rfl ?_
    refine gf_X13_7 rfl dX13_ahead_81 ?_
    refine r_iload_n dX13_ahead_84 rfl ?_
    obtain ⟨hb, h⟩ := h
    refine r_iald (n := 1800) rfl (by decide) dX13_ahead_85 hb ?_
    refine r_callS (As := [(0, (s6 93 v1))]) (st := []) ok_X13_265 rfl rfl (Nat.le_of_ble_eq_true rfl) dX13_ahead_86 h (fun r7 s8 hv h => ?_)
    refine r_istore_n (ls2 := [(21, 92), (0, v1), (0, r5), (0, r7), (9, 0), (9, 0)]) dX13_ahead_89 (by decide) rfl ?_
    refine r_iload_n dX13_ahead_90 rfl ?_
    refine r_if_ne (tgt := 98) dX13_ahead_91 (by decide) (fun hc => ?_) (fun hc => ?_)
    · have h := h.1 hc
      exact h
    · have h := h.2 hc
      refine r_iload_n dX13_ahead_94 rfl ?_
      refine r_if_eq (tgt := 135) dX13_ahead_95 (by decide) (fun hc => ?_) (fun hc => ?_)
      · have h := h.1 hc
        exact h
      · have h := h.2 hc
        exact h
  · have h := h.2 hc
    exact r_ret dX13_ahead_69 rfl h
set_option maxRecDepth 20000 in
theorem S_X13_ahead_98 {g : GT} {e : Nat} {Q : Int → Sg → Prop} {s : Sg} {v1 : Int} {v2 : Int} {v3 : Int} (h : ((v1 ≤ 0 → P_X13_ahead_135 g e Q s v1 v2 v3) ∧ (¬ v1 ≤ 0 → ((0 ≤ (w32 (v1 - 1)) ∧ (w32 (v1 - 1)) < 1800) ∧ (Mw g e M_X13_isLetter [(0, (s 93 (w32 (v1 - 1))))] s (fun r1 s2 => ((¬ r1 = 0 → P_X13_ahead_130 g e Q s2 v1 v2 v3) ∧ (r1 = 0 → ((0 ≤ (w32 (v1 - 1)) ∧ (w32 (v1 - 1)) < 1800) ∧ (Mw g e M_X13_isDigit [(0, (s2 93 (w32 (v1 - 1))))] s2 (fun r3 s4 => ((r3 = 0 → P_X13_ahead_135 g e Q s4 v1 v2 v3) ∧ (¬ r3 = 0 → P_X13_ahead_130 g e Q s4 v1 v2 v3))))))))))))) : P_X13_ahead_98 g e Q s v1 v2 v3 := by
  refine r_iload_n dX13_ahead_98 rfl ?_
  refine r_if_le (tgt := 135) dX13_ahead_99 (by decide) (fun hc => ?_) (fun hc => ?_)
  · have h := h.1 hc
    exact h
  · have h := h.2 hc
    refine r_aload_n dX13_ahead_102 rfl rfl ?_
    refine gf_X13_7 rfl dX13_ahead_103 ?_
    refine r_iload_n dX13_ahead_106 rfl ?_
    refine r_iconst dX13_ahead_107 (by decide) ?_
    refine r_isub dX13_ahead_108 ?_
    obtain ⟨hb, h⟩ := h
    refine r_iald (n := 1800) rfl (by decide) dX13_ahead_109 hb ?_
    refine r_callS (As := [(0, (s 93 (w32 (v1 - 1))))]) (st := []) ok_X13_261 rfl rfl (Nat.le_of_ble_eq_true rfl) dX13_ahead_110 h (fun r1 s2 hv h => ?_)
    refine r_if_ne (tgt := 130) dX13_ahead_113 (by decide) (fun hc => ?_) (fun hc => ?_)
    · have h := h.1 hc
      exact h
    · have h := h.2 hc
      refine r_aload_n dX13_ahead_116 rfl rfl ?_
      refine gf_X13_7 rfl dX13_ahead_117 ?_
      refine r_iload_n dX13_ahead_120 rfl ?_
      refine r_iconst dX13_ahead_121 (by decide) ?_
      refine r_isub dX13_ahead_122 ?_
      obtain ⟨hb, h⟩ := h
      refine r_iald (n := 1800) rfl (by decide) dX13_ahead_123 hb ?_
      refine r_callS (As := [(0, (s2 93 (w32 (v1 - 1))))]) (st := []) ok_X13_265 rfl rfl (Nat.le_of_ble_eq_true rfl) dX13_ahead_124 h (fun r3 s4 hv h => ?_)
      refine r_if_eq (tgt := 135) dX13_ahead_127 (by decide) (fun hc => ?_) (fun hc => ?_)
      · have h := h.1 hc
        exact h
      · have h := h.2 hc
        exact h
set_option maxRecDepth 20000 in
theorem S_X13_ahead_130 {g : GT} {e : Nat} {Q : Int → Sg → Prop} {s : Sg} {v1 : Int} {v2 : Int} {v3 : Int} (h : (∀ s1, s1 = ups s 92 12 v1 → P_X13_ahead_135 g e Q s1 v1 v2 v3)) : P_X13_ahead_130 g e Q s v1 v2 v3 := by
  refine r_aload_n dX13_ahead_130 rfl rfl ?_
  refine r_iload_n dX13_ahead_131 rfl ?_
  refine pf_X13_48 rfl dX13_ahead_132 ?_
  have h := h _ rfl
  generalize hs_s1 : ups s 92 12 v1 = s1 at h ⊢
  exact h
set_option maxRecDepth 20000 in
theorem S_X13_ahead_135 {g : GT} {e : Nat} {Q : Int → Sg → Prop} {s : Sg} {v1 : Int} {v2 : Int} {v3 : Int} (h : (∀ s1, s1 = ups s 92 6 0 → (∀ s2, s2 = ups s1 92 7 0 → (∀ s3, s3 = ups s2 92 3 3 → (∀ s4, s4 = ups s3 92 5 (w32 (v1 + 1)) → ((¬ v2 = 0 → P_X13_ahead_176 g e Q s4 v1 v2 v3) ∧ (v2 = 0 → ((¬ v3 = 0 → P_X13_ahead_176 g e Q s4 v1 v2 v3) ∧ (v3 = 0 → ((0 ≤ v1 ∧ v1 < 1800) ∧ (∀ s5, s5 = ups s4 92 6 (s4 93 v1) → Q 0 s5))))))))))) : P_X13_ahead_135 g e Q s v1 v2 v3 := by
  refine r_aload_n dX13_ahead_135 rfl rfl ?_
  refine r_iconst dX13_ahead_136 (by decide) ?_
  refine pf_X13_29 rfl dX13_ahead_137 ?_
  have h := h _ rfl
  generalize hs_s1 : ups s 92 6 0 = s1 at h ⊢
  refine r_aload_n dX13_ahead_140 rfl rfl ?_
  refine r_lconst (v := 0) dX13_ahead_141 rfl (by decide) ?_
  refine pf_X13_32 rfl dX13_ahead_142 ?_
  have h := h _ rfl
  generalize hs_s2 : ups s1 92 7 0 = s2 at h ⊢
  refine r_aload_n dX13_ahead_145 rfl rfl ?_
  refine r_iconst dX13_ahead_146 (by decide) ?_
  refine pf_X13_20 rfl dX13_ahead_147 ?_
  have h := h _ rfl
  generalize hs_s3 : ups s2 92 3 3 = s3 at h ⊢
  refine r_aload_n dX13_ahead_150 rfl rfl ?_
  refine r_iload_n dX13_ahead_151 rfl ?_
  refine r_iconst dX13_ahead_152 (by decide) ?_
  refine r_iadd dX13_ahead_153 ?_
  refine pf_X13_26 rfl dX13_ahead_154 ?_
  have h := h _ rfl
  generalize hs_s4 : ups s3 92 5 (w32 (v1 + 1)) = s4 at h ⊢
  refine r_iload_n dX13_ahead_157 rfl ?_
  refine r_if_ne (tgt := 176) dX13_ahead_158 (by decide) (fun hc => ?_) (fun hc => ?_)
  · have h := h.1 hc
    exact h
  · have h := h.2 hc
    refine r_iload_n dX13_ahead_161 rfl ?_
    refine r_if_ne (tgt := 176) dX13_ahead_162 (by decide) (fun hc => ?_) (fun hc => ?_)
    · have h := h.1 hc
      exact h
    · have h := h.2 hc
      refine r_aload_n dX13_ahead_165 rfl rfl ?_
      refine r_aload_n dX13_ahead_166 rfl rfl ?_
      refine gf_X13_7 rfl dX13_ahead_167 ?_
      refine r_iload_n dX13_ahead_170 rfl ?_
      obtain ⟨hb, h⟩ := h
      refine r_iald (n := 1800) rfl (by decide) dX13_ahead_171 hb ?_
      refine pf_X13_29 rfl dX13_ahead_172 ?_
      have h := h _ rfl
      generalize hs_s5 : ups s4 92 6 (s4 93 v1) = s5 at h ⊢
      exact r_ret dX13_ahead_175 rfl h
set_option maxRecDepth 20000 in
theorem S_X13_ahead_176 {g : GT} {e : Nat} {Q : Int → Sg → Prop} {s : Sg} {v1 : Int} {v2 : Int} {v3 : Int} (h : ((v2 = 0 → P_X13_ahead_186 g e Q s v1 v2 v3 2) ∧ (¬ v2 = 0 → P_X13_ahead_186 g e Q s v1 v2 v3 1))) : P_X13_ahead_176 g e Q s v1 v2 v3 := by
  refine r_aload_n dX13_ahead_176 rfl rfl ?_
  refine r_iload_n dX13_ahead_177 rfl ?_
  refine r_if_eq (tgt := 185) dX13_ahead_178 (by decide) (fun hc => ?_) (fun hc => ?_)
  · have h := h.1 hc
    refine r_iconst dX13_ahead_185 (by decide) ?_
    exact h
  · have h := h.2 hc
    refine r_iconst dX13_ahead_181 (by decide) ?_
    refine r_goto (tgt := 186) dX13_ahead_182 (by decide) ?_
    exact h
set_option maxRecDepth 20000 in
theorem S_X13_ahead_186 {g : GT} {e : Nat} {Q : Int → Sg → Prop} {s : Sg} {v1 : Int} {v2 : Int} {v3 : Int} {x1 : Int} (h : (∀ s1, s1 = ups s 92 3 x1 → ((v2 = 0 → P_X13_ahead_204 g e Q s1 v1 v2 v3 4 0) ∧ (¬ v2 = 0 → P_X13_ahead_204 g e Q s1 v1 v2 v3 6 0)))) : P_X13_ahead_186 g e Q s v1 v2 v3 x1 := by
  refine pf_X13_20 rfl dX13_ahead_186 ?_
  have h := h _ rfl
  generalize hs_s1 : ups s 92 3 x1 = s1 at h ⊢
  refine r_iload_n dX13_ahead_189 rfl ?_
  refine r_if_eq (tgt := 198) dX13_ahead_190 (by decide) (fun hc => ?_) (fun hc => ?_)
  · have h := h.1 hc
    refine r_iconst dX13_ahead_198 (by decide) ?_
    refine r_istore (ls2 := [(21, 92), (0, v1), (0, v2), (0, v3), (0, 4), (9, 0)]) dX13_ahead_199 (by decide) rfl ?_
    refine r_iconst dX13_ahead_201 (by decide) ?_
    refine r_istore (ls2 := [(21, 92), (0, v1), (0, v2), (0, v3), (0, 4), (0, 0)]) dX13_ahead_202 (by decide) rfl ?_
    exact h
  · have h := h.2 hc
    refine r_bipush dX13_ahead_193 (by decide) rfl ?_
    refine r_goto (tgt := 199) dX13_ahead_195 (by decide) ?_
    refine r_istore (ls2 := [(21, 92), (0, v1), (0, v2), (0, v3), (0, 6), (9, 0)]) dX13_ahead_199 (by decide) rfl ?_
    refine r_iconst dX13_ahead_201 (by decide) ?_
    refine r_istore (ls2 := [(21, 92), (0, v1), (0, v2), (0, v3), (0, 6), (0, 0)]) dX13_ahead_202 (by decide) rfl ?_
    exact h
set_option maxRecDepth 20000 in
theorem S_X13_ahead_204 {g : GT} {e : Nat} {Q : Int → Sg → Prop} {s : Sg} {v1 : Int} {v2 : Int} {v3 : Int} {v4 : Int} {v5 : Int} (h : (((s 92 2) ≤ v1 → (∀ s1, s1 = ups s 92 5 v1 → Q 0 s1)) ∧ (¬ (s 92 2) ≤ v1 → ((v2 = 0 → ((0 ≤ v1 ∧ v1 < 1800) ∧ (Mw g e M_X13_isDigit [(0, (s 93 v1))] s (fun r2 s3 => ((r2 = 0 → (∀ s4, s4 = ups s3 92 5 v1 → Q 0 s4)) ∧ (¬ r2 = 0 → P_X13_ahead_243 g e Q s3 v1 v2 v3 v4 v5)))))) ∧ (¬ v2 = 0 → ((0 ≤ v1 ∧ v1 < 1800) ∧ (Mw g e M_X13_isLetter [(0, (s 93 v1))] s (fun r5 s6 => ((r5 = 0 → (∀ s7, s7 = ups s6 92 5 v1 → Q 0 s7)) ∧ (¬ r5 = 0 → P_X13_ahead_243 g e Q s6 v1 v2 v3 v4 v5)))))))))) : P_X13_ahead_204 g e Q s v1 v2 v3 v4 v5 := by
  refine r_iload_n dX13_ahead_204 rfl ?_
  refine r_aload_n dX13_ahead_205 rfl rfl ?_
  refine gf_X13_17 rfl dX13_ahead_206 ?_
  refine r_icmp_ge (tgt := 334) dX13_ahead_209 (by decide) (fun hc => ?_) (fun hc => ?_)
  · have h := h.1 hc
    refine r_aload_n dX13_ahead_334 rfl rfl ?_
    refine r_iload_n dX13_ahead_335 rfl ?_
    refine pf_X13_26 rfl dX13_ahead_336 ?_
    have h := h _ rfl
    generalize hs_s1 : ups s 92 5 v1 = s1 at h ⊢
    exact r_ret dX13_ahead_339 rfl h
  · have h := h.2 hc
    refine r_iload_n dX13_ahead_212 rfl ?_
    refine r_if_eq (tgt := 231) dX13_ahead_213 (by decide) (fun hc => ?_) (fun hc => ?_)
    · have h := h.1 hc
      refine r_aload_n dX13_ahead_231 rfl rfl ?_
      refine gf_X13_7 rfl dX13_ahead_232 ?_
      refine r_iload_n dX13_ahead_235 rfl ?_
      obtain ⟨hb, h⟩ := h
      refine r_iald (n := 1800) rfl (by decide) dX13_ahead_236 hb ?_
      refine r_callS (As := [(0, (s 93 v1))]) (st := []) ok_X13_265 rfl rfl (Nat.le_of_ble_eq_true rfl) dX13_ahead_237 h (fun r2 s3 hv h => ?_)
      refine r_if_eq (tgt := 334) dX13_ahead_240 (by decide) (fun hc => ?_) (fun hc => ?_)
      · have h := h.1 hc
        refine r_aload_n dX13_ahead_334 rfl rfl ?_
        refine r_iload_n dX13_ahead_335 rfl ?_
        refine pf_X13_26 rfl dX13_ahead_336 ?_
        have h := h _ rfl
        generalize hs_s4 : ups s3 92 5 v1 = s4 at h ⊢
        exact r_ret dX13_ahead_339 rfl h
      · have h := h.2 hc
        exact h
    · have h := h.2 hc
      refine r_aload_n dX13_ahead_216 rfl rfl ?_
      refine gf_X13_7 rfl dX13_ahead_217 ?_
      refine r_iload_n dX13_ahead_220 rfl ?_
      obtain ⟨hb, h⟩ := h
      refine r_iald (n := 1800) rfl (by decide) dX13_ahead_221 hb ?_
      refine r_callS (As := [(0, (s 93 v1))]) (st := []) ok_X13_261 rfl rfl (Nat.le_of_ble_eq_true rfl) dX13_ahead_222 h (fun r5 s6 hv h => ?_)
      refine r_if_eq (tgt := 334) dX13_ahead_225 (by decide) (fun hc => ?_) (fun hc => ?_)
      · have h := h.1 hc
        refine r_aload_n dX13_ahead_334 rfl rfl ?_
        refine r_iload_n dX13_ahead_335 rfl ?_
        refine pf_X13_26 rfl dX13_ahead_336 ?_
        have h := h _ rfl
        generalize hs_s7 : ups s6 92 5 v1 = s7 at h ⊢
        exact r_ret dX13_ahead_339 rfl h
      · have h := h.2 hc
        refine r_goto (tgt := 243) dX13_ahead_228 (by decide) ?_
        exact h
set_option maxRecDepth 20000 in
theorem S_X13_ahead_243 {g : GT} {e : Nat} {Q : Int → Sg → Prop} {s : Sg} {v1 : Int} {v2 : Int} {v3 : Int} {v4 : Int} {v5 : Int} (h : ((¬ v5 = v4 → P_X13_ahead_263 g e Q s v1 v2 v3 v4 v5) ∧ (v5 = v4 → ((¬ (s 92 12) = (-1) → P_X13_ahead_263 g e Q s v1 v2 v3 v4 v5) ∧ ((s 92 12) = (-1) → (∀ s1, s1 = ups s 92 12 v1 → P_X13_ahead_263 g e Q s1 v1 v2 v3 v4 v5)))))) : P_X13_ahead_243 g e Q s v1 v2 v3 v4 v5 := by
  refine r_iload dX13_ahead_243 rfl ?_
  refine r_iload dX13_ahead_245 rfl ?_
  refine r_icmp_ne (tgt := 263) dX13_ahead_247 (by decide) (fun hc => ?_) (fun hc => ?_)
  · have h := h.1 hc
    exact h
  · have h := h.2 hc
    refine r_aload_n dX13_ahead_250 rfl rfl ?_
    refine gf_X13_48 rfl dX13_ahead_251 ?_
    refine r_iconst dX13_ahead_254 (by decide) ?_
    refine r_icmp_ne (tgt := 263) dX13_ahead_255 (by decide) (fun hc => ?_) (fun hc => ?_)
    · have h := h.1 hc
      exact h
    · have h := h.2 hc
      refine r_aload_n dX13_ahead_258 rfl rfl ?_
      refine r_iload_n dX13_ahead_259 rfl ?_
      refine pf_X13_48 rfl dX13_ahead_260 ?_
      have h := h _ rfl
      generalize hs_s1 : ups s 92 12 v1 = s1 at h ⊢
      exact h
set_option maxRecDepth 20000 in
theorem S_X13_ahead_263 {g : GT} {e : Nat} {Q : Int → Sg → Prop} {s : Sg} {v1 : Int} {v2 : Int} {v3 : Int} {v4 : Int} {v5 : Int} (h : ((v4 ≤ v5 → P_X13_ahead_293 g e Q s v1 v2 v3 v4 v5) ∧ (¬ v4 ≤ v5 → ((v2 = 0 → P_X13_ahead_293 g e Q s v1 v2 v3 v4 v5) ∧ (¬ v2 = 0 → ((0 ≤ v1 ∧ v1 < 1800) ∧ (∀ s1, s1 = ups s 92 7 (lOr (lShl (s 92 7) 8) (s 93 v1)) → P_X13_ahead_293 g e Q s1 v1 v2 v3 v4 v5))))))) : P_X13_ahead_263 g e Q s v1 v2 v3 v4 v5 := by
  refine r_iload dX13_ahead_263 rfl ?_
  refine r_iload dX13_ahead_265 rfl ?_
  refine r_icmp_ge (tgt := 293) dX13_ahead_267 (by decide) (fun hc => ?_) (fun hc => ?_)
  · have h := h.1 hc
    exact h
  · have h := h.2 hc
    refine r_iload_n dX13_ahead_270 rfl ?_
    refine r_if_eq (tgt := 293) dX13_ahead_271 (by decide) (fun hc => ?_) (fun hc => ?_)
    · have h := h.1 hc
      exact h
    · have h := h.2 hc
      refine r_aload_n dX13_ahead_274 rfl rfl ?_
      refine r_aload_n dX13_ahead_275 rfl rfl ?_
      refine gf_X13_32 rfl dX13_ahead_276 ?_
      refine r_bipush dX13_ahead_279 (by decide) rfl ?_
      refine r_lshl dX13_ahead_281 ?_
      refine r_aload_n dX13_ahead_282 rfl rfl ?_
      refine gf_X13_7 rfl dX13_ahead_283 ?_
      refine r_iload_n dX13_ahead_286 rfl ?_
      obtain ⟨hb, h⟩ := h
      refine r_iald (n := 1800) rfl (by decide) dX13_ahead_287 hb ?_
      refine r_i2l dX13_ahead_288 ?_
      refine r_lor dX13_ahead_289 ?_
      refine pf_X13_32 rfl dX13_ahead_290 ?_
      have h := h _ rfl
      generalize hs_s1 : ups s 92 7 (lOr (lShl (s 92 7) 8) (s 93 v1)) = s1 at h ⊢
      exact h
set_option maxRecDepth 20000 in
theorem S_X13_ahead_293 {g : GT} {e : Nat} {Q : Int → Sg → Prop} {s : Sg} {v1 : Int} {v2 : Int} {v3 : Int} {v4 : Int} {v5 : Int} (h : ((v4 ≤ v5 → P_X13_ahead_204 g e Q s (w32 (v1 + 1)) v2 v3 v4 (w32 (v5 + 1))) ∧ (¬ v4 ≤ v5 → ((v3 = 0 → P_X13_ahead_204 g e Q s (w32 (v1 + 1)) v2 v3 v4 (w32 (v5 + 1))) ∧ (¬ v3 = 0 → ((0 ≤ v1 ∧ v1 < 1800) ∧ (∀ s1, s1 = ups s 92 6 (w32 ((w32 ((w32 (10 * (s 92 6))) + (s 93 v1))) - 48)) → P_X13_ahead_204 g e Q s1 (w32 (v1 + 1)) v2 v3 v4 (w32 (v5 + 1))))))))) : P_X13_ahead_293 g e Q s v1 v2 v3 v4 v5 := by
  refine r_iload dX13_ahead_293 rfl ?_
  refine r_iload dX13_ahead_295 rfl ?_
  refine r_icmp_ge (tgt := 325) dX13_ahead_297 (by decide) (fun hc => ?_) (fun hc => ?_)
  · have h := h.1 hc
    refine r_iinc (ls2 := [(21, 92), (0, v1), (0, v2), (0, v3), (0, v4), (0, (w32 (v5 + 1)))]) dX13_ahead_325 rfl (by decide) rfl ?_
    refine r_iinc (ls2 := [(21, 92), (0, (w32 (v1 + 1))), (0, v2), (0, v3), (0, v4), (0, (w32 (v5 + 1)))]) dX13_ahead_328 rfl (by decide) rfl ?_
    refine r_goto (tgt := 204) dX13_ahead_331 (by decide) ?_
    exact h
  · have h := h.2 hc
    refine r_iload_n dX13_ahead_300 rfl ?_
    refine r_if_eq (tgt := 325) dX13_ahead_301 (by decide) (fun hc => ?_) (fun hc => ?_)
    · have h := h.1 hc
      refine r_iinc (ls2 := [(21, 92), (0, v1), (0, v2), (0, v3), (0, v4), (0, (w32 (v5 + 1)))]) dX13_ahead_325 rfl (by decide) rfl ?_
      refine r_iinc (ls2 := [(21, 92), (0, (w32 (v1 + 1))), (0, v2), (0, v3), (0, v4), (0, (w32 (v5 + 1)))]) dX13_ahead_328 rfl (by decide) rfl ?_
      refine r_goto (tgt := 204) dX13_ahead_331 (by decide) ?_
      exact h
    · have h := h.2 hc
      refine r_aload_n dX13_ahead_304 rfl rfl ?_
      refine r_bipush dX13_ahead_305 (by decide) rfl ?_
      refine r_aload_n dX13_ahead_307 rfl rfl ?_
      refine gf_X13_29 rfl dX13_ahead_308 ?_
      refine r_imul dX13_ahead_311 ?_
      refine r_aload_n dX13_ahead_312 rfl rfl ?_
      refine gf_X13_7 rfl dX13_ahead_313 ?_
      refine r_iload_n dX13_ahead_316 rfl ?_
      obtain ⟨hb, h⟩ := h
      refine r_iald (n := 1800) rfl (by decide) dX13_ahead_317 hb ?_
      refine r_iadd dX13_ahead_318 ?_
      refine r_bipush dX13_ahead_319 (by decide) rfl ?_
      refine r_isub dX13_ahead_321 ?_
      refine pf_X13_29 rfl dX13_ahead_322 ?_
      have h := h _ rfl
      generalize hs_s1 : ups s 92 6 (w32 ((w32 ((w32 (10 * (s 92 6))) + (s 93 v1))) - 48)) = s1 at h ⊢
      refine r_iinc (ls2 := [(21, 92), (0, v1), (0, v2), (0, v3), (0, v4), (0, (w32 (v5 + 1)))]) dX13_ahead_325 rfl (by decide) rfl ?_
      refine r_iinc (ls2 := [(21, 92), (0, (w32 (v1 + 1))), (0, v2), (0, v3), (0, v4), (0, (w32 (v5 + 1)))]) dX13_ahead_328 rfl (by decide) rfl ?_
      refine r_goto (tgt := 204) dX13_ahead_331 (by decide) ?_
      exact h
set_option maxRecDepth 20000 in
theorem S_X13_ahead {g : GT} {e : Nat} {Q : Int → Sg → Prop} {s : Sg} (h : P_X13_ahead_5 g e Q s (s 92 5)) : Mw g (e + 1) M_X13_ahead [(21, 92)] s Q := by
  refine Mw.of (ls := [(21, 92), (9, 0), (9, 0), (9, 0), (9, 0), (9, 0)]) pn_X13_ahead (Nat.le_of_ble_eq_true rfl) rfl (fun hv => ?_)
  refine r_aload_n dX13_ahead_0 rfl rfl ?_
  refine gf_X13_26 rfl dX13_ahead_1 ?_
  refine r_istore_n (ls2 := [(21, 92), (0, (s 92 5)), (9, 0), (9, 0), (9, 0), (9, 0)]) dX13_ahead_4 (by decide) rfl ?_
  exact h
set_option maxRecDepth 20000 in
theorem S_X13_isSign {g : GT} {e : Nat} {Q : Int → Sg → Prop} {s : Sg} {v1 : Int} (h : inR v1 → ((¬ (s 92 3) = 3 → Q 0 s) ∧ ((s 92 3) = 3 → ((¬ (s 92 6) = v1 → Q 0 s) ∧ ((s 92 6) = v1 → Q 1 s))))) : Mw g (e + 1) M_X13_isSign [(21, 92), (0, v1)] s Q := by
  refine Mw.of (ls := [(21, 92), (0, v1)]) pn_X13_isSign (Nat.le_of_ble_eq_true rfl) rfl (fun hv => ?_)
  have h := h (hv _ (List.Mem.tail _ (List.Mem.head _)))
  refine r_aload_n dX13_isSign_0 rfl rfl ?_
  refine gf_X13_20 rfl dX13_isSign_1 ?_
  refine r_iconst dX13_isSign_4 (by decide) ?_
  refine r_icmp_ne (tgt := 20) dX13_isSign_5 (by decide) (fun hc => ?_) (fun hc => ?_)
  · have h := h.1 hc
    refine r_iconst dX13_isSign_20 (by decide) ?_
    exact r_zret dX13_isSign_21 rfl (by decide) h
  · have h := h.2 hc
    refine r_aload_n dX13_isSign_8 rfl rfl ?_
    refine gf_X13_29 rfl dX13_isSign_9 ?_
    refine r_iload_n dX13_isSign_12 rfl ?_
    refine r_icmp_ne (tgt := 20) dX13_isSign_13 (by decide) (fun hc => ?_) (fun hc => ?_)
    · have h := h.1 hc
      refine r_iconst dX13_isSign_20 (by decide) ?_
      exact r_zret dX13_isSign_21 rfl (by decide) h
    · have h := h.2 hc
      refine r_iconst dX13_isSign_16 (by decide) ?_
      refine r_goto (tgt := 21) dX13_isSign_17 (by decide) ?_
      exact r_zret dX13_isSign_21 rfl (by decide) h
set_option maxRecDepth 20000 in
theorem S_X13_isWord {g : GT} {e : Nat} {Q : Int → Sg → Prop} {s : Sg} {v1 : Int} (h : inL v1 → ((¬ (s 92 3) = 1 → Q 0 s) ∧ ((s 92 3) = 1 → ((¬ (lCmp (s 92 7) v1) = 0 → Q 0 s) ∧ ((lCmp (s 92 7) v1) = 0 → Q 1 s))))) : Mw g (e + 1) M_X13_isWord [(21, 92), (2, v1)] s Q := by
  refine Mw.of (ls := [(21, 92), (2, v1), (9, 0)]) pn_X13_isWord (Nat.le_of_ble_eq_true rfl) rfl (fun hv => ?_)
  have h := h (hv _ (List.Mem.tail _ (List.Mem.head _)))
  refine r_aload_n dX13_isWord_0 rfl rfl ?_
  refine gf_X13_20 rfl dX13_isWord_1 ?_
  refine r_iconst dX13_isWord_4 (by decide) ?_
  refine r_icmp_ne (tgt := 21) dX13_isWord_5 (by decide) (fun hc => ?_) (fun hc => ?_)
  · have h := h.1 hc
    refine r_iconst dX13_isWord_21 (by decide) ?_
    exact r_zret dX13_isWord_22 rfl (by decide) h
  · have h := h.2 hc
    refine r_aload_n dX13_isWord_8 rfl rfl ?_
    refine gf_X13_32 rfl dX13_isWord_9 ?_
    refine r_lload_n dX13_isWord_12 rfl ?_
    refine r_lcmp dX13_isWord_13 ?_
    refine r_if_ne (tgt := 21) dX13_isWord_14 (by decide) (fun hc => ?_) (fun hc => ?_)
    · have h := h.1 hc
      refine r_iconst dX13_isWord_21 (by decide) ?_
      exact r_zret dX13_isWord_22 rfl (by decide) h
    · have h := h.2 hc
      refine r_iconst dX13_isWord_17 (by decide) ?_
      refine r_goto (tgt := 22) dX13_isWord_18 (by decide) ?_
      exact r_zret dX13_isWord_22 rfl (by decide) h
abbrev P_X13_must_21 (g : GT) (e : Nat) (Q : Int → Sg → Prop) (s : Sg) : Prop := Wp g (e + 1) M_X13_must Q 21 [(21, 92), (9, 0)] [] s
set_option maxRecDepth 20000 in
theorem S_X13_must_21 {g : GT} {e : Nat} {Q : Int → Sg → Prop} {s : Sg} (h : ((¬ (s 92 8) = 0 → Q 0 s) ∧ ((s 92 8) = 0 → (Mw g e M_X13_ahead [(21, 92)] s (fun _ s2 => Q 0 s2))))) : P_X13_must_21 g e Q s := by
  refine r_aload_n dX13_must_21 rfl rfl ?_
  refine gf_X13_36 rfl dX13_must_22 ?_
  refine r_if_ne (tgt := 32) dX13_must_25 (by decide) (fun hc => ?_) (fun hc => ?_)
  · have h := h.1 hc
    exact r_ret dX13_must_32 rfl h
  · have h := h.2 hc
    refine r_aload_n dX13_must_28 rfl rfl ?_
    refine r_callV (ci := 11) (As := []) (st := []) (by decide) ok_X13_274 rfl rfl (Nat.le_of_ble_eq_true rfl) dX13_must_29 h (fun r1 s2 hv h => ?_)
    exact r_ret dX13_must_32 rfl h
set_option maxRecDepth 20000 in
theorem S_X13_must {g : GT} {e : Nat} {Q : Int → Sg → Prop} {s : Sg} {v1 : Int} (h : inR v1 → (Mw g e M_X13_lex [(21, 92)] s (fun _ s2 => (Mw g e M_X13_isSign [(21, 92), (0, v1)] s2 (fun r3 s4 => ((¬ r3 = 0 → P_X13_must_21 g e Q s4) ∧ (r3 = 0 → (Mw g e M_X13_blame [(21, 92), (0, 1), (0, (s4 92 4))] s4 (fun _ s6 => P_X13_must_21 g e Q s6))))))))) : Mw g (e + 1) M_X13_must [(21, 92), (0, v1)] s Q := by
  refine Mw.of (ls := [(21, 92), (0, v1)]) pn_X13_must (Nat.le_of_ble_eq_true rfl) rfl (fun hv => ?_)
  have h := h (hv _ (List.Mem.tail _ (List.Mem.head _)))
  refine r_aload_n dX13_must_0 rfl rfl ?_
  refine r_callV (ci := 11) (As := []) (st := []) (by decide) ok_X13_268 rfl rfl (Nat.le_of_ble_eq_true rfl) dX13_must_1 h (fun r1 s2 hv h => ?_)
  refine r_aload_n dX13_must_4 rfl rfl ?_
  refine r_iload_n dX13_must_5 rfl ?_
  refine r_callV (ci := 11) (As := [(0, v1)]) (st := []) (by decide) ok_X13_271 rfl rfl (Nat.le_of_ble_eq_true rfl) dX13_must_6 h (fun r3 s4 hv h => ?_)
  refine r_if_ne (tgt := 21) dX13_must_9 (by decide) (fun hc => ?_) (fun hc => ?_)
  · have h := h.1 hc
    exact r_fgt [true, false] rfl h
  · have h := h.2 hc
    refine r_aload_n dX13_must_12 rfl rfl ?_
    refine r_iconst dX13_must_13 (by decide) ?_
    refine r_aload_n dX13_must_14 rfl rfl ?_
    refine gf_X13_23 rfl dX13_must_15 ?_
    refine r_callV (ci := 11) (As := [(0, 1), (0, (s4 92 4))]) (st := []) (by decide) ok_X13_257 rfl rfl (Nat.le_of_ble_eq_true rfl) dX13_must_18 h (fun r5 s6 hv h => ?_)
    exact r_fgt [true, false] rfl h
set_option maxRecDepth 20000 in
theorem S_X13_isOwn {g : GT} {e : Nat} {Q : Int → Sg → Prop} {s : Sg} {v1 : Int} (h : inL v1 → (((lCmp v1 1752132965) = 0 → Q 1 s) ∧ (¬ (lCmp v1 1752132965) = 0 → (((lCmp v1 1952541803) = 0 → Q 1 s) ∧ (¬ (lCmp v1 1952541803) = 0 → (((lCmp v1 2002874989) = 0 → Q 1 s) ∧ (¬ (lCmp v1 2002874989) = 0 → (((lCmp v1 426953501796) = 0 → Q 1 s) ∧ (¬ (lCmp v1 426953501796) = 0 → ((¬ (lCmp v1 28518) = 0 → (((lCmp v1 1651470958) = 0 → Q 1 s) ∧ (¬ (lCmp v1 1651470958) = 0 → (((lCmp v1 500219604595) = 0 → Q 1 s) ∧ (¬ (lCmp v1 500219604595) = 0 → (((lCmp v1 1717925220) = 0 → Q 1 s) ∧ (¬ (lCmp v1 1717925220) = 0 → (((lCmp v1 2002873452) = 0 → Q 1 s) ∧ (¬ (lCmp v1 2002873452) = 0 → ((¬ (lCmp v1 2003395685) = 0 → (((lCmp v1 1751738216) = 0 → Q 1 s) ∧ (¬ (lCmp v1 1751738216) = 0 → (((lCmp v1 444015930995) = 0 → Q 1 s) ∧ (¬ (lCmp v1 444015930995) = 0 → (((lCmp v1 7168377) = 0 → Q 1 s) ∧ (¬ (lCmp v1 7168377) = 0 → (((lCmp v1 125762706564452) = 0 → Q 1 s) ∧ (¬ (lCmp v1 125762706564452) = 0 → ((¬ (lCmp v1 29807) = 0 → (((lCmp v1 131277443786867) = 0 → Q 1 s) ∧ (¬ (lCmp v1 131277443786867) = 0 → (((lCmp v1 440006570868) = 0 → Q 1 s) ∧ (¬ (lCmp v1 440006570868) = 0 → (((lCmp v1 422676030835) = 0 → Q 1 s) ∧ (¬ (lCmp v1 422676030835) = 0 → (((lCmp v1 6383461) = 0 → Q 1 s) ∧ (¬ (lCmp v1 6383461) = 0 → ((¬ (lCmp v1 126943973305959) = 0 → (((lCmp v1 2036687218) = 0 → Q 1 s) ∧ (¬ (lCmp v1 2036687218) = 0 → (((lCmp v1 109330362954597) = 0 → Q 1 s) ∧ (¬ (lCmp v1 109330362954597) = 0 → (((lCmp v1 1818584692) = 0 → Q 1 s) ∧ (¬ (lCmp v1 1818584692) = 0 → (((lCmp v1 504363246962) = 0 → Q 1 s) ∧ (¬ (lCmp v1 504363246962) = 0 → ((¬ (lCmp v1 26982) = 0 → (((lCmp v1 28530) = 0 → Q 1 s) ∧ (¬ (lCmp v1 28530) = 0 → (((lCmp v1 6385252) = 0 → Q 1 s) ∧ (¬ (lCmp v1 6385252) = 0 → (((lCmp v1 7237492) = 0 → Q 1 s) ∧ (¬ (lCmp v1 7237492) = 0 → (((lCmp v1 6384748) = 0 → Q 1 s) ∧ (¬ (lCmp v1 6384748) = 0 → ((¬ (lCmp v1 7170414) = 0 → ((¬ (lCmp v1 7168376) = 0 → Q 0 s) ∧ ((lCmp v1 7168376) = 0 → Q 1 s))) ∧ ((lCmp v1 7170414) = 0 → Q 1 s))))))))))) ∧ ((lCmp v1 26982) = 0 → Q 1 s))))))))))) ∧ ((lCmp v1 126943973305959) = 0 → Q 1 s))))))))))) ∧ ((lCmp v1 29807) = 0 → Q 1 s))))))))))) ∧ ((lCmp v1 2003395685) = 0 → Q 1 s))))))))))) ∧ ((lCmp v1 28518) = 0 → Q 1 s))))))))))) : Mw g (e + 1) M_X13_isOwn [(21, 92), (2, v1)] s Q := by
  refine Mw.of (ls := [(21, 92), (2, v1), (9, 0)]) pn_X13_isOwn (Nat.le_of_ble_eq_true rfl) rfl (fun hv => ?_)
  have h := h (hv _ (List.Mem.tail _ (List.Mem.head _)))
  refine r_lload_n dX13_isOwn_0 rfl ?_
  refine r_ldc2 (v := 1752132965) dX13_isOwn_1 lk_X13_277 (by decide) ?_
  refine r_lcmp dX13_isOwn_4 ?_
  refine r_if_eq (tgt := 40) dX13_isOwn_5 (by decide) (fun hc => ?_) (fun hc => ?_)
  · have h := h.1 hc
    refine r_iconst dX13_isOwn_40 (by decide) ?_
    exact r_zret dX13_isOwn_41 rfl (by decide) h
  · have h := h.2 hc
    refine r_lload_n dX13_isOwn_8 rfl ?_
    refine r_ldc2 (v := 1952541803) dX13_isOwn_9 lk_X13_279 (by decide) ?_
    refine r_lcmp dX13_isOwn_12 ?_
    refine r_if_eq (tgt := 40) dX13_isOwn_13 (by decide) (fun hc => ?_) (fun hc => ?_)
    · have h := h.1 hc
      refine r_iconst dX13_isOwn_40 (by decide) ?_
      exact r_zret dX13_isOwn_41 rfl (by decide) h
    · have h := h.2 hc
      refine r_lload_n dX13_isOwn_16 rfl ?_
      refine r_ldc2 (v := 2002874989) dX13_isOwn_17 lk_X13_281 (by decide) ?_
      refine r_lcmp dX13_isOwn_20 ?_
      refine r_if_eq (tgt := 40) dX13_isOwn_21 (by decide) (fun hc => ?_) (fun hc => ?_)
      · have h := h.1 hc
        refine r_iconst dX13_isOwn_40 (by decide) ?_
        exact r_zret dX13_isOwn_41 rfl (by decide) h
      · have h := h.2 hc
        refine r_lload_n dX13_isOwn_24 rfl ?_
        refine r_ldc2 (v := 426953501796) dX13_isOwn_25 lk_X13_283 (by decide) ?_
        refine r_lcmp dX13_isOwn_28 ?_
        refine r_if_eq (tgt := 40) dX13_isOwn_29 (by decide) (fun hc => ?_) (fun hc => ?_)
        · have h := h.1 hc
          refine r_iconst dX13_isOwn_40 (by decide) ?_
          exact r_zret dX13_isOwn_41 rfl (by decide) h
        · have h := h.2 hc
          refine r_lload_n dX13_isOwn_32 rfl ?_
          refine r_ldc2 (v := 28518) dX13_isOwn_33 lk_X13_285 (by decide) ?_
          refine r_lcmp dX13_isOwn_36 ?_
          refine r_if_ne (tgt := 42) dX13_isOwn_37 (by decide) (fun hc => ?_) (fun hc => ?_)
          · have h := h.1 hc
            refine r_lload_n dX13_isOwn_42 rfl ?_
            refine r_ldc2 (v := 1651470958) dX13_isOwn_43 lk_X13_287 (by decide) ?_
            refine r_lcmp dX13_isOwn_46 ?_
            refine r_if_eq (tgt := 82) dX13_isOwn_47 (by decide) (fun hc => ?_) (fun hc => ?_)
            · have h := h.1 hc
              refine r_iconst dX13_isOwn_82 (by decide) ?_
              exact r_zret dX13_isOwn_83 rfl (by decide) h
            · have h := h.2 hc
              refine r_lload_n dX13_isOwn_50 rfl ?_
              refine r_ldc2 (v := 500219604595) dX13_isOwn_51 lk_X13_289 (by decide) ?_
              refine r_lcmp dX13_isOwn_54 ?_
              refine r_if_eq (tgt := 82) dX13_isOwn_55 (by decide) (fun hc => ?_) (fun hc => ?_)
              · have h := h.1 hc
                refine r_iconst dX13_isOwn_82 (by decide) ?_
                exact r_zret dX13_isOwn_83 rfl (by decide) h
              · have h := h.2 hc
                refine r_lload_n dX13_isOwn_58 rfl ?_
                refine r_ldc2 (v := 1717925220) dX13_isOwn_59 lk_X13_291 (by decide) ?_
                refine r_lcmp dX13_isOwn_62 ?_
                refine r_if_eq (tgt := 82) dX13_isOwn_63 (by decide) (fun hc => ?_) (fun hc => ?_)
                · have h := h.1 hc
                  refine r_iconst dX13_isOwn_82 (by decide) ?_
                  exact r_zret dX13_isOwn_83 rfl (by decide) h
                · have h := h.2 hc
                  refine r_lload_n dX13_isOwn_66 rfl ?_
                  refine r_ldc2 (v := 2002873452) dX13_isOwn_67 lk_X13_293 (by decide) ?_
                  refine r_lcmp dX13_isOwn_70 ?_
                  refine r_if_eq (tgt := 82) dX13_isOwn_71 (by decide) (fun hc => ?_) (fun hc => ?_)
                  · have h := h.1 hc
                    refine r_iconst dX13_isOwn_82 (by decide) ?_
                    exact r_zret dX13_isOwn_83 rfl (by decide) h
                  · have h := h.2 hc
                    refine r_lload_n dX13_isOwn_74 rfl ?_
                    refine r_ldc2 (v := 2003395685) dX13_isOwn_75 lk_X13_295 (by decide) ?_
                    refine r_lcmp dX13_isOwn_78 ?_
                    refine r_if_ne (tgt := 84) dX13_isOwn_79 (by decide) (fun hc => ?_) (fun hc => ?_)
                    · have h := h.1 hc
                      refine r_lload_n dX13_isOwn_84 rfl ?_
                      refine r_ldc2 (v := 1751738216) dX13_isOwn_85 lk_X13_297 (by decide) ?_
                      refine r_lcmp dX13_isOwn_88 ?_
                      refine r_if_eq (tgt := 124) dX13_isOwn_89 (by decide) (fun hc => ?_) (fun hc => ?_)
                      · have h := h.1 hc
                        refine r_iconst dX13_isOwn_124 (by decide) ?_
                        exact r_zret dX13_isOwn_125 rfl (by decide) h
                      · have h := h.2 hc
                        refine r_lload_n dX13_isOwn_92 rfl ?_
                        refine r_ldc2 (v := 444015930995) dX13_isOwn_93 lk_X13_299 (by decide) ?_
                        refine r_lcmp dX13_isOwn_96 ?_
                        refine r_if_eq (tgt := 124) dX13_isOwn_97 (by decide) (fun hc => ?_) (fun hc => ?_)
                        · have h := h.1 hc
                          refine r_iconst dX13_isOwn_124 (by decide) ?_
                          exact r_zret dX13_isOwn_125 rfl (by decide) h
                        · have h := h.2 hc
                          refine r_lload_n dX13_isOwn_100 rfl ?_
                          refine r_ldc2 (v := 7168377) dX13_isOwn_101 lk_X13_301 (by decide) ?_
                          refine r_lcmp dX13_isOwn_104 ?_
                          refine r_if_eq (tgt := 124) dX13_isOwn_105 (by decide) (fun hc => ?_) (fun hc => ?_)
                          · have h := h.1 hc
                            refine r_iconst dX13_isOwn_124 (by decide) ?_
                            exact r_zret dX13_isOwn_125 rfl (by decide) h
                          · have h := h.2 hc
                            refine r_lload_n dX13_isOwn_108 rfl ?_
                            refine r_ldc2 (v := 125762706564452) dX13_isOwn_109 lk_X13_303 (by decide) ?_
                            refine r_lcmp dX13_isOwn_112 ?_
                            refine r_if_eq (tgt := 124) dX13_isOwn_113 (by decide) (fun hc => ?_) (fun hc => ?_)
                            · have h := h.1 hc
                              refine r_iconst dX13_isOwn_124 (by decide) ?_
                              exact r_zret dX13_isOwn_125 rfl (by decide) h
                            · have h := h.2 hc
                              refine r_lload_n dX13_isOwn_116 rfl ?_
                              refine r_ldc2 (v := 29807) dX13_isOwn_117 lk_X13_305 (by decide) ?_
                              refine r_lcmp dX13_isOwn_120 ?_
                              refine r_if_ne (tgt := 126) dX13_isOwn_121 (by decide) (fun hc => ?_) (fun hc => ?_)
                              · have h := h.1 hc
                                refine r_lload_n dX13_isOwn_126 rfl ?_
                                refine r_ldc2 (v := 131277443786867) dX13_isOwn_127 lk_X13_307 (by decide) ?_
                                refine r_lcmp dX13_isOwn_130 ?_
                                refine r_if_eq (tgt := 166) dX13_isOwn_131 (by decide) (fun hc => ?_) (fun hc => ?_)
                                · have h := h.1 hc
                                  refine r_iconst dX13_isOwn_166 (by decide) ?_
                                  exact r_zret dX13_isOwn_167 rfl (by decide) h
                                · have h := h.2 hc
                                  refine r_lload_n dX13_isOwn_134 rfl ?_
                                  refine r_ldc2 (v := 440006570868) dX13_isOwn_135 lk_X13_309 (by decide) ?_
                                  refine r_lcmp dX13_isOwn_138 ?_
                                  refine r_if_eq (tgt := 166) dX13_isOwn_139 (by decide) (fun hc => ?_) (fun hc => ?_)
                                  · have h := h.1 hc
                                    refine r_iconst dX13_isOwn_166 (by decide) ?_
                                    exact r_zret dX13_isOwn_167 rfl (by decide) h
                                  · have h := h.2 hc
                                    refine r_lload_n dX13_isOwn_142 rfl ?_
                                    refine r_ldc2 (v := 422676030835) dX13_isOwn_143 lk_X13_311 (by decide) ?_
                                    refine r_lcmp dX13_isOwn_146 ?_
                                    refine r_if_eq (tgt := 166) dX13_isOwn_147 (by decide) (fun hc => ?_) (fun hc => ?_)
                                    · have h := h.1 hc
                                      refine r_iconst dX13_isOwn_166 (by decide) ?_
                                      exact r_zret dX13_isOwn_167 rfl (by decide) h
                                    · have h := h.2 hc
                                      refine r_lload_n dX13_isOwn_150 rfl ?_
                                      refine r_ldc2 (v := 6383461) dX13_isOwn_151 lk_X13_313 (by decide) ?_
                                      refine r_lcmp dX13_isOwn_154 ?_
                                      refine r_if_eq (tgt := 166) dX13_isOwn_155 (by decide) (fun hc => ?_) (fun hc => ?_)
                                      · have h := h.1 hc
                                        refine r_iconst dX13_isOwn_166 (by decide) ?_
                                        exact r_zret dX13_isOwn_167 rfl (by decide) h
                                      · have h := h.2 hc
                                        refine r_lload_n dX13_isOwn_158 rfl ?_
                                        refine r_ldc2 (v := 126943973305959) dX13_isOwn_159 lk_X13_315 (by decide) ?_
                                        refine r_lcmp dX13_isOwn_162 ?_
                                        refine r_if_ne (tgt := 168) dX13_isOwn_163 (by decide) (fun hc => ?_) (fun hc => ?_)
                                        · have h := h.1 hc
                                          refine r_lload_n dX13_isOwn_168 rfl ?_
                                          refine r_ldc2 (v := 2036687218) dX13_isOwn_169 lk_X13_317 (by decide) ?_
                                          refine r_lcmp dX13_isOwn_172 ?_
                                          refine r_if_eq (tgt := 208) dX13_isOwn_173 (by decide) (fun hc => ?_) (fun hc => ?_)
                                          · have h := h.1 hc
                                            refine r_iconst dX13_isOwn_208 (by decide) ?_
                                            exact r_zret dX13_isOwn_209 rfl (by decide) h
                                          · have h := h.2 hc
                                            refine r_lload_n dX13_isOwn_176 rfl ?_
                                            refine r_ldc2 (v := 109330362954597) dX13_isOwn_177 lk_X13_319 (by decide) ?_
                                            refine r_lcmp dX13_isOwn_180 ?_
                                            refine r_if_eq (tgt := 208) dX13_isOwn_181 (by decide) (fun hc => ?_) (fun hc => ?_)
                                            · have h := h.1 hc
                                              refine r_iconst dX13_isOwn_208 (by decide) ?_
                                              exact r_zret dX13_isOwn_209 rfl (by decide) h
                                            · have h := h.2 hc
                                              refine r_lload_n dX13_isOwn_184 rfl ?_
                                              refine r_ldc2 (v := 1818584692) dX13_isOwn_185 lk_X13_321 (by decide) ?_
                                              refine r_lcmp dX13_isOwn_188 ?_
                                              refine r_if_eq (tgt := 208) dX13_isOwn_189 (by decide) (fun hc => ?_) (fun hc => ?_)
                                              · have h := h.1 hc
                                                refine r_iconst dX13_isOwn_208 (by decide) ?_
                                                exact r_zret dX13_isOwn_209 rfl (by decide) h
                                              · have h := h.2 hc
                                                refine r_lload_n dX13_isOwn_192 rfl ?_
                                                refine r_ldc2 (v := 504363246962) dX13_isOwn_193 lk_X13_323 (by decide) ?_
                                                refine r_lcmp dX13_isOwn_196 ?_
                                                refine r_if_eq (tgt := 208) dX13_isOwn_197 (by decide) (fun hc => ?_) (fun hc => ?_)
                                                · have h := h.1 hc
                                                  refine r_iconst dX13_isOwn_208 (by decide) ?_
                                                  exact r_zret dX13_isOwn_209 rfl (by decide) h
                                                · have h := h.2 hc
                                                  refine r_lload_n dX13_isOwn_200 rfl ?_
                                                  refine r_ldc2 (v := 26982) dX13_isOwn_201 lk_X13_325 (by decide) ?_
                                                  refine r_lcmp dX13_isOwn_204 ?_
                                                  refine r_if_ne (tgt := 210) dX13_isOwn_205 (by decide) (fun hc => ?_) (fun hc => ?_)
                                                  · have h := h.1 hc
                                                    refine r_lload_n dX13_isOwn_210 rfl ?_
                                                    refine r_ldc2 (v := 28530) dX13_isOwn_211 lk_X13_327 (by decide) ?_
                                                    refine r_lcmp dX13_isOwn_214 ?_
                                                    refine r_if_eq (tgt := 250) dX13_isOwn_215 (by decide) (fun hc => ?_) (fun hc => ?_)
                                                    · have h := h.1 hc
                                                      refine r_iconst dX13_isOwn_250 (by decide) ?_
                                                      exact r_zret dX13_isOwn_251 rfl (by decide) h
                                                    · have h := h.2 hc
                                                      refine r_lload_n dX13_isOwn_218 rfl ?_
                                                      refine r_ldc2 (v := 6385252) dX13_isOwn_219 lk_X13_329 (by decide) ?_
                                                      refine r_lcmp dX13_isOwn_222 ?_
                                                      refine r_if_eq (tgt := 250) dX13_isOwn_223 (by decide) (fun hc => ?_) (fun hc => ?_)
                                                      · have h := h.1 hc
                                                        refine r_iconst dX13_isOwn_250 (by decide) ?_
                                                        exact r_zret dX13_isOwn_251 rfl (by decide) h
                                                      · have h := h.2 hc
                                                        refine r_lload_n dX13_isOwn_226 rfl ?_
                                                        refine r_ldc2 (v := 7237492) dX13_isOwn_227 lk_X13_331 (by decide) ?_
                                                        refine r_lcmp dX13_isOwn_230 ?_
                                                        refine r_if_eq (tgt := 250) dX13_isOwn_231 (by decide) (fun hc => ?_) (fun hc => ?_)
                                                        · have h := h.1 hc
                                                          refine r_iconst dX13_isOwn_250 (by decide) ?_
                                                          exact r_zret dX13_isOwn_251 rfl (by decide) h
                                                        · have h := h.2 hc
                                                          refine r_lload_n dX13_isOwn_234 rfl ?_
                                                          refine r_ldc2 (v := 6384748) dX13_isOwn_235 lk_X13_333 (by decide) ?_
                                                          refine r_lcmp dX13_isOwn_238 ?_
                                                          refine r_if_eq (tgt := 250) dX13_isOwn_239 (by decide) (fun hc => ?_) (fun hc => ?_)
                                                          · have h := h.1 hc
                                                            refine r_iconst dX13_isOwn_250 (by decide) ?_
                                                            exact r_zret dX13_isOwn_251 rfl (by decide) h
                                                          · have h := h.2 hc
                                                            refine r_lload_n dX13_isOwn_242 rfl ?_
                                                            refine r_ldc2 (v := 7170414) dX13_isOwn_243 lk_X13_335 (by decide) ?_
                                                            refine r_lcmp dX13_isOwn_246 ?_
                                                            refine r_if_ne (tgt := 252) dX13_isOwn_247 (by decide) (fun hc => ?_) (fun hc => ?_)
                                                            · have h := h.1 hc
                                                              refine r_lload_n dX13_isOwn_252 rfl ?_
                                                              refine r_ldc2 (v := 7168376) dX13_isOwn_253 lk_X13_337 (by decide) ?_
                                                              refine r_lcmp dX13_isOwn_256 ?_
                                                              refine r_if_ne (tgt := 262) dX13_isOwn_257 (by decide) (fun hc => ?_) (fun hc => ?_)
                                                              · have h := h.1 hc
                                                                refine r_iconst dX13_isOwn_262 (by decide) ?_
                                                                exact r_zret dX13_isOwn_263 rfl (by decide) h
                                                              · have h := h.2 hc
                                                                refine r_iconst dX13_isOwn_260 (by decide) ?_
                                                                exact r_zret dX13_isOwn_261 rfl (by decide) h
                                                            · have h := h.2 hc
                                                              refine r_iconst dX13_isOwn_250 (by decide) ?_
                                                              exact r_zret dX13_isOwn_251 rfl (by decide) h
                                                  · have h := h.2 hc
                                                    refine r_iconst dX13_isOwn_208 (by decide) ?_
                                                    exact r_zret dX13_isOwn_209 rfl (by decide) h
                                        · have h := h.2 hc
                                          refine r_iconst dX13_isOwn_166 (by decide) ?_
                                          exact r_zret dX13_isOwn_167 rfl (by decide) h
                              · have h := h.2 hc
                                refine r_iconst dX13_isOwn_124 (by decide) ?_
                                exact r_zret dX13_isOwn_125 rfl (by decide) h
                    · have h := h.2 hc
                      refine r_iconst dX13_isOwn_82 (by decide) ?_
                      exact r_zret dX13_isOwn_83 rfl (by decide) h
          · have h := h.2 hc
            refine r_iconst dX13_isOwn_40 (by decide) ?_
            exact r_zret dX13_isOwn_41 rfl (by decide) h
set_option maxRecDepth 20000 in
theorem S_X13_toldOf {g : GT} {e : Nat} {Q : Int → Sg → Prop} {s : Sg} {v1 : Int} (h : inR v1 → ((0 ≤ (w32 ((w32 (5 * (s 92 13))) + v1)) ∧ (w32 ((w32 (5 * (s 92 13))) + v1)) < 10) ∧ Q (s 107 (w32 ((w32 (5 * (s 92 13))) + v1))) s)) : Mw g (e + 1) M_X13_toldOf [(21, 92), (0, v1)] s Q := by
  refine Mw.of (ls := [(21, 92), (0, v1)]) pn_X13_toldOf (Nat.le_of_ble_eq_true rfl) rfl (fun hv => ?_)
  have h := h (hv _ (List.Mem.tail _ (List.Mem.head _)))
  refine r_aload_n dX13_toldOf_0 rfl rfl ?_
  refine gf_X13_93 rfl dX13_toldOf_1 ?_
  refine r_iconst dX13_toldOf_4 (by decide) ?_
  refine r_aload_n dX13_toldOf_5 rfl rfl ?_
  refine gf_X13_51 rfl dX13_toldOf_6 ?_
  refine r_imul dX13_toldOf_9 ?_
  refine r_iload_n dX13_toldOf_10 rfl ?_
  refine r_iadd dX13_toldOf_11 ?_
  obtain ⟨hb, h⟩ := h
  refine r_iald (n := 10) rfl (by decide) dX13_toldOf_12 hb ?_
  exact r_iret dX13_toldOf_13 rfl h
set_option maxRecDepth 20000 in
theorem S_X13_manyOf {g : GT} {e : Nat} {Q : Int → Sg → Prop} {s : Sg} {v1 : Int} {v2 : Int} (h : inR v1 → inR v2 → ((¬ v2 = 0 → ((¬ v2 = 1 → ((0 ≤ v1 ∧ v1 < 2) ∧ Q (s 104 v1) s)) ∧ (v2 = 1 → ((0 ≤ v1 ∧ v1 < 2) ∧ Q (s 97 v1) s)))) ∧ (v2 = 0 → ((0 ≤ v1 ∧ v1 < 2) ∧ Q (s 94 v1) s)))) : Mw g (e + 1) M_X13_manyOf [(21, 92), (0, v1), (0, v2)] s Q := by
  refine Mw.of (ls := [(21, 92), (0, v1), (0, v2)]) pn_X13_manyOf (Nat.le_of_ble_eq_true rfl) rfl (fun hv => ?_)
  have h := h (hv _ (List.Mem.tail _ (List.Mem.head _))) (hv _ (List.Mem.tail _ (List.Mem.tail _ (List.Mem.head _))))
  refine r_iload_n dX13_manyOf_0 rfl ?_
  refine r_if_ne (tgt := 13) dX13_manyOf_1 (by decide) (fun hc => ?_) (fun hc => ?_)
  · have h := h.1 hc
    refine r_iload_n dX13_manyOf_13 rfl ?_
    refine r_iconst dX13_manyOf_14 (by decide) ?_
    refine r_icmp_ne (tgt := 27) dX13_manyOf_15 (by decide) (fun hc => ?_) (fun hc => ?_)
    · have h := h.1 hc
      refine r_aload_n dX13_manyOf_27 rfl rfl ?_
      refine gf_X13_84 rfl dX13_manyOf_28 ?_
      refine r_iload_n dX13_manyOf_31 rfl ?_
      obtain ⟨hb, h⟩ := h
      refine r_iald (n := 2) rfl (by decide) dX13_manyOf_32 hb ?_
      exact r_iret dX13_manyOf_33 rfl h
    · have h := h.2 hc
      refine r_aload_n dX13_manyOf_18 rfl rfl ?_
      refine gf_X13_63 rfl dX13_manyOf_19 ?_
      refine r_iload_n dX13_manyOf_22 rfl ?_
      obtain ⟨hb, h⟩ := h
      refine r_iald (n := 2) rfl (by decide) dX13_manyOf_23 hb ?_
      refine r_goto (tgt := 33) dX13_manyOf_24 (by decide) ?_
      exact r_iret dX13_manyOf_33 rfl h
  · have h := h.2 hc
    refine r_aload_n dX13_manyOf_4 rfl rfl ?_
    refine gf_X13_54 rfl dX13_manyOf_5 ?_
    refine r_iload_n dX13_manyOf_8 rfl ?_
    obtain ⟨hb, h⟩ := h
    refine r_iald (n := 2) rfl (by decide) dX13_manyOf_9 hb ?_
    refine r_goto (tgt := 33) dX13_manyOf_10 (by decide) ?_
    exact r_iret dX13_manyOf_33 rfl h
set_option maxRecDepth 20000 in
theorem S_X13_nameOf {g : GT} {e : Nat} {Q : Int → Sg → Prop} {s : Sg} {v1 : Int} {v2 : Int} {v3 : Int} (h : inR v1 → inR v2 → inR v3 → ((¬ v2 = 0 → ((¬ v2 = 1 → ((0 ≤ (w32 ((w32 (4 * v1)) + v3)) ∧ (w32 ((w32 (4 * v1)) + v3)) < 8) ∧ Q (s 114 (w32 ((w32 (4 * v1)) + v3))) s)) ∧ (v2 = 1 → ((0 ≤ (w32 ((w32 (8 * v1)) + v3)) ∧ (w32 ((w32 (8 * v1)) + v3)) < 16) ∧ Q (s 113 (w32 ((w32 (8 * v1)) + v3))) s)))) ∧ (v2 = 0 → ((0 ≤ (w32 ((w32 (6 * v1)) + v3)) ∧ (w32 ((w32 (6 * v1)) + v3)) < 12) ∧ Q (s 112 (w32 ((w32 (6 * v1)) + v3))) s)))) : Mw g (e + 1) M_X13_nameOf [(21, 92), (0, v1), (0, v2), (0, v3)] s Q := by
  refine Mw.of (ls := [(21, 92), (0, v1), (0, v2), (0, v3)]) pn_X13_nameOf (Nat.le_of_ble_eq_true rfl) rfl (fun hv => ?_)
  have h := h (hv _ (List.Mem.tail _ (List.Mem.head _))) (hv _ (List.Mem.tail _ (List.Mem.tail _ (List.Mem.head _)))) (hv _ (List.Mem.tail _ (List.Mem.tail _ (List.Mem.tail _ (List.Mem.head _)))))
  refine r_iload_n dX13_nameOf_0 rfl ?_
  refine r_if_ne (tgt := 18) dX13_nameOf_1 (by decide) (fun hc => ?_) (fun hc => ?_)
  · have h := h.1 hc
    refine r_iload_n dX13_nameOf_18 rfl ?_
    refine r_iconst dX13_nameOf_19 (by decide) ?_
    refine r_icmp_ne (tgt := 37) dX13_nameOf_20 (by decide) (fun hc => ?_) (fun hc => ?_)
    · have h := h.1 hc
      refine r_aload_n dX13_nameOf_37 rfl rfl ?_
      refine gf_X13_115 rfl dX13_nameOf_38 ?_
      refine r_iconst dX13_nameOf_41 (by decide) ?_
      refine r_iload_n dX13_nameOf_42 rfl ?_
      refine r_imul dX13_nameOf_43 ?_
      refine r_iload_n dX13_nameOf_44 rfl ?_
      refine r_iadd dX13_nameOf_45 ?_
      obtain ⟨hb, h⟩ := h
      refine r_lald (n := 8) rfl (by decide) dX13_nameOf_46 hb ?_
      exact r_lret dX13_nameOf_47 rfl h
    · have h := h.2 hc
      refine r_aload_n dX13_nameOf_23 rfl rfl ?_
      refine gf_X13_112 rfl dX13_nameOf_24 ?_
      refine r_bipush dX13_nameOf_27 (by decide) rfl ?_
      refine r_iload_n dX13_nameOf_29 rfl ?_
      refine r_imul dX13_nameOf_30 ?_
      refine r_iload_n dX13_nameOf_31 rfl ?_
      refine r_iadd dX13_nameOf_32 ?_
      obtain ⟨hb, h⟩ := h
      refine r_lald (n := 16) rfl (by decide) dX13_nameOf_33 hb ?_
      refine r_goto (tgt := 47) dX13_nameOf_34 (by decide) ?_
      exact r_lret dX13_nameOf_47 rfl h
  · have h := h.2 hc
    refine r_aload_n dX13_nameOf_4 rfl rfl ?_
    refine gf_X13_108 rfl dX13_nameOf_5 ?_
    refine r_bipush dX13_nameOf_8 (by decide) rfl ?_
    refine r_iload_n dX13_nameOf_10 rfl ?_
    refine r_imul dX13_nameOf_11 ?_
    refine r_iload_n dX13_nameOf_12 rfl ?_
    refine r_iadd dX13_nameOf_13 ?_
    obtain ⟨hb, h⟩ := h
    refine r_lald (n := 12) rfl (by decide) dX13_nameOf_14 hb ?_
    refine r_goto (tgt := 47) dX13_nameOf_15 (by decide) ?_
    exact r_lret dX13_nameOf_47 rfl h
abbrev P_X13_named_3 (g : GT) (e : Nat) (Q : Int → Sg → Prop) (s : Sg) (v1 : Int) (v2 : Int) (v4 : Int) : Prop := Wp g (e + 1) M_X13_named Q 3 [(21, 92), (0, v1), (2, v2), (9, 0), (0, v4)] [] s
set_option maxRecDepth 20000 in
theorem S_X13_named_3 {g : GT} {e : Nat} {Q : Int → Sg → Prop} {s : Sg} {v1 : Int} {v2 : Int} {v4 : Int} (h : (Mw g e M_X13_manyOf [(21, 92), (0, (s 92 36)), (0, v1)] s (fun r1 s2 => ((r1 ≤ v4 → Q (-1) s2) ∧ (¬ r1 ≤ v4 → (Mw g e M_X13_nameOf [(21, 92), (0, (s2 92 36)), (0, v1), (0, v4)] s2 (fun r3 s4 => ((¬ (lCmp r3 v2) = 0 → P_X13_named_3 g e Q s4 v1 v2 (w32 (v4 + 1))) ∧ ((lCmp r3 v2) = 0 → Q v4 s4))))))))) : P_X13_named_3 g e Q s v1 v2 v4 := by
  refine r_iload dX13_named_3 rfl ?_
  refine r_aload_n dX13_named_5 rfl rfl ?_
  refine r_aload_n dX13_named_6 rfl rfl ?_
  refine gf_X13_121 rfl dX13_named_7 ?_
  refine r_iload_n dX13_named_10 rfl ?_
  refine r_callV (ci := 11) (As := [(0, (s 92 36)), (0, v1)]) (st := [(0, v4)]) (by decide) ok_X13_339 rfl rfl (Nat.le_of_ble_eq_true rfl) dX13_named_11 h (fun r1 s2 hv h => ?_)
  refine r_icmp_ge (tgt := 42) dX13_named_14 (by decide) (fun hc => ?_) (fun hc => ?_)
  · have h := h.1 hc
    refine r_iconst dX13_named_42 (by decide) ?_
    exact r_iret dX13_named_43 rfl h
  · have h := h.2 hc
    refine r_aload_n dX13_named_17 rfl rfl ?_
    refine r_aload_n dX13_named_18 rfl rfl ?_
    refine gf_X13_121 rfl dX13_named_19 ?_
    refine r_iload_n dX13_named_22 rfl ?_
    refine r_iload dX13_named_23 rfl ?_
    refine r_callV (ci := 11) (As := [(0, (s2 92 36)), (0, v1), (0, v4)]) (st := []) (by decide) ok_X13_343 rfl rfl (Nat.le_of_ble_eq_true rfl) dX13_named_25 h (fun r3 s4 hv h => ?_)
    refine r_lload_n dX13_named_28 rfl ?_
    refine r_lcmp dX13_named_29 ?_
    refine r_if_ne (tgt := 36) dX13_named_30 (by decide) (fun hc => ?_) (fun hc => ?_)
    · have h := h.1 hc
      refine r_iinc (ls2 := [(21, 92), (0, v1), (2, v2), (9, 0), (0, (w32 (v4 + 1)))]) dX13_named_36 rfl (by decide) rfl ?_
      refine r_goto (tgt := 3) dX13_named_39 (by decide) ?_
      exact h
    · have h := h.2 hc
      refine r_iload dX13_named_33 rfl ?_
      exact r_iret dX13_named_35 rfl h
set_option maxRecDepth 20000 in
theorem S_X13_named {g : GT} {e : Nat} {Q : Int → Sg → Prop} {s : Sg} {v1 : Int} {v2 : Int} (h : inR v1 → inL v2 → P_X13_named_3 g e Q s v1 v2 0) : Mw g (e + 1) M_X13_named [(21, 92), (0, v1), (2, v2)] s Q := by
  refine Mw.of (ls := [(21, 92), (0, v1), (2, v2), (9, 0), (9, 0)]) pn_X13_named (Nat.le_of_ble_eq_true rfl) rfl (fun hv => ?_)
  have h := h (hv _ (List.Mem.tail _ (List.Mem.head _))) (hv _ (List.Mem.tail _ (List.Mem.tail _ (List.Mem.head _))))
  refine r_iconst dX13_named_0 (by decide) ?_
  refine r_istore (ls2 := [(21, 92), (0, v1), (2, v2), (9, 0), (0, 0)]) dX13_named_1 (by decide) rfl ?_
  exact h
abbrev P_X13_number_30 (g : GT) (e : Nat) (Q : Int → Sg → Prop) (s : Sg) (v1 : Int) (v2 : Int) : Prop := Wp g (e + 1) M_X13_number Q 30 [(21, 92), (0, v1), (0, v2), (9, 0)] [] s
abbrev P_X13_number_58 (g : GT) (e : Nat) (Q : Int → Sg → Prop) (s : Sg) : Prop := Wp g (e + 1) M_X13_number Q 58 [(21, 92), (9, 0), (9, 0), (9, 0)] [] s
set_option maxRecDepth 20000 in
theorem S_X13_number_30 {g : GT} {e : Nat} {Q : Int → Sg → Prop} {s : Sg} {v1 : Int} {v2 : Int} (h : ((¬ (s 92 8) = 0 → P_X13_number_58 g e Q s) ∧ ((s 92 8) = 0 → (Mw g e M_X13_is [(0, (s 92 6)), (0, v1), (0, v2)] s (fun r1 s2 => ((¬ r1 = 0 → P_X13_number_58 g e Q s2) ∧ (r1 = 0 → (Mw g e M_X13_blame [(21, 92), (0, 4), (0, (s2 92 4))] s2 (fun _ s4 => P_X13_number_58 g e Q s4))))))))) : P_X13_number_30 g e Q s v1 v2 := by
  refine r_aload_n dX13_number_30 rfl rfl ?_
  refine gf_X13_36 rfl dX13_number_31 ?_
  refine r_if_ne (tgt := 58) dX13_number_34 (by decide) (fun hc => ?_) (fun hc => ?_)
  · have h := h.1 hc
    exact r_fgt [true, false, false, false] rfl h
  · have h := h.2 hc
    refine r_aload_n dX13_number_37 rfl rfl ?_
    refine gf_X13_29 rfl dX13_number_38 ?_
    refine r_iload_n dX13_number_41 rfl ?_
    refine r_iload_n dX13_number_42 rfl ?_
    refine r_callS (As := [(0, (s 92 6)), (0, v1), (0, v2)]) (st := []) ok_X13_347 rfl rfl (Nat.le_of_ble_eq_true rfl) dX13_number_43 h (fun r1 s2 hv h => ?_)
    refine r_if_ne (tgt := 58) dX13_number_46 (by decide) (fun hc => ?_) (fun hc => ?_)
    · have h := h.1 hc
      exact r_fgt [true, false, false, false] rfl h
    · have h := h.2 hc
      refine r_aload_n dX13_number_49 rfl rfl ?_
      refine r_iconst dX13_number_50 (by decide) ?_
      refine r_aload_n dX13_number_51 rfl rfl ?_
      refine gf_X13_23 rfl dX13_number_52 ?_
      refine r_callV (ci := 11) (As := [(0, 4), (0, (s2 92 4))]) (st := []) (by decide) ok_X13_257 rfl rfl (Nat.le_of_ble_eq_true rfl) dX13_number_55 h (fun r3 s4 hv h => ?_)
      exact r_fgt [true, false, false, false] rfl h
set_option maxRecDepth 20000 in
theorem S_X13_number_58 {g : GT} {e : Nat} {Q : Int → Sg → Prop} {s : Sg} (h : ((¬ (s 92 8) = 0 → Q (s 92 6) s) ∧ ((s 92 8) = 0 → (Mw g e M_X13_ahead [(21, 92)] s (fun _ s2 => Q (s 92 6) s2))))) : P_X13_number_58 g e Q s := by
  refine r_aload_n dX13_number_58 rfl rfl ?_
  refine gf_X13_29 rfl dX13_number_59 ?_
  refine r_istore_n (ls2 := [(21, 92), (9, 0), (9, 0), (0, (s 92 6))]) dX13_number_62 (by decide) rfl ?_
  refine r_aload_n dX13_number_63 rfl rfl ?_
  refine gf_X13_36 rfl dX13_number_64 ?_
  refine r_if_ne (tgt := 74) dX13_number_67 (by decide) (fun hc => ?_) (fun hc => ?_)
  · have h := h.1 hc
    refine r_iload_n dX13_number_74 rfl ?_
    exact r_iret dX13_number_75 rfl h
  · have h := h.2 hc
    refine r_aload_n dX13_number_70 rfl rfl ?_
    refine r_callV (ci := 11) (As := []) (st := []) (by decide) ok_X13_274 rfl rfl (Nat.le_of_ble_eq_true rfl) dX13_number_71 h (fun r1 s2 hv h => ?_)
    refine r_iload_n dX13_number_74 rfl ?_
    exact r_iret dX13_number_75 rfl h
set_option maxRecDepth 20000 in
theorem S_X13_number {g : GT} {e : Nat} {Q : Int → Sg → Prop} {s : Sg} {v1 : Int} {v2 : Int} (h : inR v1 → inR v2 → (Mw g e M_X13_lex [(21, 92)] s (fun _ s2 => (((s2 92 8) ≤ 0 → (((s2 92 3) = 2 → P_X13_number_30 g e Q s2 v1 v2) ∧ (¬ (s2 92 3) = 2 → (Mw g e M_X13_blame [(21, 92), (0, 1), (0, (s2 92 4))] s2 (fun _ s4 => P_X13_number_30 g e Q s4 v1 v2))))) ∧ (¬ (s2 92 8) ≤ 0 → Q 0 s2))))) : Mw g (e + 1) M_X13_number [(21, 92), (0, v1), (0, v2)] s Q := by
  refine Mw.of (ls := [(21, 92), (0, v1), (0, v2), (9, 0)]) pn_X13_number (Nat.le_of_ble_eq_true rfl) rfl (fun hv => ?_)
  have h := h (hv _ (List.Mem.tail _ (List.Mem.head _))) (hv _ (List.Mem.tail _ (List.Mem.tail _ (List.Mem.head _))))
  refine r_aload_n dX13_number_0 rfl rfl ?_
  refine r_callV (ci := 11) (As := []) (st := []) (by decide) ok_X13_268 rfl rfl (Nat.le_of_ble_eq_true rfl) dX13_number_1 h (fun r1 s2 hv h => ?_)
  refine r_aload_n dX13_number_4 rfl rfl ?_
  refine gf_X13_36 rfl dX13_number_5 ?_
  refine r_if_le (tgt := 13) dX13_number_8 (by decide) (fun hc => ?_) (fun hc => ?_)
  · have h := h.1 hc
    refine r_aload_n dX13_number_13 rfl rfl ?_
    refine gf_X13_20 rfl dX13_number_14 ?_
    refine r_iconst dX13_number_17 (by decide) ?_
    refine r_icmp_eq (tgt := 30) dX13_number_18 (by decide) (fun hc => ?_) (fun hc => ?_)
    · have h := h.1 hc
      exact h
    · have h := h.2 hc
      refine r_aload_n dX13_number_21 rfl rfl ?_
      refine r_iconst dX13_number_22 (by decide) ?_
      refine r_aload_n dX13_number_23 rfl rfl ?_
      refine gf_X13_23 rfl dX13_number_24 ?_
      refine r_callV (ci := 11) (As := [(0, 1), (0, (s2 92 4))]) (st := []) (by decide) ok_X13_257 rfl rfl (Nat.le_of_ble_eq_true rfl) dX13_number_27 h (fun r3 s4 hv h => ?_)
      exact h
  · have h := h.2 hc
    refine r_iconst dX13_number_11 (by decide) ?_
    exact r_iret dX13_number_12 rfl h
set_option maxRecDepth 20000 in
theorem S_X13_add {g : GT} {e : Nat} {Q : Int → Sg → Prop} {s : Sg} {v1 : Int} {v2 : Int} (h : inR v1 → inR v2 → ((0 ≤ (w32 ((w32 (1600 * (s 92 36))) + (s 92 35))) ∧ (w32 ((w32 (1600 * (s 92 36))) + (s 92 35))) < 3200) ∧ ∀ s1, s1 = ups s 110 (w32 ((w32 (1600 * (s 92 36))) + (s 92 35))) v1 → ((0 ≤ (w32 ((w32 (1600 * (s1 92 36))) + (s1 92 35))) ∧ (w32 ((w32 (1600 * (s1 92 36))) + (s1 92 35))) < 3200) ∧ ∀ s2, s2 = ups s1 111 (w32 ((w32 (1600 * (s1 92 36))) + (s1 92 35))) v2 → (∀ s3, s3 = ups s2 92 35 (w32 ((s2 92 35) + 1)) → Q 0 s3)))) : Mw g (e + 1) M_X13_add [(21, 92), (0, v1), (0, v2)] s Q := by
  refine Mw.of (ls := [(21, 92), (0, v1), (0, v2)]) pn_X13_add (Nat.le_of_ble_eq_true rfl) rfl (fun hv => ?_)
  have h := h (hv _ (List.Mem.tail _ (List.Mem.head _))) (hv _ (List.Mem.tail _ (List.Mem.tail _ (List.Mem.head _))))
  refine r_aload_n dX13_add_0 rfl rfl ?_
  refine gf_X13_102 rfl dX13_add_1 ?_
  refine r_sipush dX13_add_4 (by decide) rfl ?_
  refine r_aload_n dX13_add_7 rfl rfl ?_
  refine gf_X13_121 rfl dX13_add_8 ?_
  refine r_imul dX13_add_11 ?_
  refine r_aload_n dX13_add_12 rfl rfl ?_
  refine gf_X13_118 rfl dX13_add_13 ?_
  refine r_iadd dX13_add_16 ?_
  refine r_iload_n dX13_add_17 rfl ?_
  obtain ⟨hb, h⟩ := h
  refine r_iast (n := 3200) rfl (by decide) dX13_add_18 hb ?_
  have h := h _ rfl
  generalize hs_s1 : ups s 110 (w32 ((w32 (1600 * (s 92 36))) + (s 92 35))) v1 = s1 at h ⊢
  refine r_aload_n dX13_add_19 rfl rfl ?_
  refine gf_X13_105 rfl dX13_add_20 ?_
  refine r_sipush dX13_add_23 (by decide) rfl ?_
  refine r_aload_n dX13_add_26 rfl rfl ?_
  refine gf_X13_121 rfl dX13_add_27 ?_
  refine r_imul dX13_add_30 ?_
  refine r_aload_n dX13_add_31 rfl rfl ?_
  refine gf_X13_118 rfl dX13_add_32 ?_
  refine r_iadd dX13_add_35 ?_
  refine r_iload_n dX13_add_36 rfl ?_
  obtain ⟨hb, h⟩ := h
  refine r_iast (n := 3200) rfl (by decide) dX13_add_37 hb ?_
  have h := h _ rfl
  generalize hs_s2 : ups s1 111 (w32 ((w32 (1600 * (s1 92 36))) + (s1 92 35))) v2 = s2 at h ⊢
  refine r_aload_n dX13_add_38 rfl rfl ?_
  refine r_dup dX13_add_39 (show (21 : Nat) ≠ 2 by decide) ?_
  refine gf_X13_118 rfl dX13_add_40 ?_
  refine r_iconst dX13_add_43 (by decide) ?_
  refine r_iadd dX13_add_44 ?_
  refine pf_X13_118 rfl dX13_add_45 ?_
  have h := h _ rfl
  generalize hs_s3 : ups s2 92 35 (w32 ((s2 92 35) + 1)) = s3 at h ⊢
  exact r_ret dX13_add_48 rfl h
set_option maxRecDepth 20000 in
theorem S_X13_rank {g : GT} {e : Nat} {Q : Int → Sg → Prop} {s : Sg} {v0 : Int} (h : inR v0 → ((¬ v0 = 42 → ((¬ v0 = 41 → ((¬ v0 = 43 → ((v0 = 38 → Q 4 s) ∧ (¬ v0 = 38 → ((v0 = 39 → Q 4 s) ∧ (¬ v0 = 39 → ((¬ v0 = 40 → ((v0 = 31 → Q 5 s) ∧ (¬ v0 = 31 → ((¬ v0 = 32 → Q 6 s) ∧ (v0 = 32 → Q 5 s))))) ∧ (v0 = 40 → Q 4 s))))))) ∧ (v0 = 43 → Q 3 s))) ∧ (v0 = 41 → Q 2 s))) ∧ (v0 = 42 → Q 1 s))) : Mw g (e + 1) M_X13_rank [(0, v0)] s Q := by
  refine Mw.of (ls := [(0, v0)]) pn_X13_rank (Nat.le_of_ble_eq_true rfl) rfl (fun hv => ?_)
  have h := h (hv _ (List.Mem.head _))
  refine r_iload_n dX13_rank_0 rfl ?_
  refine r_bipush dX13_rank_1 (by decide) rfl ?_
  refine r_icmp_ne (tgt := 10) dX13_rank_3 (by decide) (fun hc => ?_) (fun hc => ?_)
  · have h := h.1 hc
    refine r_iload_n dX13_rank_10 rfl ?_
    refine r_bipush dX13_rank_11 (by decide) rfl ?_
    refine r_icmp_ne (tgt := 20) dX13_rank_13 (by decide) (fun hc => ?_) (fun hc => ?_)
    · have h := h.1 hc
      refine r_iload_n dX13_rank_20 rfl ?_
      refine r_bipush dX13_rank_21 (by decide) rfl ?_
      refine r_icmp_ne (tgt := 30) dX13_rank_23 (by decide) (fun hc => ?_) (fun hc => ?_)
      · have h := h.1 hc
        refine r_iload_n dX13_rank_30 rfl ?_
        refine r_bipush dX13_rank_31 (by decide) rfl ?_
        refine r_icmp_eq (tgt := 48) dX13_rank_33 (by decide) (fun hc => ?_) (fun hc => ?_)
        · have h := h.1 hc
          refine r_iconst dX13_rank_48 (by decide) ?_
          refine r_goto (tgt := 70) dX13_rank_49 (by decide) ?_
          exact r_iret dX13_rank_70 rfl h
        · have h := h.2 hc
          refine r_iload_n dX13_rank_36 rfl ?_
          refine r_bipush dX13_rank_37 (by decide) rfl ?_
          refine r_icmp_eq (tgt := 48) dX13_rank_39 (by decide) (fun hc => ?_) (fun hc => ?_)
          · have h := h.1 hc
            refine r_iconst dX13_rank_48 (by decide) ?_
            refine r_goto (tgt := 70) dX13_rank_49 (by decide) ?_
            exact r_iret dX13_rank_70 rfl h
          · have h := h.2 hc
            refine r_iload_n dX13_rank_42 rfl ?_
            refine r_bipush dX13_rank_43 (by decide) rfl ?_
            refine r_icmp_ne (tgt := 52) dX13_rank_45 (by decide) (fun hc => ?_) (fun hc => ?_)
            · have h := h.1 hc
              refine r_iload_n dX13_rank_52 rfl ?_
              refine r_bipush dX13_rank_53 (by decide) rfl ?_
              refine r_icmp_eq (tgt := 64) dX13_rank_55 (by decide) (fun hc => ?_) (fun hc => ?_)
              · have h := h.1 hc
                refine r_iconst dX13_rank_64 (by decide) ?_
                refine r_goto (tgt := 70) dX13_rank_65 (by decide) ?_
                exact r_iret dX13_rank_70 rfl h
              · have h := h.2 hc
                refine r_iload_n dX13_rank_58 rfl ?_
                refine r_bipush dX13_rank_59 (by decide) rfl ?_
                refine r_icmp_ne (tgt := 68) dX13_rank_61 (by decide) (fun hc => ?_) (fun hc => ?_)
                · have h := h.1 hc
                  refine r_bipush dX13_rank_68 (by decide) rfl ?_
                  exact r_iret dX13_rank_70 rfl h
                · have h := h.2 hc
                  refine r_iconst dX13_rank_64 (by decide) ?_
                  refine r_goto (tgt := 70) dX13_rank_65 (by decide) ?_
                  exact r_iret dX13_rank_70 rfl h
            · have h := h.2 hc
              refine r_iconst dX13_rank_48 (by decide) ?_
              refine r_goto (tgt := 70) dX13_rank_49 (by decide) ?_
              exact r_iret dX13_rank_70 rfl h
      · have h := h.2 hc
        refine r_iconst dX13_rank_26 (by decide) ?_
        refine r_goto (tgt := 70) dX13_rank_27 (by decide) ?_
        exact r_iret dX13_rank_70 rfl h
    · have h := h.2 hc
      refine r_iconst dX13_rank_16 (by decide) ?_
      refine r_goto (tgt := 70) dX13_rank_17 (by decide) ?_
      exact r_iret dX13_rank_70 rfl h
  · have h := h.2 hc
    refine r_iconst dX13_rank_6 (by decide) ?_
    refine r_goto (tgt := 70) dX13_rank_7 (by decide) ?_
    exact r_iret dX13_rank_70 rfl h
abbrev P_X13_joins_0 (g : GT) (e : Nat) (Q : Int → Sg → Prop) (s : Sg) (v1 : Int) : Prop := Wp g (e + 1) M_X13_joins Q 0 [(21, 92), (0, v1)] [] s
set_option maxRecDepth 20000 in
theorem S_X13_joins_0 {g : GT} {e : Nat} {Q : Int → Sg → Prop} {s : Sg} {v1 : Int} (h : ((0 ≤ (w32 ((s 92 43) - 1)) ∧ (w32 ((s 92 43) - 1)) < 20) ∧ (((s 92 46) ≤ (s 119 (w32 ((s 92 43) - 1))) → Q 0 s) ∧ (¬ (s 92 46) ≤ (s 119 (w32 ((s 92 43) - 1))) → ((0 ≤ (w32 ((s 92 46) - 1)) ∧ (w32 ((s 92 46) - 1)) < 500) ∧ (Mw g e M_X13_rank [(0, (s 120 (w32 ((s 92 46) - 1))))] s (fun r1 s2 => ((r1 < v1 → Q 0 s2) ∧ (¬ r1 < v1 → (∀ s3, s3 = ups s2 92 46 (w32 ((s2 92 46) - 1)) → ((0 ≤ (s3 92 46) ∧ (s3 92 46) < 500) ∧ (Mw g e M_X13_add [(21, 92), (0, (s3 120 (s3 92 46))), (0, 0)] s3 (fun _ s5 => ((0 ≤ (s5 92 46) ∧ (s5 92 46) < 500) ∧ ((¬ (s5 120 (s5 92 46)) = 43 → P_X13_joins_0 g e Q s5 v1) ∧ ((s5 120 (s5 92 46)) = 43 → (∀ s6, s6 = ups s5 92 44 (w32 ((s5 92 44) - 1)) → P_X13_joins_0 g e Q s6 v1))))))))))))))))) : P_X13_joins_0 g e Q s v1 := by
  refine r_aload_n dX13_joins_0 rfl rfl ?_
  refine gf_X13_153 rfl dX13_joins_1 ?_
  refine r_aload_n dX13_joins_4 rfl rfl ?_
  refine gf_X13_141 rfl dX13_joins_5 ?_
  refine r_aload_n dX13_joins_8 rfl rfl ?_
  refine gf_X13_144 rfl dX13_joins_9 ?_
  refine r_iconst dX13_joins_12 (by decide) ?_
  refine r_isub dX13_joins_13 ?_
  obtain ⟨hb, h⟩ := h
  refine r_iald (n := 20) rfl (by decide) dX13_joins_14 hb ?_
  refine r_icmp_le (tgt := 87) dX13_joins_15 (by decide) (fun hc => ?_) (fun hc => ?_)
  · have h := h.1 hc
    exact r_ret dX13_joins_87 rfl h
  · have h := h.2 hc
    refine r_aload_n dX13_joins_18 rfl rfl ?_
    refine gf_X13_150 rfl dX13_joins_19 ?_
    refine r_aload_n dX13_joins_22 rfl rfl ?_
    refine gf_X13_153 rfl dX13_joins_23 ?_
    refine r_iconst dX13_joins_26 (by decide) ?_
    refine r_isub dX13_joins_27 ?_
    obtain ⟨hb, h⟩ := h
    refine r_iald (n := 500) rfl (by decide) dX13_joins_28 hb ?_
    refine r_callS (As := [(0, (s 120 (w32 ((s 92 46) - 1))))]) (st := []) ok_X13_351 rfl rfl (Nat.le_of_ble_eq_true rfl) dX13_joins_29 h (fun r1 s2 hv h => ?_)
    refine r_iload_n dX13_joins_32 rfl ?_
    refine r_icmp_lt (tgt := 87) dX13_joins_33 (by decide) (fun hc => ?_) (fun hc => ?_)
    · have h := h.1 hc
      exact r_ret dX13_joins_87 rfl h
    · have h := h.2 hc
      refine r_aload_n dX13_joins_36 rfl rfl ?_
      refine r_dup dX13_joins_37 (show (21 : Nat) ≠ 2 by decide) ?_
      refine gf_X13_153 rfl dX13_joins_38 ?_
      refine r_iconst dX13_joins_41 (by decide) ?_
      refine r_isub dX13_joins_42 ?_
      refine pf_X13_153 rfl dX13_joins_43 ?_
      have h := h _ rfl
      generalize hs_s3 : ups s2 92 46 (w32 ((s2 92 46) - 1)) = s3 at h ⊢
      refine r_aload_n dX13_joins_46 rfl rfl ?_
      refine r_aload_n dX13_joins_47 rfl rfl ?_
      refine gf_X13_150 rfl dX13_joins_48 ?_
      refine r_aload_n dX13_joins_51 rfl rfl ?_
      refine gf_X13_153 rfl dX13_joins_52 ?_
      obtain ⟨hb, h⟩ := h
      refine r_iald (n := 500) rfl (by decide) dX13_joins_55 hb ?_
      refine r_iconst dX13_joins_56 (by decide) ?_
      refine r_callV (ci := 11) (As := [(0, (s3 120 (s3 92 46))), (0, 0)]) (st := []) (by decide) ok_X13_354 rfl rfl (Nat.le_of_ble_eq_true rfl) dX13_joins_57 h (fun r4 s5 hv h => ?_)
      refine r_aload_n dX13_joins_60 rfl rfl ?_
      refine gf_X13_150 rfl dX13_joins_61 ?_
      refine r_aload_n dX13_joins_64 rfl rfl ?_
      refine gf_X13_153 rfl dX13_joins_65 ?_
      obtain ⟨hb, h⟩ := h
      refine r_iald (n := 500) rfl (by decide) dX13_joins_68 hb ?_
      refine r_bipush dX13_joins_69 (by decide) rfl ?_
      refine r_icmp_ne (tgt := 0) dX13_joins_71 (by decide) (fun hc => ?_) (fun hc => ?_)
      · have h := h.1 hc
        exact h
      · have h := h.2 hc
        refine r_aload_n dX13_joins_74 rfl rfl ?_
        refine r_dup dX13_joins_75 (show (21 : Nat) ≠ 2 by decide) ?_
        refine gf_X13_147 rfl dX13_joins_76 ?_
        refine r_iconst dX13_joins_79 (by decide) ?_
        refine r_isub dX13_joins_80 ?_
        refine pf_X13_147 rfl dX13_joins_81 ?_
        have h := h _ rfl
        generalize hs_s6 : ups s5 92 44 (w32 ((s5 92 44) - 1)) = s6 at h ⊢
        refine r_goto (tgt := 0) dX13_joins_84 (by decide) ?_
        exact h
set_option maxRecDepth 20000 in
theorem S_X13_joins {g : GT} {e : Nat} {Q : Int → Sg → Prop} {s : Sg} {v1 : Int} (h : inR v1 → P_X13_joins_0 g e Q s v1) : Mw g (e + 1) M_X13_joins [(21, 92), (0, v1)] s Q := by
  refine Mw.of (ls := [(21, 92), (0, v1)]) pn_X13_joins (Nat.le_of_ble_eq_true rfl) rfl (fun hv => ?_)
  have h := h (hv _ (List.Mem.tail _ (List.Mem.head _)))
  exact h
set_option maxRecDepth 20000 in
theorem S_X13_holdsBack {g : GT} {e : Nat} {Q : Int → Sg → Prop} {s : Sg} {v1 : Int} (h : inR v1 → ((0 ≤ (s 92 46) ∧ (s 92 46) < 500) ∧ ∀ s1, s1 = ups s 120 (s 92 46) v1 → (∀ s2, s2 = ups s1 92 46 (w32 ((s1 92 46) + 1)) → Q 0 s2))) : Mw g (e + 1) M_X13_holdsBack [(21, 92), (0, v1)] s Q := by
  refine Mw.of (ls := [(21, 92), (0, v1)]) pn_X13_holdsBack (Nat.le_of_ble_eq_true rfl) rfl (fun hv => ?_)
  have h := h (hv _ (List.Mem.tail _ (List.Mem.head _)))
  refine r_aload_n dX13_holdsBack_0 rfl rfl ?_
  refine gf_X13_150 rfl dX13_holdsBack_1 ?_
  refine r_aload_n dX13_holdsBack_4 rfl rfl ?_
  refine gf_X13_153 rfl dX13_holdsBack_5 ?_
  refine r_iload_n dX13_holdsBack_8 rfl ?_
  obtain ⟨hb, h⟩ := h
  refine r_iast (n := 500) rfl (by decide) dX13_holdsBack_9 hb ?_
  have h := h _ rfl
  generalize hs_s1 : ups s 120 (s 92 46) v1 = s1 at h ⊢
  refine r_aload_n dX13_holdsBack_10 rfl rfl ?_
  refine r_dup dX13_holdsBack_11 (show (21 : Nat) ≠ 2 by decide) ?_
  refine gf_X13_153 rfl dX13_holdsBack_12 ?_
  refine r_iconst dX13_holdsBack_15 (by decide) ?_
  refine r_iadd dX13_holdsBack_16 ?_
  refine pf_X13_153 rfl dX13_holdsBack_17 ?_
  have h := h _ rfl
  generalize hs_s2 : ups s1 92 46 (w32 ((s1 92 46) + 1)) = s2 at h ⊢
  exact r_ret dX13_holdsBack_20 rfl h
set_option maxRecDepth 20000 in
theorem S_X13_pushes {g : GT} {e : Nat} {Q : Int → Sg → Prop} {s : Sg} {v1 : Int} (h : inR v1 → ((0 ≤ (s 92 43) ∧ (s 92 43) < 20) ∧ ∀ s1, s1 = ups s 115 (s 92 43) v1 → ((0 ≤ (s1 92 43) ∧ (s1 92 43) < 20) ∧ ∀ s2, s2 = ups s1 116 (s1 92 43) 0 → ((0 ≤ (s2 92 43) ∧ (s2 92 43) < 20) ∧ ∀ s3, s3 = ups s2 117 (s2 92 43) 1 → ((0 ≤ (s3 92 43) ∧ (s3 92 43) < 20) ∧ ∀ s4, s4 = ups s3 119 (s3 92 43) (s3 92 46) → (∀ s5, s5 = ups s4 92 43 (w32 ((s4 92 43) + 1)) → Q 0 s5)))))) : Mw g (e + 1) M_X13_pushes [(21, 92), (0, v1)] s Q := by
  refine Mw.of (ls := [(21, 92), (0, v1)]) pn_X13_pushes (Nat.le_of_ble_eq_true rfl) rfl (fun hv => ?_)
  have h := h (hv _ (List.Mem.tail _ (List.Mem.head _)))
  refine r_aload_n dX13_pushes_0 rfl rfl ?_
  refine gf_X13_128 rfl dX13_pushes_1 ?_
  refine r_aload_n dX13_pushes_4 rfl rfl ?_
  refine gf_X13_144 rfl dX13_pushes_5 ?_
  refine r_iload_n dX13_pushes_8 rfl ?_
  obtain ⟨hb, h⟩ := h
  refine r_iast (n := 20) rfl (by decide) dX13_pushes_9 hb ?_
  have h := h _ rfl
  generalize hs_s1 : ups s 115 (s 92 43) v1 = s1 at h ⊢
  refine r_aload_n dX13_pushes_10 rfl rfl ?_
  refine gf_X13_131 rfl dX13_pushes_11 ?_
  refine r_aload_n dX13_pushes_14 rfl rfl ?_
  refine gf_X13_144 rfl dX13_pushes_15 ?_
  refine r_iconst dX13_pushes_18 (by decide) ?_
  obtain ⟨hb, h⟩ := h
  refine r_iast (n := 20) rfl (by decide) dX13_pushes_19 hb ?_
  have h := h _ rfl
  generalize hs_s2 : ups s1 116 (s1 92 43) 0 = s2 at h ⊢
  refine r_aload_n dX13_pushes_20 rfl rfl ?_
  refine gf_X13_134 rfl dX13_pushes_21 ?_
  refine r_aload_n dX13_pushes_24 rfl rfl ?_
  refine gf_X13_144 rfl dX13_pushes_25 ?_
  refine r_iconst dX13_pushes_28 (by decide) ?_
  obtain ⟨hb, h⟩ := h
  refine r_zast (n := 20) rfl (by decide) dX13_pushes_29 hb (by decide) ?_
  have h := h _ rfl
  generalize hs_s3 : ups s2 117 (s2 92 43) 1 = s3 at h ⊢
  refine r_aload_n dX13_pushes_30 rfl rfl ?_
  refine gf_X13_141 rfl dX13_pushes_31 ?_
  refine r_aload_n dX13_pushes_34 rfl rfl ?_
  refine gf_X13_144 rfl dX13_pushes_35 ?_
  refine r_aload_n dX13_pushes_38 rfl rfl ?_
  refine gf_X13_153 rfl dX13_pushes_39 ?_
  obtain ⟨hb, h⟩ := h
  refine r_iast (n := 20) rfl (by decide) dX13_pushes_42 hb ?_
  have h := h _ rfl
  generalize hs_s4 : ups s3 119 (s3 92 43) (s3 92 46) = s4 at h ⊢
  refine r_aload_n dX13_pushes_43 rfl rfl ?_
  refine r_dup dX13_pushes_44 (show (21 : Nat) ≠ 2 by decide) ?_
  refine gf_X13_144 rfl dX13_pushes_45 ?_
  refine r_iconst dX13_pushes_48 (by decide) ?_
  refine r_iadd dX13_pushes_49 ?_
  refine pf_X13_144 rfl dX13_pushes_50 ?_
  have h := h _ rfl
  generalize hs_s5 : ups s4 92 43 (w32 ((s4 92 43) + 1)) = s5 at h ⊢
  exact r_ret dX13_pushes_53 rfl h
abbrev P_X13_opens_18 (g : GT) (e : Nat) (Q : Int → Sg → Prop) (s : Sg) (v1 : Int) : Prop := Wp g (e + 1) M_X13_opens Q 18 [(21, 92), (0, v1)] [] s
set_option maxRecDepth 20000 in
theorem S_X13_opens_18 {g : GT} {e : Nat} {Q : Int → Sg → Prop} {s : Sg} {v1 : Int} (h : (((s 92 8) ≤ 0 → (∀ s1, s1 = ups s 92 44 (w32 ((s 92 44) + 1)) → (Mw g e M_X13_ahead [(21, 92)] s1 (fun _ s3 => (Mw g e M_X13_pushes [(21, 92), (0, v1)] s3 (fun _ s5 => Q 0 s5)))))) ∧ (¬ (s 92 8) ≤ 0 → Q 0 s))) : P_X13_opens_18 g e Q s v1 := by
  refine r_aload_n dX13_opens_18 rfl rfl ?_
  refine gf_X13_36 rfl dX13_opens_19 ?_
  refine r_if_le (tgt := 26) dX13_opens_22 (by decide) (fun hc => ?_) (fun hc => ?_)
  · have h := h.1 hc
    refine r_aload_n dX13_opens_26 rfl rfl ?_
    refine r_dup dX13_opens_27 (show (21 : Nat) ≠ 2 by decide) ?_
    refine gf_X13_147 rfl dX13_opens_28 ?_
    refine r_iconst dX13_opens_31 (by decide) ?_
    refine r_iadd dX13_opens_32 ?_
    refine pf_X13_147 rfl dX13_opens_33 ?_
    have h := h _ rfl
    generalize hs_s1 : ups s 92 44 (w32 ((s 92 44) + 1)) = s1 at h ⊢
    refine r_aload_n dX13_opens_36 rfl rfl ?_
    refine r_callV (ci := 11) (As := []) (st := []) (by decide) ok_X13_274 rfl rfl (Nat.le_of_ble_eq_true rfl) dX13_opens_37 h (fun r2 s3 hv h => ?_)
    refine r_aload_n dX13_opens_40 rfl rfl ?_
    refine r_iload_n dX13_opens_41 rfl ?_
    refine r_callV (ci := 11) (As := [(0, v1)]) (st := []) (by decide) ok_X13_357 rfl rfl (Nat.le_of_ble_eq_true rfl) dX13_opens_42 h (fun r4 s5 hv h => ?_)
    exact r_ret dX13_opens_45 rfl h
  · have h := h.2 hc
    exact r_ret dX13_opens_25 rfl h
set_option maxRecDepth 20000 in
theorem S_X13_opens {g : GT} {e : Nat} {Q : Int → Sg → Prop} {s : Sg} {v1 : Int} (h : inR v1 → ((¬ (s 92 44) = 7 → P_X13_opens_18 g e Q s v1) ∧ ((s 92 44) = 7 → (Mw g e M_X13_blame [(21, 92), (0, 5), (0, (s 92 4))] s (fun _ s2 => P_X13_opens_18 g e Q s2 v1))))) : Mw g (e + 1) M_X13_opens [(21, 92), (0, v1)] s Q := by
  refine Mw.of (ls := [(21, 92), (0, v1)]) pn_X13_opens (Nat.le_of_ble_eq_true rfl) rfl (fun hv => ?_)
  have h := h (hv _ (List.Mem.tail _ (List.Mem.head _)))
  refine r_aload_n dX13_opens_0 rfl rfl ?_
  refine gf_X13_147 rfl dX13_opens_1 ?_
  refine r_bipush dX13_opens_4 (by decide) rfl ?_
  refine r_icmp_ne (tgt := 18) dX13_opens_6 (by decide) (fun hc => ?_) (fun hc => ?_)
  · have h := h.1 hc
    exact h
  · have h := h.2 hc
    refine r_aload_n dX13_opens_9 rfl rfl ?_
    refine r_iconst dX13_opens_10 (by decide) ?_
    refine r_aload_n dX13_opens_11 rfl rfl ?_
    refine gf_X13_23 rfl dX13_opens_12 ?_
    refine r_callV (ci := 11) (As := [(0, 5), (0, (s 92 4))]) (st := []) (by decide) ok_X13_257 rfl rfl (Nat.le_of_ble_eq_true rfl) dX13_opens_15 h (fun r1 s2 hv h => ?_)
    exact h
set_option maxRecDepth 20000 in
theorem S_X13_isTest {g : GT} {e : Nat} {Q : Int → Sg → Prop} {s : Sg} {v0 : Int} (h : inR v0 → ((v0 = 1 → Q 1 s) ∧ (¬ v0 = 1 → ((v0 = 5 → Q 1 s) ∧ (¬ v0 = 5 → ((¬ v0 = 6 → Q 0 s) ∧ (v0 = 6 → Q 1 s))))))) : Mw g (e + 1) M_X13_isTest [(0, v0)] s Q := by
  refine Mw.of (ls := [(0, v0)]) pn_X13_isTest (Nat.le_of_ble_eq_true rfl) rfl (fun hv => ?_)
  have h := h (hv _ (List.Mem.head _))
  refine r_iload_n dX13_isTest_0 rfl ?_
  refine r_iconst dX13_isTest_1 (by decide) ?_
  refine r_icmp_eq (tgt := 16) dX13_isTest_2 (by decide) (fun hc => ?_) (fun hc => ?_)
  · have h := h.1 hc
    refine r_iconst dX13_isTest_16 (by decide) ?_
    refine r_goto (tgt := 21) dX13_isTest_17 (by decide) ?_
    exact r_zret dX13_isTest_21 rfl (by decide) h
  · have h := h.2 hc
    refine r_iload_n dX13_isTest_5 rfl ?_
    refine r_iconst dX13_isTest_6 (by decide) ?_
    refine r_icmp_eq (tgt := 16) dX13_isTest_7 (by decide) (fun hc => ?_) (fun hc => ?_)
    · have h := h.1 hc
      refine r_iconst dX13_isTest_16 (by decide) ?_
      refine r_goto (tgt := 21) dX13_isTest_17 (by decide) ?_
      exact r_zret dX13_isTest_21 rfl (by decide) h
    · have h := h.2 hc
      refine r_iload_n dX13_isTest_10 rfl ?_
      refine r_bipush dX13_isTest_11 (by decide) rfl ?_
      refine r_icmp_ne (tgt := 20) dX13_isTest_13 (by decide) (fun hc => ?_) (fun hc => ?_)
      · have h := h.1 hc
        refine r_iconst dX13_isTest_20 (by decide) ?_
        exact r_zret dX13_isTest_21 rfl (by decide) h
      · have h := h.2 hc
        refine r_iconst dX13_isTest_16 (by decide) ?_
        refine r_goto (tgt := 21) dX13_isTest_17 (by decide) ?_
        exact r_zret dX13_isTest_21 rfl (by decide) h
abbrev P_X13_operand_45 (g : GT) (e : Nat) (Q : Int → Sg → Prop) (s : Sg) (v1 : Int) : Prop := Wp g (e + 1) M_X13_operand Q 45 [(21, 92), (0, v1), (9, 0), (9, 0)] [] s
abbrev P_X13_operand_46 (g : GT) (e : Nat) (Q : Int → Sg → Prop) (s : Sg) (v1 : Int) (x0 : Int) : Prop := Wp g (e + 1) M_X13_operand Q 46 [(21, 92), (0, v1), (9, 0), (9, 0)] [(0, x0)] s
abbrev P_X13_operand_79 (g : GT) (e : Nat) (Q : Int → Sg → Prop) (s : Sg) : Prop := Wp g (e + 1) M_X13_operand Q 79 [(21, 92), (9, 0), (9, 0), (9, 0)] [] s
abbrev P_X13_operand_110 (g : GT) (e : Nat) (Q : Int → Sg → Prop) (s : Sg) (v1 : Int) (v2 : Int) : Prop := Wp g (e + 1) M_X13_operand Q 110 [(21, 92), (0, v1), (0, v2), (9, 0)] [] s
abbrev P_X13_operand_137 (g : GT) (e : Nat) (Q : Int → Sg → Prop) (s : Sg) (v1 : Int) (v2 : Int) : Prop := Wp g (e + 1) M_X13_operand Q 137 [(21, 92), (0, v1), (0, v2), (9, 0)] [] s
abbrev P_X13_operand_171 (g : GT) (e : Nat) (Q : Int → Sg → Prop) (s : Sg) : Prop := Wp g (e + 1) M_X13_operand Q 171 [(21, 92), (9, 0), (9, 0), (9, 0)] [] s
abbrev P_X13_operand_217 (g : GT) (e : Nat) (Q : Int → Sg → Prop) (s : Sg) : Prop := Wp g (e + 1) M_X13_operand Q 217 [(21, 92), (9, 0), (9, 0), (9, 0)] [] s
abbrev P_X13_operand_249 (g : GT) (e : Nat) (Q : Int → Sg → Prop) (s : Sg) (x0 : Int) : Prop := Wp g (e + 1) M_X13_operand Q 249 [(21, 92), (9, 0), (9, 0), (9, 0)] [(0, x0)] s
abbrev P_X13_operand_276 (g : GT) (e : Nat) (Q : Int → Sg → Prop) (s : Sg) (v3 : Int) : Prop := Wp g (e + 1) M_X13_operand Q 276 [(21, 92), (9, 0), (9, 0), (0, v3)] [] s
abbrev P_X13_operand_289 (g : GT) (e : Nat) (Q : Int → Sg → Prop) (s : Sg) (v3 : Int) (x1 : Int) : Prop := Wp g (e + 1) M_X13_operand Q 289 [(21, 92), (9, 0), (9, 0), (0, v3)] [(0, x1), (21, 92)] s
abbrev P_X13_operand_441 (g : GT) (e : Nat) (Q : Int → Sg → Prop) (s : Sg) (x0 : Int) : Prop := Wp g (e + 1) M_X13_operand Q 441 [(21, 92), (9, 0), (9, 0), (9, 0)] [(0, x0)] s
abbrev P_X13_operand_456 (g : GT) (e : Nat) (Q : Int → Sg → Prop) (s : Sg) (v3 : Int) : Prop := Wp g (e + 1) M_X13_operand Q 456 [(21, 92), (9, 0), (9, 0), (0, v3)] [] s
abbrev P_X13_operand_470 (g : GT) (e : Nat) (Q : Int → Sg → Prop) (s : Sg) (v3 : Int) : Prop := Wp g (e + 1) M_X13_operand Q 470 [(21, 92), (9, 0), (9, 0), (0, v3)] [] s
set_option maxRecDepth 20000 in
theorem S_X13_operand_45 {g : GT} {e : Nat} {Q : Int → Sg → Prop} {s : Sg} {v1 : Int} (h : P_X13_operand_46 g e Q s v1 0) : P_X13_operand_45 g e Q s v1 := by
  refine r_iconst dX13_operand_45 (by decide) ?_
  exact h
set_option maxRecDepth 20000 in
theorem S_X13_operand_46 {g : GT} {e : Nat} {Q : Int → Sg → Prop} {s : Sg} {v1 : Int} {x0 : Int} (h : ((x0 = 0 → P_X13_operand_110 g e Q s v1 x0) ∧ (¬ x0 = 0 → (Mw g e M_X13_isWord [(21, 92), (2, 7237492)] s (fun r1 s2 => ((r1 = 0 → P_X13_operand_110 g e Q s2 v1 x0) ∧ (¬ r1 = 0 → ((¬ (s2 92 44) = 7 → P_X13_operand_79 g e Q s2) ∧ ((s2 92 44) = 7 → (Mw g e M_X13_blame [(21, 92), (0, 5), (0, (s2 92 4))] s2 (fun _ s4 => P_X13_operand_79 g e Q s4))))))))))) : P_X13_operand_46 g e Q s v1 x0 := by
  refine r_istore_n (ls2 := [(21, 92), (0, v1), (0, x0), (9, 0)]) dX13_operand_46 (by decide) rfl ?_
  refine r_iload_n dX13_operand_47 rfl ?_
  refine r_if_eq (tgt := 110) dX13_operand_48 (by decide) (fun hc => ?_) (fun hc => ?_)
  · have h := h.1 hc
    exact h
  · have h := h.2 hc
    refine r_aload_n dX13_operand_51 rfl rfl ?_
    refine r_ldc2 (v := 7237492) dX13_operand_52 lk_X13_331 (by decide) ?_
    refine r_callV (ci := 11) (As := [(2, 7237492)]) (st := []) (by decide) ok_X13_363 rfl rfl (Nat.le_of_ble_eq_true rfl) dX13_operand_55 h (fun r1 s2 hv h => ?_)
    refine r_if_eq (tgt := 110) dX13_operand_58 (by decide) (fun hc => ?_) (fun hc => ?_)
    · have h := h.1 hc
      exact h
    · have h := h.2 hc
      refine r_aload_n dX13_operand_61 rfl rfl ?_
      refine gf_X13_147 rfl dX13_operand_62 ?_
      refine r_bipush dX13_operand_65 (by decide) rfl ?_
      refine r_icmp_ne (tgt := 79) dX13_operand_67 (by decide) (fun hc => ?_) (fun hc => ?_)
      · have h := h.1 hc
        exact r_fgt [true, false, false, false] rfl h
      · have h := h.2 hc
        refine r_aload_n dX13_operand_70 rfl rfl ?_
        refine r_iconst dX13_operand_71 (by decide) ?_
        refine r_aload_n dX13_operand_72 rfl rfl ?_
        refine gf_X13_23 rfl dX13_operand_73 ?_
        refine r_callV (ci := 11) (As := [(0, 5), (0, (s2 92 4))]) (st := []) (by decide) ok_X13_257 rfl rfl (Nat.le_of_ble_eq_true rfl) dX13_operand_76 h (fun r3 s4 hv h => ?_)
        exact r_fgt [true, false, false, false] rfl h
set_option maxRecDepth 20000 in
theorem S_X13_operand_79 {g : GT} {e : Nat} {Q : Int → Sg → Prop} {s : Sg} (h : (((s 92 8) ≤ 0 → (∀ s1, s1 = ups s 92 44 (w32 ((s 92 44) + 1)) → (Mw g e M_X13_holdsBack [(21, 92), (0, 43)] s1 (fun _ s3 => (Mw g e M_X13_ahead [(21, 92)] s3 (fun _ s5 => Q 0 s5)))))) ∧ (¬ (s 92 8) ≤ 0 → Q 1 s))) : P_X13_operand_79 g e Q s := by
  refine r_aload_n dX13_operand_79 rfl rfl ?_
  refine gf_X13_36 rfl dX13_operand_80 ?_
  refine r_if_le (tgt := 88) dX13_operand_83 (by decide) (fun hc => ?_) (fun hc => ?_)
  · have h := h.1 hc
    refine r_aload_n dX13_operand_88 rfl rfl ?_
    refine r_dup dX13_operand_89 (show (21 : Nat) ≠ 2 by decide) ?_
    refine gf_X13_147 rfl dX13_operand_90 ?_
    refine r_iconst dX13_operand_93 (by decide) ?_
    refine r_iadd dX13_operand_94 ?_
    refine pf_X13_147 rfl dX13_operand_95 ?_
    have h := h _ rfl
    generalize hs_s1 : ups s 92 44 (w32 ((s 92 44) + 1)) = s1 at h ⊢
    refine r_aload_n dX13_operand_98 rfl rfl ?_
    refine r_bipush dX13_operand_99 (by decide) rfl ?_
    refine r_callV (ci := 11) (As := [(0, 43)]) (st := []) (by decide) ok_X13_367 rfl rfl (Nat.le_of_ble_eq_true rfl) dX13_operand_101 h (fun r2 s3 hv h => ?_)
    refine r_aload_n dX13_operand_104 rfl rfl ?_
    refine r_callV (ci := 11) (As := []) (st := []) (by decide) ok_X13_274 rfl rfl (Nat.le_of_ble_eq_true rfl) dX13_operand_105 h (fun r4 s5 hv h => ?_)
    refine r_iconst dX13_operand_108 (by decide) ?_
    exact r_zret dX13_operand_109 rfl (by decide) h
  · have h := h.2 hc
    refine r_iconst dX13_operand_86 (by decide) ?_
    exact r_zret dX13_operand_87 rfl (by decide) h
set_option maxRecDepth 20000 in
theorem S_X13_operand_110 {g : GT} {e : Nat} {Q : Int → Sg → Prop} {s : Sg} {v1 : Int} {v2 : Int} (h : ((0 ≤ v1 ∧ v1 < 20) ∧ ∀ s1, s1 = ups s 117 v1 0 → ((v2 = 0 → P_X13_operand_137 g e Q s1 v1 v2) ∧ (¬ v2 = 0 → (Mw g e M_X13_isSign [(21, 92), (0, 91)] s1 (fun r2 s3 => ((r2 = 0 → P_X13_operand_137 g e Q s3 v1 v2) ∧ (¬ r2 = 0 → (Mw g e M_X13_opens [(21, 92), (0, 5)] s3 (fun _ s5 => Q 0 s5)))))))))) : P_X13_operand_110 g e Q s v1 v2 := by
  refine r_aload_n dX13_operand_110 rfl rfl ?_
  refine gf_X13_134 rfl dX13_operand_111 ?_
  refine r_iload_n dX13_operand_114 rfl ?_
  refine r_iconst dX13_operand_115 (by decide) ?_
  obtain ⟨hb, h⟩ := h
  refine r_zast (n := 20) rfl (by decide) dX13_operand_116 hb (by decide) ?_
  have h := h _ rfl
  generalize hs_s1 : ups s 117 v1 0 = s1 at h ⊢
  refine r_iload_n dX13_operand_117 rfl ?_
  refine r_if_eq (tgt := 137) dX13_operand_118 (by decide) (fun hc => ?_) (fun hc => ?_)
  · have h := h.1 hc
    exact h
  · have h := h.2 hc
    refine r_aload_n dX13_operand_121 rfl rfl ?_
    refine r_bipush dX13_operand_122 (by decide) rfl ?_
    refine r_callV (ci := 11) (As := [(0, 91)]) (st := []) (by decide) ok_X13_271 rfl rfl (Nat.le_of_ble_eq_true rfl) dX13_operand_124 h (fun r2 s3 hv h => ?_)
    refine r_if_eq (tgt := 137) dX13_operand_127 (by decide) (fun hc => ?_) (fun hc => ?_)
    · have h := h.1 hc
      exact h
    · have h := h.2 hc
      refine r_aload_n dX13_operand_130 rfl rfl ?_
      refine r_iconst dX13_operand_131 (by decide) ?_
      refine r_callV (ci := 11) (As := [(0, 5)]) (st := []) (by decide) ok_X13_370 rfl rfl (Nat.le_of_ble_eq_true rfl) dX13_operand_132 h (fun r4 s5 hv h => ?_)
      refine r_iconst dX13_operand_135 (by decide) ?_
      exact r_zret dX13_operand_136 rfl (by decide) h
set_option maxRecDepth 20000 in
theorem S_X13_operand_137 {g : GT} {e : Nat} {Q : Int → Sg → Prop} {s : Sg} {v1 : Int} {v2 : Int} (h : ((v2 = 0 → P_X13_operand_171 g e Q s) ∧ (¬ v2 = 0 → (Mw g e M_X13_isWord [(21, 92), (2, 6384748)] s (fun r1 s2 => ((r1 = 0 → P_X13_operand_171 g e Q s2) ∧ (¬ r1 = 0 → (Mw g e M_X13_add [(21, 92), (0, 30), (0, 0)] s2 (fun _ s4 => ((0 ≤ v1 ∧ v1 < 20) ∧ ∀ s5, s5 = ups s4 116 v1 2 → (Mw g e M_X13_ahead [(21, 92)] s5 (fun _ s7 => Q 1 s7)))))))))))) : P_X13_operand_137 g e Q s v1 v2 := by
  refine r_iload_n dX13_operand_137 rfl ?_
  refine r_if_eq (tgt := 171) dX13_operand_138 (by decide) (fun hc => ?_) (fun hc => ?_)
  · have h := h.1 hc
    exact r_fgt [true, false, false, false] rfl h
  · have h := h.2 hc
    refine r_aload_n dX13_operand_141 rfl rfl ?_
    refine r_ldc2 (v := 6384748) dX13_operand_142 lk_X13_333 (by decide) ?_
    refine r_callV (ci := 11) (As := [(2, 6384748)]) (st := []) (by decide) ok_X13_363 rfl rfl (Nat.le_of_ble_eq_true rfl) dX13_operand_145 h (fun r1 s2 hv h => ?_)
    refine r_if_eq (tgt := 171) dX13_operand_148 (by decide) (fun hc => ?_) (fun hc => ?_)
    · have h := h.1 hc
      exact r_fgt [true, false, false, false] rfl h
    · have h := h.2 hc
      refine r_aload_n dX13_operand_151 rfl rfl ?_
      refine r_bipush dX13_operand_152 (by decide) rfl ?_
      refine r_iconst dX13_operand_154 (by decide) ?_
      refine r_callV (ci := 11) (As := [(0, 30), (0, 0)]) (st := []) (by decide) ok_X13_354 rfl rfl (Nat.le_of_ble_eq_true rfl) dX13_operand_155 h (fun r3 s4 hv h => ?_)
      refine r_aload_n dX13_operand_158 rfl rfl ?_
      refine gf_X13_131 rfl dX13_operand_159 ?_
      refine r_iload_n dX13_operand_162 rfl ?_
      refine r_iconst dX13_operand_163 (by decide) ?_
      obtain ⟨hb, h⟩ := h
      refine r_iast (n := 20) rfl (by decide) dX13_operand_164 hb ?_
      have h := h _ rfl
      generalize hs_s5 : ups s4 116 v1 2 = s5 at h ⊢
      refine r_aload_n dX13_operand_165 rfl rfl ?_
      refine r_callV (ci := 11) (As := []) (st := []) (by decide) ok_X13_274 rfl rfl (Nat.le_of_ble_eq_true rfl) dX13_operand_166 h (fun r6 s7 hv h => ?_)
      refine r_iconst dX13_operand_169 (by decide) ?_
      exact r_zret dX13_operand_170 rfl (by decide) h
set_option maxRecDepth 20000 in
theorem S_X13_operand_171 {g : GT} {e : Nat} {Q : Int → Sg → Prop} {s : Sg} (h : (Mw g e M_X13_isSign [(21, 92), (0, 40)] s (fun r1 s2 => ((r1 = 0 → (Mw g e M_X13_isWord [(21, 92), (2, 7170414)] s2 (fun r3 s4 => ((¬ r3 = 0 → P_X13_operand_217 g e Q s4) ∧ (r3 = 0 → (Mw g e M_X13_isWord [(21, 92), (2, 7168376)] s4 (fun r5 s6 => ((¬ r5 = 0 → P_X13_operand_217 g e Q s6) ∧ (r5 = 0 → (Mw g e M_X13_isWord [(21, 92), (2, 26982)] s6 (fun r7 s8 => ((r7 = 0 → ((¬ (s8 92 3) = 2 → (Mw g e M_X13_isWord [(21, 92), (2, 1952541803)] s8 (fun r9 s10 => ((r9 = 0 → (Mw g e M_X13_isWord [(21, 92), (2, 2002874989)] s10 (fun r11 s12 => ((r11 = 0 → (Mw g e M_X13_isWord [(21, 92), (2, 6383461)] s12 (fun r13 s14 => ((r13 = 0 → (Mw g e M_X13_isWord [(21, 92), (2, 126943973305959)] s14 (fun r15 s16 => ((r15 = 0 → (Mw g e M_X13_isWord [(21, 92), (2, 2036687218)] s16 (fun r17 s18 => ((r17 = 0 → (Mw g e M_X13_isWord [(21, 92), (2, 109330362954597)] s18 (fun r19 s20 => ((r19 = 0 → (Mw g e M_X13_isWord [(21, 92), (2, 1818584692)] s20 (fun r21 s22 => ((r21 = 0 → (Mw g e M_X13_isWord [(21, 92), (2, 504363246962)] s22 (fun r23 s24 => ((r23 = 0 → P_X13_operand_441 g e Q s24 (-1)) ∧ (¬ r23 = 0 → P_X13_operand_441 g e Q s24 8))))) ∧ (¬ r21 = 0 → P_X13_operand_441 g e Q s22 7))))) ∧ (¬ r19 = 0 → P_X13_operand_441 g e Q s20 6))))) ∧ (¬ r17 = 0 → P_X13_operand_441 g e Q s18 5))))) ∧ (¬ r15 = 0 → P_X13_operand_441 g e Q s16 4))))) ∧ (¬ r13 = 0 → P_X13_operand_441 g e Q s14 3))))) ∧ (¬ r11 = 0 → P_X13_operand_441 g e Q s12 2))))) ∧ (¬ r9 = 0 → P_X13_operand_441 g e Q s10 1))))) ∧ ((s8 92 3) = 2 → P_X13_operand_441 g e Q s8 0))) ∧ (¬ r7 = 0 → P_X13_operand_217 g e Q s8))))))))))))) ∧ (¬ r1 = 0 → (Mw g e M_X13_opens [(21, 92), (0, 2)] s2 (fun _ s26 => Q 0 s26))))))) : P_X13_operand_171 g e Q s := by
  refine r_aload_n dX13_operand_171 rfl rfl ?_
  refine r_bipush dX13_operand_172 (by decide) rfl ?_
  refine r_callV (ci := 11) (As := [(0, 40)]) (st := []) (by decide) ok_X13_271 rfl rfl (Nat.le_of_ble_eq_true rfl) dX13_operand_174 h (fun r1 s2 hv h => ?_)
  refine r_if_eq (tgt := 187) dX13_operand_177 (by decide) (fun hc => ?_) (fun hc => ?_)
  · have h := h.1 hc
    refine r_aload_n dX13_operand_187 rfl rfl ?_
    refine r_ldc2 (v := 7170414) dX13_operand_188 lk_X13_335 (by decide) ?_
    refine r_callV (ci := 11) (As := [(2, 7170414)]) (st := []) (by decide) ok_X13_363 rfl rfl (Nat.le_of_ble_eq_true rfl) dX13_operand_191 h (fun r3 s4 hv h => ?_)
    refine r_if_ne (tgt := 217) dX13_operand_194 (by decide) (fun hc => ?_) (fun hc => ?_)
    · have h := h.1 hc
      exact h
    · have h := h.2 hc
      refine r_aload_n dX13_operand_197 rfl rfl ?_
      refine r_ldc2 (v := 7168376) dX13_operand_198 lk_X13_337 (by decide) ?_
      refine r_callV (ci := 11) (As := [(2, 7168376)]) (st := []) (by decide) ok_X13_363 rfl rfl (Nat.le_of_ble_eq_true rfl) dX13_operand_201 h (fun r5 s6 hv h => ?_)
      refine r_if_ne (tgt := 217) dX13_operand_204 (by decide) (fun hc => ?_) (fun hc => ?_)
      · have h := h.1 hc
        exact h
      · have h := h.2 hc
        refine r_aload_n dX13_operand_207 rfl rfl ?_
        refine r_ldc2 (v := 26982) dX13_operand_208 lk_X13_325 (by decide) ?_
        refine r_callV (ci := 11) (As := [(2, 26982)]) (st := []) (by decide) ok_X13_363 rfl rfl (Nat.le_of_ble_eq_true rfl) dX13_operand_211 h (fun r7 s8 hv h => ?_)
        refine r_if_eq (tgt := 313) dX13_operand_214 (by decide) (fun hc => ?_) (fun hc => ?_)
        · have h := h.1 hc
          refine r_aload_n dX13_operand_313 rfl rfl ?_
          refine gf_X13_20 rfl dX13_operand_314 ?_
          refine r_iconst dX13_operand_317 (by decide) ?_
          refine r_icmp_ne (tgt := 325) dX13_operand_318 (by decide) (fun hc => ?_) (fun hc => ?_)
          · have h := h.1 hc
            refine r_aload_n dX13_operand_325 rfl rfl ?_
            refine r_ldc2 (v := 1952541803) dX13_operand_326 lk_X13_279 (by decide) ?_
            refine r_callV (ci := 11) (As := [(2, 1952541803)]) (st := []) (by decide) ok_X13_363 rfl rfl (Nat.le_of_ble_eq_true rfl) dX13_operand_329 h (fun r9 s10 hv h => ?_)
            refine r_if_eq (tgt := 339) dX13_operand_332 (by decide) (fun hc => ?_) (fun hc => ?_)
            · have h := h.1 hc
              refine r_aload_n dX13_operand_339 rfl rfl ?_
              refine r_ldc2 (v := 2002874989) dX13_operand_340 lk_X13_281 (by decide) ?_
              refine r_callV (ci := 11) (As := [(2, 2002874989)]) (st := []) (by decide) ok_X13_363 rfl rfl (Nat.le_of_ble_eq_true rfl) dX13_operand_343 h (fun r11 s12 hv h => ?_)
              refine r_if_eq (tgt := 353) dX13_operand_346 (by decide) (fun hc => ?_) (fun hc => ?_)
              · have h := h.1 hc
                refine r_aload_n dX13_operand_353 rfl rfl ?_
                refine r_ldc2 (v := 6383461) dX13_operand_354 lk_X13_313 (by decide) ?_
                refine r_callV (ci := 11) (As := [(2, 6383461)]) (st := []) (by decide) ok_X13_363 rfl rfl (Nat.le_of_ble_eq_true rfl) dX13_operand_357 h (fun r13 s14 hv h => ?_)
                refine r_if_eq (tgt := 367) dX13_operand_360 (by decide) (fun hc => ?_) (fun hc => ?_)
                · have h := h.1 hc
                  refine r_aload_n dX13_operand_367 rfl rfl ?_
                  refine r_ldc2 (v := 126943973305959) dX13_operand_368 lk_X13_315 (by decide) ?_
                  refine r_callV (ci := 11) (As := [(2, 126943973305959)]) (st := []) (by decide) ok_X13_363 rfl rfl (Nat.le_of_ble_eq_true rfl) dX13_operand_371 h (fun r15 s16 hv h => ?_)
                  refine r_if_eq (tgt := 381) dX13_operand_374 (by decide) (fun hc => ?_) (fun hc => ?_)
                  · have h := h.1 hc
                    refine r_aload_n dX13_operand_381 rfl rfl ?_
                    refine r_ldc2 (v := 2036687218) dX13_operand_382 lk_X13_317 (by decide) ?_
                    refine r_callV (ci := 11) (As := [(2, 2036687218)]) (st := []) (by decide) ok_X13_363 rfl rfl (Nat.le_of_ble_eq_true rfl) dX13_operand_385 h (fun r17 s18 hv h => ?_)
                    refine r_if_eq (tgt := 395) dX13_operand_388 (by decide) (fun hc => ?_) (fun hc => ?_)
                    · have h := h.1 hc
                      refine r_aload_n dX13_operand_395 rfl rfl ?_
                      refine r_ldc2 (v := 109330362954597) dX13_operand_396 lk_X13_319 (by decide) ?_
                      refine r_callV (ci := 11) (As := [(2, 109330362954597)]) (st := []) (by decide) ok_X13_363 rfl rfl (Nat.le_of_ble_eq_true rfl) dX13_operand_399 h (fun r19 s20 hv h => ?_)
                      refine r_if_eq (tgt := 410) dX13_operand_402 (by decide) (fun hc => ?_) (fun hc => ?_)
                      · have h := h.1 hc
                        refine r_aload_n dX13_operand_410 rfl rfl ?_
                        refine r_ldc2 (v := 1818584692) dX13_operand_411 lk_X13_321 (by decide) ?_
                        refine r_callV (ci := 11) (As := [(2, 1818584692)]) (st := []) (by decide) ok_X13_363 rfl rfl (Nat.le_of_ble_eq_true rfl) dX13_operand_414 h (fun r21 s22 hv h => ?_)
                        refine r_if_eq (tgt := 425) dX13_operand_417 (by decide) (fun hc => ?_) (fun hc => ?_)
                        · have h := h.1 hc
                          refine r_aload_n dX13_operand_425 rfl rfl ?_
                          refine r_ldc2 (v := 504363246962) dX13_operand_426 lk_X13_323 (by decide) ?_
                          refine r_callV (ci := 11) (As := [(2, 504363246962)]) (st := []) (by decide) ok_X13_363 rfl rfl (Nat.le_of_ble_eq_true rfl) dX13_operand_429 h (fun r23 s24 hv h => ?_)
                          refine r_if_eq (tgt := 440) dX13_operand_432 (by decide) (fun hc => ?_) (fun hc => ?_)
                          · have h := h.1 hc
                            refine r_iconst dX13_operand_440 (by decide) ?_
                            exact h
                          · have h := h.2 hc
                            refine r_bipush dX13_operand_435 (by decide) rfl ?_
                            refine r_goto (tgt := 441) dX13_operand_437 (by decide) ?_
                            exact h
                        · have h := h.2 hc
                          refine r_bipush dX13_operand_420 (by decide) rfl ?_
                          refine r_goto (tgt := 441) dX13_operand_422 (by decide) ?_
                          exact h
                      · have h := h.2 hc
                        refine r_bipush dX13_operand_405 (by decide) rfl ?_
                        refine r_goto (tgt := 441) dX13_operand_407 (by decide) ?_
                        exact h
                    · have h := h.2 hc
                      refine r_iconst dX13_operand_391 (by decide) ?_
                      refine r_goto (tgt := 441) dX13_operand_392 (by decide) ?_
                      exact h
                  · have h := h.2 hc
                    refine r_iconst dX13_operand_377 (by decide) ?_
                    refine r_goto (tgt := 441) dX13_operand_378 (by decide) ?_
                    exact h
                · have h := h.2 hc
                  refine r_iconst dX13_operand_363 (by decide) ?_
                  refine r_goto (tgt := 441) dX13_operand_364 (by decide) ?_
                  exact h
              · have h := h.2 hc
                refine r_iconst dX13_operand_349 (by decide) ?_
                refine r_goto (tgt := 441) dX13_operand_350 (by decide) ?_
                exact h
            · have h := h.2 hc
              refine r_iconst dX13_operand_335 (by decide) ?_
              refine r_goto (tgt := 441) dX13_operand_336 (by decide) ?_
              exact h
          · have h := h.2 hc
            refine r_iconst dX13_operand_321 (by decide) ?_
            refine r_goto (tgt := 441) dX13_operand_322 (by decide) ?_
            exact h
        · have h := h.2 hc
          exact h
  · have h := h.2 hc
    refine r_aload_n dX13_operand_180 rfl rfl ?_
    refine r_iconst dX13_operand_181 (by decide) ?_
    refine r_callV (ci := 11) (As := [(0, 2)]) (st := []) (by decide) ok_X13_370 rfl rfl (Nat.le_of_ble_eq_true rfl) dX13_operand_182 h (fun r25 s26 hv h => ?_)
    refine r_iconst dX13_operand_185 (by decide) ?_
    exact r_zret dX13_operand_186 rfl (by decide) h
set_option maxRecDepth 20000 in
theorem S_X13_operand_217 {g : GT} {e : Nat} {Q : Int → Sg → Prop} {s : Sg} (h : (Mw g e M_X13_isWord [(21, 92), (2, 7170414)] s (fun r1 s2 => ((r1 = 0 → (Mw g e M_X13_isWord [(21, 92), (2, 7168376)] s2 (fun r3 s4 => ((r3 = 0 → P_X13_operand_249 g e Q s4 44) ∧ (¬ r3 = 0 → P_X13_operand_249 g e Q s4 37))))) ∧ (¬ r1 = 0 → P_X13_operand_249 g e Q s2 36))))) : P_X13_operand_217 g e Q s := by
  refine r_aload_n dX13_operand_217 rfl rfl ?_
  refine r_ldc2 (v := 7170414) dX13_operand_218 lk_X13_335 (by decide) ?_
  refine r_callV (ci := 11) (As := [(2, 7170414)]) (st := []) (by decide) ok_X13_363 rfl rfl (Nat.le_of_ble_eq_true rfl) dX13_operand_221 h (fun r1 s2 hv h => ?_)
  refine r_if_eq (tgt := 232) dX13_operand_224 (by decide) (fun hc => ?_) (fun hc => ?_)
  · have h := h.1 hc
    refine r_aload_n dX13_operand_232 rfl rfl ?_
    refine r_ldc2 (v := 7168376) dX13_operand_233 lk_X13_337 (by decide) ?_
    refine r_callV (ci := 11) (As := [(2, 7168376)]) (st := []) (by decide) ok_X13_363 rfl rfl (Nat.le_of_ble_eq_true rfl) dX13_operand_236 h (fun r3 s4 hv h => ?_)
    refine r_if_eq (tgt := 247) dX13_operand_239 (by decide) (fun hc => ?_) (fun hc => ?_)
    · have h := h.1 hc
      refine r_bipush dX13_operand_247 (by decide) rfl ?_
      exact h
    · have h := h.2 hc
      refine r_bipush dX13_operand_242 (by decide) rfl ?_
      refine r_goto (tgt := 249) dX13_operand_244 (by decide) ?_
      exact h
  · have h := h.2 hc
    refine r_bipush dX13_operand_227 (by decide) rfl ?_
    refine r_goto (tgt := 249) dX13_operand_229 (by decide) ?_
    exact h
set_option maxRecDepth 20000 in
theorem S_X13_operand_249 {g : GT} {e : Nat} {Q : Int → Sg → Prop} {s : Sg} {x0 : Int} (h : (Mw g e M_X13_ahead [(21, 92)] s (fun _ s2 => (Mw g e M_X13_lex [(21, 92)] s2 (fun _ s4 => (Mw g e M_X13_isSign [(21, 92), (0, 40)] s4 (fun r5 s6 => ((¬ r5 = 0 → P_X13_operand_276 g e Q s6 x0) ∧ (r5 = 0 → (Mw g e M_X13_blame [(21, 92), (0, 1), (0, (s6 92 4))] s6 (fun _ s8 => P_X13_operand_276 g e Q s8 x0))))))))))) : P_X13_operand_249 g e Q s x0 := by
  refine r_istore_n (ls2 := [(21, 92), (9, 0), (9, 0), (0, x0)]) dX13_operand_249 (by decide) rfl ?_
  refine r_aload_n dX13_operand_250 rfl rfl ?_
  refine r_callV (ci := 11) (As := []) (st := []) (by decide) ok_X13_274 rfl rfl (Nat.le_of_ble_eq_true rfl) dX13_operand_251 h (fun r1 s2 hv h => ?_)
  refine r_aload_n dX13_operand_254 rfl rfl ?_
  refine r_callV (ci := 11) (As := []) (st := []) (by decide) ok_X13_268 rfl rfl (Nat.le_of_ble_eq_true rfl) dX13_operand_255 h (fun r3 s4 hv h => ?_)
  refine r_aload_n dX13_operand_258 rfl rfl ?_
  refine r_bipush dX13_operand_259 (by decide) rfl ?_
  refine r_callV (ci := 11) (As := [(0, 40)]) (st := []) (by decide) ok_X13_271 rfl rfl (Nat.le_of_ble_eq_true rfl) dX13_operand_261 h (fun r5 s6 hv h => ?_)
  refine r_if_ne (tgt := 276) dX13_operand_264 (by decide) (fun hc => ?_) (fun hc => ?_)
  · have h := h.1 hc
    exact h
  · have h := h.2 hc
    refine r_aload_n dX13_operand_267 rfl rfl ?_
    refine r_iconst dX13_operand_268 (by decide) ?_
    refine r_aload_n dX13_operand_269 rfl rfl ?_
    refine gf_X13_23 rfl dX13_operand_270 ?_
    refine r_callV (ci := 11) (As := [(0, 1), (0, (s6 92 4))]) (st := []) (by decide) ok_X13_257 rfl rfl (Nat.le_of_ble_eq_true rfl) dX13_operand_273 h (fun r7 s8 hv h => ?_)
    exact h
set_option maxRecDepth 20000 in
theorem S_X13_operand_276 {g : GT} {e : Nat} {Q : Int → Sg → Prop} {s : Sg} {v3 : Int} (h : ((¬ v3 = 44 → P_X13_operand_289 g e Q s v3 3) ∧ (v3 = 44 → P_X13_operand_289 g e Q s v3 6))) : P_X13_operand_276 g e Q s v3 := by
  refine r_aload_n dX13_operand_276 rfl rfl ?_
  refine r_iload_n dX13_operand_277 rfl ?_
  refine r_bipush dX13_operand_278 (by decide) rfl ?_
  refine r_icmp_ne (tgt := 288) dX13_operand_280 (by decide) (fun hc => ?_) (fun hc => ?_)
  · have h := h.1 hc
    refine r_iconst dX13_operand_288 (by decide) ?_
    exact h
  · have h := h.2 hc
    refine r_bipush dX13_operand_283 (by decide) rfl ?_
    refine r_goto (tgt := 289) dX13_operand_285 (by decide) ?_
    exact h
set_option maxRecDepth 20000 in
theorem S_X13_operand_289 {g : GT} {e : Nat} {Q : Int → Sg → Prop} {s : Sg} {v3 : Int} {x1 : Int} (h : (Mw g e M_X13_opens [(21, 92), (0, x1)] s (fun _ s2 => ((¬ (s2 92 8) = 0 → Q 0 s2) ∧ ((s2 92 8) = 0 → ((0 ≤ (w32 ((s2 92 43) - 1)) ∧ (w32 ((s2 92 43) - 1)) < 20) ∧ ∀ s3, s3 = ups s2 118 (w32 ((s2 92 43) - 1)) v3 → Q 0 s3)))))) : P_X13_operand_289 g e Q s v3 x1 := by
  refine r_callV (ci := 11) (As := [(0, x1)]) (st := []) (by decide) ok_X13_370 rfl rfl (Nat.le_of_ble_eq_true rfl) dX13_operand_289 h (fun r1 s2 hv h => ?_)
  refine r_aload_n dX13_operand_292 rfl rfl ?_
  refine gf_X13_36 rfl dX13_operand_293 ?_
  refine r_if_ne (tgt := 311) dX13_operand_296 (by decide) (fun hc => ?_) (fun hc => ?_)
  · have h := h.1 hc
    refine r_iconst dX13_operand_311 (by decide) ?_
    exact r_zret dX13_operand_312 rfl (by decide) h
  · have h := h.2 hc
    refine r_aload_n dX13_operand_299 rfl rfl ?_
    refine gf_X13_138 rfl dX13_operand_300 ?_
    refine r_aload_n dX13_operand_303 rfl rfl ?_
    refine gf_X13_144 rfl dX13_operand_304 ?_
    refine r_iconst dX13_operand_307 (by decide) ?_
    refine r_isub dX13_operand_308 ?_
    refine r_iload_n dX13_operand_309 rfl ?_
    obtain ⟨hb, h⟩ := h
    refine r_iast (n := 20) rfl (by decide) dX13_operand_310 hb ?_
    have h := h _ rfl
    generalize hs_s3 : ups s2 118 (w32 ((s2 92 43) - 1)) v3 = s3 at h ⊢
    refine r_iconst dX13_operand_311 (by decide) ?_
    exact r_zret dX13_operand_312 rfl (by decide) h
set_option maxRecDepth 20000 in
theorem S_X13_operand_441 {g : GT} {e : Nat} {Q : Int → Sg → Prop} {s : Sg} {x0 : Int} (h : ((x0 ≤ 5 → P_X13_operand_456 g e Q s x0) ∧ (¬ x0 ≤ 5 → ((¬ (s 92 37) = 0 → P_X13_operand_456 g e Q s x0) ∧ ((s 92 37) = 0 → P_X13_operand_456 g e Q s (-1)))))) : P_X13_operand_441 g e Q s x0 := by
  refine r_istore_n (ls2 := [(21, 92), (9, 0), (9, 0), (0, x0)]) dX13_operand_441 (by decide) rfl ?_
  refine r_iload_n dX13_operand_442 rfl ?_
  refine r_iconst dX13_operand_443 (by decide) ?_
  refine r_icmp_le (tgt := 456) dX13_operand_444 (by decide) (fun hc => ?_) (fun hc => ?_)
  · have h := h.1 hc
    exact h
  · have h := h.2 hc
    refine r_aload_n dX13_operand_447 rfl rfl ?_
    refine gf_X13_124 rfl dX13_operand_448 ?_
    refine r_if_ne (tgt := 456) dX13_operand_451 (by decide) (fun hc => ?_) (fun hc => ?_)
    · have h := h.1 hc
      exact h
    · have h := h.2 hc
      refine r_iconst dX13_operand_454 (by decide) ?_
      refine r_istore_n (ls2 := [(21, 92), (9, 0), (9, 0), (0, (-1))]) dX13_operand_455 (by decide) rfl ?_
      exact h
set_option maxRecDepth 20000 in
theorem S_X13_operand_456 {g : GT} {e : Nat} {Q : Int → Sg → Prop} {s : Sg} {v3 : Int} (h : ((¬ v3 = (-1) → P_X13_operand_470 g e Q s v3) ∧ (v3 = (-1) → (Mw g e M_X13_blame [(21, 92), (0, 1), (0, (s 92 4))] s (fun _ s2 => P_X13_operand_470 g e Q s2 v3))))) : P_X13_operand_456 g e Q s v3 := by
  refine r_iload_n dX13_operand_456 rfl ?_
  refine r_iconst dX13_operand_457 (by decide) ?_
  refine r_icmp_ne (tgt := 470) dX13_operand_458 (by decide) (fun hc => ?_) (fun hc => ?_)
  · have h := h.1 hc
    exact h
  · have h := h.2 hc
    refine r_aload_n dX13_operand_461 rfl rfl ?_
    refine r_iconst dX13_operand_462 (by decide) ?_
    refine r_aload_n dX13_operand_463 rfl rfl ?_
    refine gf_X13_23 rfl dX13_operand_464 ?_
    refine r_callV (ci := 11) (As := [(0, 1), (0, (s 92 4))]) (st := []) (by decide) ok_X13_257 rfl rfl (Nat.le_of_ble_eq_true rfl) dX13_operand_467 h (fun r1 s2 hv h => ?_)
    exact h
set_option maxRecDepth 20000 in
theorem S_X13_operand_470 {g : GT} {e : Nat} {Q : Int → Sg → Prop} {s : Sg} {v3 : Int} (h : (((s 92 8) ≤ 0 → (Mw g e M_X13_add [(21, 92), (0, v3), (0, (s 92 6))] s (fun _ s2 => (Mw g e M_X13_ahead [(21, 92)] s2 (fun _ s4 => Q 1 s4))))) ∧ (¬ (s 92 8) ≤ 0 → Q 1 s))) : P_X13_operand_470 g e Q s v3 := by
  refine r_aload_n dX13_operand_470 rfl rfl ?_
  refine gf_X13_36 rfl dX13_operand_471 ?_
  refine r_if_le (tgt := 479) dX13_operand_474 (by decide) (fun hc => ?_) (fun hc => ?_)
  · have h := h.1 hc
    refine r_aload_n dX13_operand_479 rfl rfl ?_
    refine r_iload_n dX13_operand_480 rfl ?_
    refine r_aload_n dX13_operand_481 rfl rfl ?_
    refine gf_X13_29 rfl dX13_operand_482 ?_
    refine r_callV (ci := 11) (As := [(0, v3), (0, (s 92 6))]) (st := []) (by decide) ok_X13_354 rfl rfl (Nat.le_of_ble_eq_true rfl) dX13_operand_485 h (fun r1 s2 hv h => ?_)
    refine r_aload_n dX13_operand_488 rfl rfl ?_
    refine r_callV (ci := 11) (As := []) (st := []) (by decide) ok_X13_274 rfl rfl (Nat.le_of_ble_eq_true rfl) dX13_operand_489 h (fun r3 s4 hv h => ?_)
    refine r_iconst dX13_operand_492 (by decide) ?_
    exact r_zret dX13_operand_493 rfl (by decide) h
  · have h := h.2 hc
    refine r_iconst dX13_operand_477 (by decide) ?_
    exact r_zret dX13_operand_478 rfl (by decide) h
set_option maxRecDepth 20000 in
theorem S_X13_operand {g : GT} {e : Nat} {Q : Int → Sg → Prop} {s : Sg} (h : (Mw g e M_X13_lex [(21, 92)] s (fun _ s2 => (((s2 92 8) ≤ 0 → ((0 ≤ (w32 ((s2 92 43) - 1)) ∧ (w32 ((s2 92 43) - 1)) < 20) ∧ (Mw g e M_X13_isTest [(0, (s2 115 (w32 ((s2 92 43) - 1))))] s2 (fun r3 s4 => ((r3 = 0 → P_X13_operand_45 g e Q s4 (w32 ((s2 92 43) - 1))) ∧ (¬ r3 = 0 → ((0 ≤ (w32 ((s2 92 43) - 1)) ∧ (w32 ((s2 92 43) - 1)) < 20) ∧ (((s4 117 (w32 ((s2 92 43) - 1))) = 0 → P_X13_operand_45 g e Q s4 (w32 ((s2 92 43) - 1))) ∧ (¬ (s4 117 (w32 ((s2 92 43) - 1))) = 0 → P_X13_operand_46 g e Q s4 (w32 ((s2 92 43) - 1)) 1))))))))) ∧ (¬ (s2 92 8) ≤ 0 → Q 1 s2))))) : Mw g (e + 1) M_X13_operand [(21, 92)] s Q := by
  refine Mw.of (ls := [(21, 92), (9, 0), (9, 0), (9, 0)]) pn_X13_operand (Nat.le_of_ble_eq_true rfl) rfl (fun hv => ?_)
  refine r_aload_n dX13_operand_0 rfl rfl ?_
  refine r_callV (ci := 11) (As := []) (st := []) (by decide) ok_X13_268 rfl rfl (Nat.le_of_ble_eq_true rfl) dX13_operand_1 h (fun r1 s2 hv h => ?_)
  refine r_aload_n dX13_operand_4 rfl rfl ?_
  refine gf_X13_36 rfl dX13_operand_5 ?_
  refine r_if_le (tgt := 13) dX13_operand_8 (by decide) (fun hc => ?_) (fun hc => ?_)
  · have h := h.1 hc
    refine r_aload_n dX13_operand_13 rfl rfl ?_
    refine gf_X13_144 rfl dX13_operand_14 ?_
    refine r_iconst dX13_operand_17 (by decide) ?_
    refine r_isub dX13_operand_18 ?_
    refine r_istore_n (ls2 := [(21, 92), (0, (w32 ((s2 92 43) - 1))), (9, 0), (9, 0)]) dX13_operand_19 (by decide) rfl ?_
    refine r_aload_n dX13_operand_20 rfl rfl ?_
    refine gf_X13_128 rfl dX13_operand_21 ?_
    refine r_iload_n dX13_operand_24 rfl ?_
    obtain ⟨hb, h⟩ := h
    refine r_iald (n := 20) rfl (by decide) dX13_operand_25 hb ?_
    refine r_callS (As := [(0, (s2 115 (w32 ((s2 92 43) - 1))))]) (st := []) ok_X13_360 rfl rfl (Nat.le_of_ble_eq_true rfl) dX13_operand_26 h (fun r3 s4 hv h => ?_)
    refine r_if_eq (tgt := 45) dX13_operand_29 (by decide) (fun hc => ?_) (fun hc => ?_)
    · have h := h.1 hc
      exact h
    · have h := h.2 hc
      refine r_aload_n dX13_operand_32 rfl rfl ?_
      refine gf_X13_134 rfl dX13_operand_33 ?_
      refine r_iload_n dX13_operand_36 rfl ?_
      obtain ⟨hb, h⟩ := h
      refine r_zald (n := 20) rfl (by decide) dX13_operand_37 hb ?_
      refine r_if_eq (tgt := 45) dX13_operand_38 (by decide) (fun hc => ?_) (fun hc => ?_)
      · have h := h.1 hc
        exact h
      · have h := h.2 hc
        refine r_iconst dX13_operand_41 (by decide) ?_
        refine r_goto (tgt := 46) dX13_operand_42 (by decide) ?_
        exact h
  · have h := h.2 hc
    refine r_iconst dX13_operand_11 (by decide) ?_
    exact r_zret dX13_operand_12 rfl (by decide) h
abbrev P_X13_goesOn_87 (g : GT) (e : Nat) (Q : Int → Sg → Prop) (s : Sg) : Prop := Wp g (e + 1) M_X13_goesOn Q 87 [(21, 92), (9, 0), (9, 0), (9, 0), (9, 0)] [] s
abbrev P_X13_goesOn_106 (g : GT) (e : Nat) (Q : Int → Sg → Prop) (s : Sg) : Prop := Wp g (e + 1) M_X13_goesOn Q 106 [(21, 92), (9, 0), (9, 0), (9, 0), (9, 0)] [(21, 92)] s
abbrev P_X13_goesOn_112 (g : GT) (e : Nat) (Q : Int → Sg → Prop) (s : Sg) (x1 : Int) : Prop := Wp g (e + 1) M_X13_goesOn Q 112 [(21, 92), (9, 0), (9, 0), (9, 0), (9, 0)] [(0, x1), (21, 92)] s
abbrev P_X13_goesOn_174 (g : GT) (e : Nat) (Q : Int → Sg → Prop) (s : Sg) (x1 : Int) : Prop := Wp g (e + 1) M_X13_goesOn Q 174 [(21, 92), (9, 0), (9, 0), (9, 0), (9, 0)] [(0, x1), (21, 92)] s
abbrev P_X13_goesOn_188 (g : GT) (e : Nat) (Q : Int → Sg → Prop) (s : Sg) (v1 : Int) (v2 : Int) (v3 : Int) : Prop := Wp g (e + 1) M_X13_goesOn Q 188 [(21, 92), (0, v1), (0, v2), (0, v3), (9, 0)] [] s
abbrev P_X13_goesOn_228 (g : GT) (e : Nat) (Q : Int → Sg → Prop) (s : Sg) (v1 : Int) : Prop := Wp g (e + 1) M_X13_goesOn Q 228 [(21, 92), (0, v1), (9, 0), (9, 0), (9, 0)] [] s
abbrev P_X13_goesOn_264 (g : GT) (e : Nat) (Q : Int → Sg → Prop) (s : Sg) (v1 : Int) (x1 : Int) : Prop := Wp g (e + 1) M_X13_goesOn Q 264 [(21, 92), (0, v1), (9, 0), (9, 0), (9, 0)] [(0, x1), (21, 92)] s
abbrev P_X13_goesOn_285 (g : GT) (e : Nat) (Q : Int → Sg → Prop) (s : Sg) (v1 : Int) (v2 : Int) (v3 : Int) : Prop := Wp g (e + 1) M_X13_goesOn Q 285 [(21, 92), (0, v1), (0, v2), (0, v3), (9, 0)] [] s
abbrev P_X13_goesOn_309 (g : GT) (e : Nat) (Q : Int → Sg → Prop) (s : Sg) (v1 : Int) : Prop := Wp g (e + 1) M_X13_goesOn Q 309 [(21, 92), (0, v1), (9, 0), (9, 0), (9, 0)] [] s
abbrev P_X13_goesOn_327 (g : GT) (e : Nat) (Q : Int → Sg → Prop) (s : Sg) (v1 : Int) : Prop := Wp g (e + 1) M_X13_goesOn Q 327 [(21, 92), (0, v1), (9, 0), (9, 0), (9, 0)] [] s
abbrev P_X13_goesOn_356 (g : GT) (e : Nat) (Q : Int → Sg → Prop) (s : Sg) (v1 : Int) (v4 : Int) (x1 : Int) : Prop := Wp g (e + 1) M_X13_goesOn Q 356 [(21, 92), (0, v1), (9, 0), (9, 0), (0, v4)] [(0, x1), (21, 92)] s
abbrev P_X13_goesOn_372 (g : GT) (e : Nat) (Q : Int → Sg → Prop) (s : Sg) (v1 : Int) (x1 : Int) : Prop := Wp g (e + 1) M_X13_goesOn Q 372 [(21, 92), (0, v1), (9, 0), (9, 0), (9, 0)] [(0, x1), (21, 92)] s
abbrev P_X13_goesOn_400 (g : GT) (e : Nat) (Q : Int → Sg → Prop) (s : Sg) (v1 : Int) (v2 : Int) (v3 : Int) : Prop := Wp g (e + 1) M_X13_goesOn Q 400 [(21, 92), (0, v1), (0, v2), (0, v3), (9, 0)] [] s
abbrev P_X13_goesOn_422 (g : GT) (e : Nat) (Q : Int → Sg → Prop) (s : Sg) (v1 : Int) (v2 : Int) : Prop := Wp g (e + 1) M_X13_goesOn Q 422 [(21, 92), (0, v1), (0, v2), (9, 0), (9, 0)] [] s
abbrev P_X13_goesOn_452 (g : GT) (e : Nat) (Q : Int → Sg → Prop) (s : Sg) (v1 : Int) (v2 : Int) : Prop := Wp g (e + 1) M_X13_goesOn Q 452 [(21, 92), (0, v1), (0, v2), (9, 0), (9, 0)] [] s
abbrev P_X13_goesOn_470 (g : GT) (e : Nat) (Q : Int → Sg → Prop) (s : Sg) (v1 : Int) (v2 : Int) : Prop := Wp g (e + 1) M_X13_goesOn Q 470 [(21, 92), (0, v1), (0, v2), (9, 0), (9, 0)] [] s
abbrev P_X13_goesOn_499 (g : GT) (e : Nat) (Q : Int → Sg → Prop) (s : Sg) (v1 : Int) (x1 : Int) (x2 : Int) : Prop := Wp g (e + 1) M_X13_goesOn Q 499 [(21, 92), (0, v1), (9, 0), (9, 0), (9, 0)] [(0, x2), (0, x1), (48, 115)] s
abbrev P_X13_goesOn_531 (g : GT) (e : Nat) (Q : Int → Sg → Prop) (s : Sg) (v1 : Int) (v2 : Int) (x1 : Int) : Prop := Wp g (e + 1) M_X13_goesOn Q 531 [(21, 92), (0, v1), (0, v2), (9, 0), (9, 0)] [(0, x1), (21, 92)] s
abbrev P_X13_goesOn_546 (g : GT) (e : Nat) (Q : Int → Sg → Prop) (s : Sg) (v1 : Int) (v2 : Int) : Prop := Wp g (e + 1) M_X13_goesOn Q 546 [(21, 92), (0, v1), (0, v2), (9, 0), (9, 0)] [] s
abbrev P_X13_goesOn_596 (g : GT) (e : Nat) (Q : Int → Sg → Prop) (s : Sg) (v2 : Int) : Prop := Wp g (e + 1) M_X13_goesOn Q 596 [(21, 92), (9, 0), (0, v2), (9, 0), (9, 0)] [] s
abbrev P_X13_goesOn_613 (g : GT) (e : Nat) (Q : Int → Sg → Prop) (s : Sg) : Prop := Wp g (e + 1) M_X13_goesOn Q 613 [(21, 92), (9, 0), (9, 0), (9, 0), (9, 0)] [] s
set_option maxRecDepth 20000 in
theorem S_X13_goesOn_87 {g : GT} {e : Nat} {Q : Int → Sg → Prop} {s : Sg} (h : (Mw g e M_X13_isSign [(21, 92), (0, 43)] s (fun r1 s2 => ((¬ r1 = 0 → P_X13_goesOn_106 g e Q s2) ∧ (r1 = 0 → (Mw g e M_X13_isSign [(21, 92), (0, 45)] s2 (fun r3 s4 => ((r3 = 0 → P_X13_goesOn_112 g e Q s4 6) ∧ (¬ r3 = 0 → P_X13_goesOn_106 g e Q s4))))))))) : P_X13_goesOn_87 g e Q s := by
  refine r_aload_n dX13_goesOn_87 rfl rfl ?_
  refine r_aload_n dX13_goesOn_88 rfl rfl ?_
  refine r_bipush dX13_goesOn_89 (by decide) rfl ?_
  refine r_callV (ci := 11) (As := [(0, 43)]) (st := [(21, 92)]) (by decide) ok_X13_271 rfl rfl (Nat.le_of_ble_eq_true rfl) dX13_goesOn_91 h (fun r1 s2 hv h => ?_)
  refine r_if_ne (tgt := 106) dX13_goesOn_94 (by decide) (fun hc => ?_) (fun hc => ?_)
  · have h := h.1 hc
    exact h
  · have h := h.2 hc
    refine r_aload_n dX13_goesOn_97 rfl rfl ?_
    refine r_bipush dX13_goesOn_98 (by decide) rfl ?_
    refine r_callV (ci := 11) (As := [(0, 45)]) (st := [(21, 92)]) (by decide) ok_X13_271 rfl rfl (Nat.le_of_ble_eq_true rfl) dX13_goesOn_100 h (fun r3 s4 hv h => ?_)
    refine r_if_eq (tgt := 110) dX13_goesOn_103 (by decide) (fun hc => ?_) (fun hc => ?_)
    · have h := h.1 hc
      refine r_bipush dX13_goesOn_110 (by decide) rfl ?_
      exact h
    · have h := h.2 hc
      exact h
set_option maxRecDepth 20000 in
theorem S_X13_goesOn_106 {g : GT} {e : Nat} {Q : Int → Sg → Prop} {s : Sg} (h : P_X13_goesOn_112 g e Q s 5) : P_X13_goesOn_106 g e Q s := by
  refine r_iconst dX13_goesOn_106 (by decide) ?_
  refine r_goto (tgt := 112) dX13_goesOn_107 (by decide) ?_
  exact h
set_option maxRecDepth 20000 in
theorem S_X13_goesOn_112 {g : GT} {e : Nat} {Q : Int → Sg → Prop} {s : Sg} {x1 : Int} (h : (Mw g e M_X13_joins [(21, 92), (0, x1)] s (fun _ s2 => (Mw g e M_X13_isSign [(21, 92), (0, 43)] s2 (fun r3 s4 => ((r3 = 0 → (Mw g e M_X13_isSign [(21, 92), (0, 45)] s4 (fun r5 s6 => ((r5 = 0 → (Mw g e M_X13_isSign [(21, 92), (0, 42)] s6 (fun r7 s8 => ((r7 = 0 → (Mw g e M_X13_isSign [(21, 92), (0, 47)] s8 (fun r9 s10 => ((r9 = 0 → P_X13_goesOn_174 g e Q s10 35) ∧ (¬ r9 = 0 → P_X13_goesOn_174 g e Q s10 34))))) ∧ (¬ r7 = 0 → P_X13_goesOn_174 g e Q s8 33))))) ∧ (¬ r5 = 0 → P_X13_goesOn_174 g e Q s6 32))))) ∧ (¬ r3 = 0 → P_X13_goesOn_174 g e Q s4 31))))))) : P_X13_goesOn_112 g e Q s x1 := by
  refine r_callV (ci := 11) (As := [(0, x1)]) (st := []) (by decide) ok_X13_373 rfl rfl (Nat.le_of_ble_eq_true rfl) dX13_goesOn_112 h (fun r1 s2 hv h => ?_)
  refine r_aload_n dX13_goesOn_115 rfl rfl ?_
  refine r_aload_n dX13_goesOn_116 rfl rfl ?_
  refine r_bipush dX13_goesOn_117 (by decide) rfl ?_
  refine r_callV (ci := 11) (As := [(0, 43)]) (st := [(21, 92)]) (by decide) ok_X13_271 rfl rfl (Nat.le_of_ble_eq_true rfl) dX13_goesOn_119 h (fun r3 s4 hv h => ?_)
  refine r_if_eq (tgt := 130) dX13_goesOn_122 (by decide) (fun hc => ?_) (fun hc => ?_)
  · have h := h.1 hc
    refine r_aload_n dX13_goesOn_130 rfl rfl ?_
    refine r_bipush dX13_goesOn_131 (by decide) rfl ?_
    refine r_callV (ci := 11) (As := [(0, 45)]) (st := [(21, 92)]) (by decide) ok_X13_271 rfl rfl (Nat.le_of_ble_eq_true rfl) dX13_goesOn_133 h (fun r5 s6 hv h => ?_)
    refine r_if_eq (tgt := 144) dX13_goesOn_136 (by decide) (fun hc => ?_) (fun hc => ?_)
    · have h := h.1 hc
      refine r_aload_n dX13_goesOn_144 rfl rfl ?_
      refine r_bipush dX13_goesOn_145 (by decide) rfl ?_
      refine r_callV (ci := 11) (As := [(0, 42)]) (st := [(21, 92)]) (by decide) ok_X13_271 rfl rfl (Nat.le_of_ble_eq_true rfl) dX13_goesOn_147 h (fun r7 s8 hv h => ?_)
      refine r_if_eq (tgt := 158) dX13_goesOn_150 (by decide) (fun hc => ?_) (fun hc => ?_)
      · have h := h.1 hc
        refine r_aload_n dX13_goesOn_158 rfl rfl ?_
        refine r_bipush dX13_goesOn_159 (by decide) rfl ?_
        refine r_callV (ci := 11) (As := [(0, 47)]) (st := [(21, 92)]) (by decide) ok_X13_271 rfl rfl (Nat.le_of_ble_eq_true rfl) dX13_goesOn_161 h (fun r9 s10 hv h => ?_)
        refine r_if_eq (tgt := 172) dX13_goesOn_164 (by decide) (fun hc => ?_) (fun hc => ?_)
        · have h := h.1 hc
          refine r_bipush dX13_goesOn_172 (by decide) rfl ?_
          exact h
        · have h := h.2 hc
          refine r_bipush dX13_goesOn_167 (by decide) rfl ?_
          refine r_goto (tgt := 174) dX13_goesOn_169 (by decide) ?_
          exact h
      · have h := h.2 hc
        refine r_bipush dX13_goesOn_153 (by decide) rfl ?_
        refine r_goto (tgt := 174) dX13_goesOn_155 (by decide) ?_
        exact h
    · have h := h.2 hc
      refine r_bipush dX13_goesOn_139 (by decide) rfl ?_
      refine r_goto (tgt := 174) dX13_goesOn_141 (by decide) ?_
      exact h
  · have h := h.2 hc
    refine r_bipush dX13_goesOn_125 (by decide) rfl ?_
    refine r_goto (tgt := 174) dX13_goesOn_127 (by decide) ?_
    exact h
set_option maxRecDepth 20000 in
theorem S_X13_goesOn_174 {g : GT} {e : Nat} {Q : Int → Sg → Prop} {s : Sg} {x1 : Int} (h : (Mw g e M_X13_holdsBack [(21, 92), (0, x1)] s (fun _ s2 => (Mw g e M_X13_ahead [(21, 92)] s2 (fun _ s4 => (∀ s5, s5 = ups s4 92 47 0 → Q 1 s5)))))) : P_X13_goesOn_174 g e Q s x1 := by
  refine r_callV (ci := 11) (As := [(0, x1)]) (st := []) (by decide) ok_X13_367 rfl rfl (Nat.le_of_ble_eq_true rfl) dX13_goesOn_174 h (fun r1 s2 hv h => ?_)
  refine r_aload_n dX13_goesOn_177 rfl rfl ?_
  refine r_callV (ci := 11) (As := []) (st := []) (by decide) ok_X13_274 rfl rfl (Nat.le_of_ble_eq_true rfl) dX13_goesOn_178 h (fun r3 s4 hv h => ?_)
  refine r_aload_n dX13_goesOn_181 rfl rfl ?_
  refine r_iconst dX13_goesOn_182 (by decide) ?_
  refine pf_X13_156 rfl (by decide) dX13_goesOn_183 ?_
  have h := h _ rfl
  generalize hs_s5 : ups s4 92 47 0 = s5 at h ⊢
  refine r_iconst dX13_goesOn_186 (by decide) ?_
  exact r_zret dX13_goesOn_187 rfl (by decide) h
set_option maxRecDepth 20000 in
theorem S_X13_goesOn_188 {g : GT} {e : Nat} {Q : Int → Sg → Prop} {s : Sg} {v1 : Int} {v2 : Int} {v3 : Int} (h : ((v3 = 0 → P_X13_goesOn_285 g e Q s v1 v2 v3) ∧ (¬ v3 = 0 → ((0 ≤ v1 ∧ v1 < 20) ∧ ((¬ (s 116 v1) = 0 → P_X13_goesOn_285 g e Q s v1 v2 v3) ∧ ((s 116 v1) = 0 → (Mw g e M_X13_isSign [(21, 92), (0, 60)] s (fun r1 s2 => ((¬ r1 = 0 → P_X13_goesOn_228 g e Q s2 v1) ∧ (r1 = 0 → (Mw g e M_X13_isSign [(21, 92), (0, 62)] s2 (fun r3 s4 => ((¬ r3 = 0 → P_X13_goesOn_228 g e Q s4 v1) ∧ (r3 = 0 → (Mw g e M_X13_isSign [(21, 92), (0, 61)] s4 (fun r5 s6 => ((r5 = 0 → P_X13_goesOn_285 g e Q s6 v1 v2 v3) ∧ (¬ r5 = 0 → P_X13_goesOn_228 g e Q s6 v1)))))))))))))))))) : P_X13_goesOn_188 g e Q s v1 v2 v3 := by
  refine r_iload_n dX13_goesOn_188 rfl ?_
  refine r_if_eq (tgt := 285) dX13_goesOn_189 (by decide) (fun hc => ?_) (fun hc => ?_)
  · have h := h.1 hc
    exact h
  · have h := h.2 hc
    refine r_aload_n dX13_goesOn_192 rfl rfl ?_
    refine gf_X13_131 rfl dX13_goesOn_193 ?_
    refine r_iload_n dX13_goesOn_196 rfl ?_
    obtain ⟨hb, h⟩ := h
    refine r_iald (n := 20) rfl (by decide) dX13_goesOn_197 hb ?_
    refine r_if_ne (tgt := 285) dX13_goesOn_198 (by decide) (fun hc => ?_) (fun hc => ?_)
    · have h := h.1 hc
      exact h
    · have h := h.2 hc
      refine r_aload_n dX13_goesOn_201 rfl rfl ?_
      refine r_bipush dX13_goesOn_202 (by decide) rfl ?_
      refine r_callV (ci := 11) (As := [(0, 60)]) (st := []) (by decide) ok_X13_271 rfl rfl (Nat.le_of_ble_eq_true rfl) dX13_goesOn_204 h (fun r1 s2 hv h => ?_)
      refine r_if_ne (tgt := 228) dX13_goesOn_207 (by decide) (fun hc => ?_) (fun hc => ?_)
      · have h := h.1 hc
        exact r_fgt [true, true, false, false, false] rfl h
      · have h := h.2 hc
        refine r_aload_n dX13_goesOn_210 rfl rfl ?_
        refine r_bipush dX13_goesOn_211 (by decide) rfl ?_
        refine r_callV (ci := 11) (As := [(0, 62)]) (st := []) (by decide) ok_X13_271 rfl rfl (Nat.le_of_ble_eq_true rfl) dX13_goesOn_213 h (fun r3 s4 hv h => ?_)
        refine r_if_ne (tgt := 228) dX13_goesOn_216 (by decide) (fun hc => ?_) (fun hc => ?_)
        · have h := h.1 hc
          exact r_fgt [true, true, false, false, false] rfl h
        · have h := h.2 hc
          refine r_aload_n dX13_goesOn_219 rfl rfl ?_
          refine r_bipush dX13_goesOn_220 (by decide) rfl ?_
          refine r_callV (ci := 11) (As := [(0, 61)]) (st := []) (by decide) ok_X13_271 rfl rfl (Nat.le_of_ble_eq_true rfl) dX13_goesOn_222 h (fun r5 s6 hv h => ?_)
          refine r_if_eq (tgt := 285) dX13_goesOn_225 (by decide) (fun hc => ?_) (fun hc => ?_)
          · have h := h.1 hc
            exact h
          · have h := h.2 hc
            exact r_fgt [true, true, false, false, false] rfl h
set_option maxRecDepth 20000 in
theorem S_X13_goesOn_228 {g : GT} {e : Nat} {Q : Int → Sg → Prop} {s : Sg} {v1 : Int} (h : (Mw g e M_X13_joins [(21, 92), (0, 5)] s (fun _ s2 => (Mw g e M_X13_isSign [(21, 92), (0, 60)] s2 (fun r3 s4 => ((r3 = 0 → (Mw g e M_X13_isSign [(21, 92), (0, 62)] s4 (fun r5 s6 => ((r5 = 0 → P_X13_goesOn_264 g e Q s6 v1 40) ∧ (¬ r5 = 0 → P_X13_goesOn_264 g e Q s6 v1 39))))) ∧ (¬ r3 = 0 → P_X13_goesOn_264 g e Q s4 v1 38))))))) : P_X13_goesOn_228 g e Q s v1 := by
  refine r_aload_n dX13_goesOn_228 rfl rfl ?_
  refine r_iconst dX13_goesOn_229 (by decide) ?_
  refine r_callV (ci := 11) (As := [(0, 5)]) (st := []) (by decide) ok_X13_373 rfl rfl (Nat.le_of_ble_eq_true rfl) dX13_goesOn_230 h (fun r1 s2 hv h => ?_)
  refine r_aload_n dX13_goesOn_233 rfl rfl ?_
  refine r_aload_n dX13_goesOn_234 rfl rfl ?_
  refine r_bipush dX13_goesOn_235 (by decide) rfl ?_
  refine r_callV (ci := 11) (As := [(0, 60)]) (st := [(21, 92)]) (by decide) ok_X13_271 rfl rfl (Nat.le_of_ble_eq_true rfl) dX13_goesOn_237 h (fun r3 s4 hv h => ?_)
  refine r_if_eq (tgt := 248) dX13_goesOn_240 (by decide) (fun hc => ?_) (fun hc => ?_)
  · have h := h.1 hc
    refine r_aload_n dX13_goesOn_248 rfl rfl ?_
    refine r_bipush dX13_goesOn_249 (by decide) rfl ?_
    refine r_callV (ci := 11) (As := [(0, 62)]) (st := [(21, 92)]) (by decide) ok_X13_271 rfl rfl (Nat.le_of_ble_eq_true rfl) dX13_goesOn_251 h (fun r5 s6 hv h => ?_)
    refine r_if_eq (tgt := 262) dX13_goesOn_254 (by decide) (fun hc => ?_) (fun hc => ?_)
    · have h := h.1 hc
      refine r_bipush dX13_goesOn_262 (by decide) rfl ?_
      exact h
    · have h := h.2 hc
      refine r_bipush dX13_goesOn_257 (by decide) rfl ?_
      refine r_goto (tgt := 264) dX13_goesOn_259 (by decide) ?_
      exact h
  · have h := h.2 hc
    refine r_bipush dX13_goesOn_243 (by decide) rfl ?_
    refine r_goto (tgt := 264) dX13_goesOn_245 (by decide) ?_
    exact h
set_option maxRecDepth 20000 in
theorem S_X13_goesOn_264 {g : GT} {e : Nat} {Q : Int → Sg → Prop} {s : Sg} {v1 : Int} {x1 : Int} (h : (Mw g e M_X13_holdsBack [(21, 92), (0, x1)] s (fun _ s2 => ((0 ≤ v1 ∧ v1 < 20) ∧ ∀ s3, s3 = ups s2 116 v1 1 → (Mw g e M_X13_ahead [(21, 92)] s3 (fun _ s5 => (∀ s6, s6 = ups s5 92 47 0 → Q 1 s6))))))) : P_X13_goesOn_264 g e Q s v1 x1 := by
  refine r_callV (ci := 11) (As := [(0, x1)]) (st := []) (by decide) ok_X13_367 rfl rfl (Nat.le_of_ble_eq_true rfl) dX13_goesOn_264 h (fun r1 s2 hv h => ?_)
  refine r_aload_n dX13_goesOn_267 rfl rfl ?_
  refine gf_X13_131 rfl dX13_goesOn_268 ?_
  refine r_iload_n dX13_goesOn_271 rfl ?_
  refine r_iconst dX13_goesOn_272 (by decide) ?_
  obtain ⟨hb, h⟩ := h
  refine r_iast (n := 20) rfl (by decide) dX13_goesOn_273 hb ?_
  have h := h _ rfl
  generalize hs_s3 : ups s2 116 v1 1 = s3 at h ⊢
  refine r_aload_n dX13_goesOn_274 rfl rfl ?_
  refine r_callV (ci := 11) (As := []) (st := []) (by decide) ok_X13_274 rfl rfl (Nat.le_of_ble_eq_true rfl) dX13_goesOn_275 h (fun r4 s5 hv h => ?_)
  refine r_aload_n dX13_goesOn_278 rfl rfl ?_
  refine r_iconst dX13_goesOn_279 (by decide) ?_
  refine pf_X13_156 rfl (by decide) dX13_goesOn_280 ?_
  have h := h _ rfl
  generalize hs_s6 : ups s5 92 47 0 = s6 at h ⊢
  refine r_iconst dX13_goesOn_283 (by decide) ?_
  exact r_zret dX13_goesOn_284 rfl (by decide) h
set_option maxRecDepth 20000 in
theorem S_X13_goesOn_285 {g : GT} {e : Nat} {Q : Int → Sg → Prop} {s : Sg} {v1 : Int} {v2 : Int} {v3 : Int} (h : ((v3 = 0 → P_X13_goesOn_400 g e Q s v1 v2 v3) ∧ (¬ v3 = 0 → (Mw g e M_X13_isWord [(21, 92), (2, 6385252)] s (fun r1 s2 => ((¬ r1 = 0 → P_X13_goesOn_309 g e Q s2 v1) ∧ (r1 = 0 → (Mw g e M_X13_isWord [(21, 92), (2, 28530)] s2 (fun r3 s4 => ((r3 = 0 → P_X13_goesOn_400 g e Q s4 v1 v2 v3) ∧ (¬ r3 = 0 → P_X13_goesOn_309 g e Q s4 v1))))))))))) : P_X13_goesOn_285 g e Q s v1 v2 v3 := by
  refine r_iload_n dX13_goesOn_285 rfl ?_
  refine r_if_eq (tgt := 400) dX13_goesOn_286 (by decide) (fun hc => ?_) (fun hc => ?_)
  · have h := h.1 hc
    exact h
  · have h := h.2 hc
    refine r_aload_n dX13_goesOn_289 rfl rfl ?_
    refine r_ldc2 (v := 6385252) dX13_goesOn_290 lk_X13_329 (by decide) ?_
    refine r_callV (ci := 11) (As := [(2, 6385252)]) (st := []) (by decide) ok_X13_363 rfl rfl (Nat.le_of_ble_eq_true rfl) dX13_goesOn_293 h (fun r1 s2 hv h => ?_)
    refine r_if_ne (tgt := 309) dX13_goesOn_296 (by decide) (fun hc => ?_) (fun hc => ?_)
    · have h := h.1 hc
      exact r_fgt [true, true, false, false, false] rfl h
    · have h := h.2 hc
      refine r_aload_n dX13_goesOn_299 rfl rfl ?_
      refine r_ldc2 (v := 28530) dX13_goesOn_300 lk_X13_327 (by decide) ?_
      refine r_callV (ci := 11) (As := [(2, 28530)]) (st := []) (by decide) ok_X13_363 rfl rfl (Nat.le_of_ble_eq_true rfl) dX13_goesOn_303 h (fun r3 s4 hv h => ?_)
      refine r_if_eq (tgt := 400) dX13_goesOn_306 (by decide) (fun hc => ?_) (fun hc => ?_)
      · have h := h.1 hc
        exact h
      · have h := h.2 hc
        exact r_fgt [true, true, false, false, false] rfl h
set_option maxRecDepth 20000 in
theorem S_X13_goesOn_309 {g : GT} {e : Nat} {Q : Int → Sg → Prop} {s : Sg} {v1 : Int} (h : ((0 ≤ v1 ∧ v1 < 20) ∧ ((¬ (s 116 v1) = 0 → P_X13_goesOn_327 g e Q s v1) ∧ ((s 116 v1) = 0 → (Mw g e M_X13_blame [(21, 92), (0, 1), (0, (s 92 4))] s (fun _ s2 => P_X13_goesOn_327 g e Q s2 v1)))))) : P_X13_goesOn_309 g e Q s v1 := by
  refine r_aload_n dX13_goesOn_309 rfl rfl ?_
  refine gf_X13_131 rfl dX13_goesOn_310 ?_
  refine r_iload_n dX13_goesOn_313 rfl ?_
  obtain ⟨hb, h⟩ := h
  refine r_iald (n := 20) rfl (by decide) dX13_goesOn_314 hb ?_
  refine r_if_ne (tgt := 327) dX13_goesOn_315 (by decide) (fun hc => ?_) (fun hc => ?_)
  · have h := h.1 hc
    exact h
  · have h := h.2 hc
    refine r_aload_n dX13_goesOn_318 rfl rfl ?_
    refine r_iconst dX13_goesOn_319 (by decide) ?_
    refine r_aload_n dX13_goesOn_320 rfl rfl ?_
    refine gf_X13_23 rfl dX13_goesOn_321 ?_
    refine r_callV (ci := 11) (As := [(0, 1), (0, (s 92 4))]) (st := []) (by decide) ok_X13_257 rfl rfl (Nat.le_of_ble_eq_true rfl) dX13_goesOn_324 h (fun r1 s2 hv h => ?_)
    exact h
set_option maxRecDepth 20000 in
theorem S_X13_goesOn_327 {g : GT} {e : Nat} {Q : Int → Sg → Prop} {s : Sg} {v1 : Int} (h : (((s 92 8) ≤ 0 → (Mw g e M_X13_isWord [(21, 92), (2, 6385252)] s (fun r1 s2 => ((r1 = 0 → P_X13_goesOn_356 g e Q s2 v1 r1 1) ∧ (¬ r1 = 0 → P_X13_goesOn_356 g e Q s2 v1 r1 2))))) ∧ (¬ (s 92 8) ≤ 0 → Q 0 s))) : P_X13_goesOn_327 g e Q s v1 := by
  refine r_aload_n dX13_goesOn_327 rfl rfl ?_
  refine gf_X13_36 rfl dX13_goesOn_328 ?_
  refine r_if_le (tgt := 336) dX13_goesOn_331 (by decide) (fun hc => ?_) (fun hc => ?_)
  · have h := h.1 hc
    refine r_aload_n dX13_goesOn_336 rfl rfl ?_
    refine r_ldc2 (v := 6385252) dX13_goesOn_337 lk_X13_329 (by decide) ?_
    refine r_callV (ci := 11) (As := [(2, 6385252)]) (st := []) (by decide) ok_X13_363 rfl rfl (Nat.le_of_ble_eq_true rfl) dX13_goesOn_340 h (fun r1 s2 hv h => ?_)
    refine r_istore (ls2 := [(21, 92), (0, v1), (9, 0), (9, 0), (0, r1)]) dX13_goesOn_343 (by decide) rfl ?_
    refine r_aload_n dX13_goesOn_345 rfl rfl ?_
    refine r_iload dX13_goesOn_346 rfl ?_
    refine r_if_eq (tgt := 355) dX13_goesOn_348 (by decide) (fun hc => ?_) (fun hc => ?_)
    · have h := h.1 hc
      refine r_iconst dX13_goesOn_355 (by decide) ?_
      exact h
    · have h := h.2 hc
      refine r_iconst dX13_goesOn_351 (by decide) ?_
      refine r_goto (tgt := 356) dX13_goesOn_352 (by decide) ?_
      exact h
  · have h := h.2 hc
    refine r_iconst dX13_goesOn_334 (by decide) ?_
    exact r_zret dX13_goesOn_335 rfl (by decide) h
set_option maxRecDepth 20000 in
theorem S_X13_goesOn_356 {g : GT} {e : Nat} {Q : Int → Sg → Prop} {s : Sg} {v1 : Int} {v4 : Int} {x1 : Int} (h : (Mw g e M_X13_joins [(21, 92), (0, x1)] s (fun _ s2 => ((v4 = 0 → P_X13_goesOn_372 g e Q s2 v1 42) ∧ (¬ v4 = 0 → P_X13_goesOn_372 g e Q s2 v1 41))))) : P_X13_goesOn_356 g e Q s v1 v4 x1 := by
  refine r_callV (ci := 11) (As := [(0, x1)]) (st := []) (by decide) ok_X13_373 rfl rfl (Nat.le_of_ble_eq_true rfl) dX13_goesOn_356 h (fun r1 s2 hv h => ?_)
  refine r_aload_n dX13_goesOn_359 rfl rfl ?_
  refine r_iload dX13_goesOn_360 rfl ?_
  refine r_if_eq (tgt := 370) dX13_goesOn_362 (by decide) (fun hc => ?_) (fun hc => ?_)
  · have h := h.1 hc
    refine r_bipush dX13_goesOn_370 (by decide) rfl ?_
    exact r_fgt [true, true, false, false, false] rfl h
  · have h := h.2 hc
    refine r_bipush dX13_goesOn_365 (by decide) rfl ?_
    refine r_goto (tgt := 372) dX13_goesOn_367 (by decide) ?_
    exact r_fgt [true, true, false, false, false] rfl h
set_option maxRecDepth 20000 in
theorem S_X13_goesOn_372 {g : GT} {e : Nat} {Q : Int → Sg → Prop} {s : Sg} {v1 : Int} {x1 : Int} (h : (Mw g e M_X13_holdsBack [(21, 92), (0, x1)] s (fun _ s2 => ((0 ≤ v1 ∧ v1 < 20) ∧ ∀ s3, s3 = ups s2 116 v1 0 → ((0 ≤ v1 ∧ v1 < 20) ∧ ∀ s4, s4 = ups s3 117 v1 1 → (Mw g e M_X13_ahead [(21, 92)] s4 (fun _ s6 => (∀ s7, s7 = ups s6 92 47 0 → Q 1 s7)))))))) : P_X13_goesOn_372 g e Q s v1 x1 := by
  refine r_callV (ci := 11) (As := [(0, x1)]) (st := []) (by decide) ok_X13_367 rfl rfl (Nat.le_of_ble_eq_true rfl) dX13_goesOn_372 h (fun r1 s2 hv h => ?_)
  refine r_aload_n dX13_goesOn_375 rfl rfl ?_
  refine gf_X13_131 rfl dX13_goesOn_376 ?_
  refine r_iload_n dX13_goesOn_379 rfl ?_
  refine r_iconst dX13_goesOn_380 (by decide) ?_
  obtain ⟨hb, h⟩ := h
  refine r_iast (n := 20) rfl (by decide) dX13_goesOn_381 hb ?_
  have h := h _ rfl
  generalize hs_s3 : ups s2 116 v1 0 = s3 at h ⊢
  refine r_aload_n dX13_goesOn_382 rfl rfl ?_
  refine gf_X13_134 rfl dX13_goesOn_383 ?_
  refine r_iload_n dX13_goesOn_386 rfl ?_
  refine r_iconst dX13_goesOn_387 (by decide) ?_
  obtain ⟨hb, h⟩ := h
  refine r_zast (n := 20) rfl (by decide) dX13_goesOn_388 hb (by decide) ?_
  have h := h _ rfl
  generalize hs_s4 : ups s3 117 v1 1 = s4 at h ⊢
  refine r_aload_n dX13_goesOn_389 rfl rfl ?_
  refine r_callV (ci := 11) (As := []) (st := []) (by decide) ok_X13_274 rfl rfl (Nat.le_of_ble_eq_true rfl) dX13_goesOn_390 h (fun r5 s6 hv h => ?_)
  refine r_aload_n dX13_goesOn_393 rfl rfl ?_
  refine r_iconst dX13_goesOn_394 (by decide) ?_
  refine pf_X13_156 rfl (by decide) dX13_goesOn_395 ?_
  have h := h _ rfl
  generalize hs_s7 : ups s6 92 47 0 = s7 at h ⊢
  refine r_iconst dX13_goesOn_398 (by decide) ?_
  exact r_zret dX13_goesOn_399 rfl (by decide) h
set_option maxRecDepth 20000 in
theorem S_X13_goesOn_400 {g : GT} {e : Nat} {Q : Int → Sg → Prop} {s : Sg} {v1 : Int} {v2 : Int} {v3 : Int} (h : ((v3 = 0 → P_X13_goesOn_422 g e Q s v1 v2) ∧ (¬ v3 = 0 → ((0 ≤ v1 ∧ v1 < 20) ∧ ((¬ (s 116 v1) = 0 → P_X13_goesOn_422 g e Q s v1 v2) ∧ ((s 116 v1) = 0 → (Mw g e M_X13_blame [(21, 92), (0, 1), (0, (s 92 4))] s (fun _ s2 => P_X13_goesOn_422 g e Q s2 v1 v2)))))))) : P_X13_goesOn_400 g e Q s v1 v2 v3 := by
  refine r_iload_n dX13_goesOn_400 rfl ?_
  refine r_if_eq (tgt := 422) dX13_goesOn_401 (by decide) (fun hc => ?_) (fun hc => ?_)
  · have h := h.1 hc
    exact r_fgt [true, true, true, false, false] rfl h
  · have h := h.2 hc
    refine r_aload_n dX13_goesOn_404 rfl rfl ?_
    refine gf_X13_131 rfl dX13_goesOn_405 ?_
    refine r_iload_n dX13_goesOn_408 rfl ?_
    obtain ⟨hb, h⟩ := h
    refine r_iald (n := 20) rfl (by decide) dX13_goesOn_409 hb ?_
    refine r_if_ne (tgt := 422) dX13_goesOn_410 (by decide) (fun hc => ?_) (fun hc => ?_)
    · have h := h.1 hc
      exact r_fgt [true, true, true, false, false] rfl h
    · have h := h.2 hc
      refine r_aload_n dX13_goesOn_413 rfl rfl ?_
      refine r_iconst dX13_goesOn_414 (by decide) ?_
      refine r_aload_n dX13_goesOn_415 rfl rfl ?_
      refine gf_X13_23 rfl dX13_goesOn_416 ?_
      refine r_callV (ci := 11) (As := [(0, 1), (0, (s 92 4))]) (st := []) (by decide) ok_X13_257 rfl rfl (Nat.le_of_ble_eq_true rfl) dX13_goesOn_419 h (fun r1 s2 hv h => ?_)
      exact r_fgt [true, true, true, false, false] rfl h
set_option maxRecDepth 20000 in
theorem S_X13_goesOn_422 {g : GT} {e : Nat} {Q : Int → Sg → Prop} {s : Sg} {v1 : Int} {v2 : Int} (h : ((2 ≤ v2 → ((v2 = 3 → P_X13_goesOn_452 g e Q s v1 v2) ∧ (¬ v2 = 3 → ((¬ v2 = 6 → ((¬ v2 = 5 → P_X13_goesOn_531 g e Q s v1 v2 41) ∧ (v2 = 5 → P_X13_goesOn_531 g e Q s v1 v2 93))) ∧ (v2 = 6 → P_X13_goesOn_452 g e Q s v1 v2))))) ∧ (¬ 2 ≤ v2 → ((¬ (s 92 8) = 0 → Q 0 s) ∧ ((s 92 8) = 0 → (Mw g e M_X13_joins [(21, 92), (0, 1)] s (fun _ s2 => Q 0 s2))))))) : P_X13_goesOn_422 g e Q s v1 v2 := by
  refine r_iload_n dX13_goesOn_422 rfl ?_
  refine r_iconst dX13_goesOn_423 (by decide) ?_
  refine r_icmp_ge (tgt := 441) dX13_goesOn_424 (by decide) (fun hc => ?_) (fun hc => ?_)
  · have h := h.1 hc
    refine r_iload_n dX13_goesOn_441 rfl ?_
    refine r_iconst dX13_goesOn_442 (by decide) ?_
    refine r_icmp_eq (tgt := 452) dX13_goesOn_443 (by decide) (fun hc => ?_) (fun hc => ?_)
    · have h := h.1 hc
      exact h
    · have h := h.2 hc
      refine r_iload_n dX13_goesOn_446 rfl ?_
      refine r_bipush dX13_goesOn_447 (by decide) rfl ?_
      refine r_icmp_ne (tgt := 518) dX13_goesOn_449 (by decide) (fun hc => ?_) (fun hc => ?_)
      · have h := h.1 hc
        refine r_aload_n dX13_goesOn_518 rfl rfl ?_
        refine r_iload_n dX13_goesOn_519 rfl ?_
        refine r_iconst dX13_goesOn_520 (by decide) ?_
        refine r_icmp_ne (tgt := 529) dX13_goesOn_521 (by decide) (fun hc => ?_) (fun hc => ?_)
        · have h := h.1 hc
          refine r_bipush dX13_goesOn_529 (by decide) rfl ?_
          exact h
        · have h := h.2 hc
          refine r_bipush dX13_goesOn_524 (by decide) rfl ?_
          refine r_goto (tgt := 531) dX13_goesOn_526 (by decide) ?_
          exact h
      · have h := h.2 hc
        exact h
  · have h := h.2 hc
    refine r_aload_n dX13_goesOn_427 rfl rfl ?_
    refine gf_X13_36 rfl dX13_goesOn_428 ?_
    refine r_if_ne (tgt := 439) dX13_goesOn_431 (by decide) (fun hc => ?_) (fun hc => ?_)
    · have h := h.1 hc
      refine r_iconst dX13_goesOn_439 (by decide) ?_
      exact r_zret dX13_goesOn_440 rfl (by decide) h
    · have h := h.2 hc
      refine r_aload_n dX13_goesOn_434 rfl rfl ?_
      refine r_iconst dX13_goesOn_435 (by decide) ?_
      refine r_callV (ci := 11) (As := [(0, 1)]) (st := []) (by decide) ok_X13_373 rfl rfl (Nat.le_of_ble_eq_true rfl) dX13_goesOn_436 h (fun r1 s2 hv h => ?_)
      refine r_iconst dX13_goesOn_439 (by decide) ?_
      exact r_zret dX13_goesOn_440 rfl (by decide) h
set_option maxRecDepth 20000 in
theorem S_X13_goesOn_452 {g : GT} {e : Nat} {Q : Int → Sg → Prop} {s : Sg} {v1 : Int} {v2 : Int} (h : (Mw g e M_X13_isSign [(21, 92), (0, 44)] s (fun r1 s2 => ((¬ r1 = 0 → P_X13_goesOn_470 g e Q s2 v1 v2) ∧ (r1 = 0 → (Mw g e M_X13_blame [(21, 92), (0, 1), (0, (s2 92 4))] s2 (fun _ s4 => P_X13_goesOn_470 g e Q s4 v1 v2))))))) : P_X13_goesOn_452 g e Q s v1 v2 := by
  refine r_aload_n dX13_goesOn_452 rfl rfl ?_
  refine r_bipush dX13_goesOn_453 (by decide) rfl ?_
  refine r_callV (ci := 11) (As := [(0, 44)]) (st := []) (by decide) ok_X13_271 rfl rfl (Nat.le_of_ble_eq_true rfl) dX13_goesOn_455 h (fun r1 s2 hv h => ?_)
  refine r_if_ne (tgt := 470) dX13_goesOn_458 (by decide) (fun hc => ?_) (fun hc => ?_)
  · have h := h.1 hc
    exact h
  · have h := h.2 hc
    refine r_aload_n dX13_goesOn_461 rfl rfl ?_
    refine r_iconst dX13_goesOn_462 (by decide) ?_
    refine r_aload_n dX13_goesOn_463 rfl rfl ?_
    refine gf_X13_23 rfl dX13_goesOn_464 ?_
    refine r_callV (ci := 11) (As := [(0, 1), (0, (s2 92 4))]) (st := []) (by decide) ok_X13_257 rfl rfl (Nat.le_of_ble_eq_true rfl) dX13_goesOn_467 h (fun r3 s4 hv h => ?_)
    exact h
set_option maxRecDepth 20000 in
theorem S_X13_goesOn_470 {g : GT} {e : Nat} {Q : Int → Sg → Prop} {s : Sg} {v1 : Int} {v2 : Int} (h : (((s 92 8) ≤ 0 → (Mw g e M_X13_joins [(21, 92), (0, 1)] s (fun _ s2 => ((¬ v2 = 3 → P_X13_goesOn_499 g e Q s2 v1 v1 3) ∧ (v2 = 3 → P_X13_goesOn_499 g e Q s2 v1 v1 4))))) ∧ (¬ (s 92 8) ≤ 0 → Q 0 s))) : P_X13_goesOn_470 g e Q s v1 v2 := by
  refine r_aload_n dX13_goesOn_470 rfl rfl ?_
  refine gf_X13_36 rfl dX13_goesOn_471 ?_
  refine r_if_le (tgt := 479) dX13_goesOn_474 (by decide) (fun hc => ?_) (fun hc => ?_)
  · have h := h.1 hc
    refine r_aload_n dX13_goesOn_479 rfl rfl ?_
    refine r_iconst dX13_goesOn_480 (by decide) ?_
    refine r_callV (ci := 11) (As := [(0, 1)]) (st := []) (by decide) ok_X13_373 rfl rfl (Nat.le_of_ble_eq_true rfl) dX13_goesOn_481 h (fun r1 s2 hv h => ?_)
    refine r_aload_n dX13_goesOn_484 rfl rfl ?_
    refine gf_X13_128 rfl dX13_goesOn_485 ?_
    refine r_iload_n dX13_goesOn_488 rfl ?_
    refine r_iload_n dX13_goesOn_489 rfl ?_
    refine r_iconst dX13_goesOn_490 (by decide) ?_
    refine r_icmp_ne (tgt := 498) dX13_goesOn_491 (by decide) (fun hc => ?_) (fun hc => ?_)
    · have h := h.1 hc
      refine r_iconst dX13_goesOn_498 (by decide) ?_
      exact r_fgt [true, true, false, false, false] rfl h
    · have h := h.2 hc
      refine r_iconst dX13_goesOn_494 (by decide) ?_
      refine r_goto (tgt := 499) dX13_goesOn_495 (by decide) ?_
      exact r_fgt [true, true, false, false, false] rfl h
  · have h := h.2 hc
    refine r_iconst dX13_goesOn_477 (by decide) ?_
    exact r_zret dX13_goesOn_478 rfl (by decide) h
set_option maxRecDepth 20000 in
theorem S_X13_goesOn_499 {g : GT} {e : Nat} {Q : Int → Sg → Prop} {s : Sg} {v1 : Int} {x1 : Int} {x2 : Int} (h : ((0 ≤ x1 ∧ x1 < 20) ∧ ∀ s1, s1 = ups s 115 x1 x2 → ((0 ≤ v1 ∧ v1 < 20) ∧ ∀ s2, s2 = ups s1 116 v1 0 → (Mw g e M_X13_ahead [(21, 92)] s2 (fun _ s4 => (∀ s5, s5 = ups s4 92 47 0 → Q 1 s5)))))) : P_X13_goesOn_499 g e Q s v1 x1 x2 := by
  obtain ⟨hb, h⟩ := h
  refine r_iast (n := 20) rfl (by decide) dX13_goesOn_499 hb ?_
  have h := h _ rfl
  generalize hs_s1 : ups s 115 x1 x2 = s1 at h ⊢
  refine r_aload_n dX13_goesOn_500 rfl rfl ?_
  refine gf_X13_131 rfl dX13_goesOn_501 ?_
  refine r_iload_n dX13_goesOn_504 rfl ?_
  refine r_iconst dX13_goesOn_505 (by decide) ?_
  obtain ⟨hb, h⟩ := h
  refine r_iast (n := 20) rfl (by decide) dX13_goesOn_506 hb ?_
  have h := h _ rfl
  generalize hs_s2 : ups s1 116 v1 0 = s2 at h ⊢
  refine r_aload_n dX13_goesOn_507 rfl rfl ?_
  refine r_callV (ci := 11) (As := []) (st := []) (by decide) ok_X13_274 rfl rfl (Nat.le_of_ble_eq_true rfl) dX13_goesOn_508 h (fun r3 s4 hv h => ?_)
  refine r_aload_n dX13_goesOn_511 rfl rfl ?_
  refine r_iconst dX13_goesOn_512 (by decide) ?_
  refine pf_X13_156 rfl (by decide) dX13_goesOn_513 ?_
  have h := h _ rfl
  generalize hs_s5 : ups s4 92 47 0 = s5 at h ⊢
  refine r_iconst dX13_goesOn_516 (by decide) ?_
  exact r_zret dX13_goesOn_517 rfl (by decide) h
set_option maxRecDepth 20000 in
theorem S_X13_goesOn_531 {g : GT} {e : Nat} {Q : Int → Sg → Prop} {s : Sg} {v1 : Int} {v2 : Int} {x1 : Int} (h : (Mw g e M_X13_isSign [(21, 92), (0, x1)] s (fun r1 s2 => ((¬ r1 = 0 → P_X13_goesOn_546 g e Q s2 v1 v2) ∧ (r1 = 0 → (Mw g e M_X13_blame [(21, 92), (0, 1), (0, (s2 92 4))] s2 (fun _ s4 => P_X13_goesOn_546 g e Q s4 v1 v2))))))) : P_X13_goesOn_531 g e Q s v1 v2 x1 := by
  refine r_callV (ci := 11) (As := [(0, x1)]) (st := []) (by decide) ok_X13_271 rfl rfl (Nat.le_of_ble_eq_true rfl) dX13_goesOn_531 h (fun r1 s2 hv h => ?_)
  refine r_if_ne (tgt := 546) dX13_goesOn_534 (by decide) (fun hc => ?_) (fun hc => ?_)
  · have h := h.1 hc
    exact h
  · have h := h.2 hc
    refine r_aload_n dX13_goesOn_537 rfl rfl ?_
    refine r_iconst dX13_goesOn_538 (by decide) ?_
    refine r_aload_n dX13_goesOn_539 rfl rfl ?_
    refine gf_X13_23 rfl dX13_goesOn_540 ?_
    refine r_callV (ci := 11) (As := [(0, 1), (0, (s2 92 4))]) (st := []) (by decide) ok_X13_257 rfl rfl (Nat.le_of_ble_eq_true rfl) dX13_goesOn_543 h (fun r3 s4 hv h => ?_)
    exact h
set_option maxRecDepth 20000 in
theorem S_X13_goesOn_546 {g : GT} {e : Nat} {Q : Int → Sg → Prop} {s : Sg} {v1 : Int} {v2 : Int} (h : (((s 92 8) ≤ 0 → (Mw g e M_X13_joins [(21, 92), (0, 1)] s (fun _ s2 => (∀ s3, s3 = ups s2 92 43 (w32 ((s2 92 43) - 1)) → (∀ s4, s4 = ups s3 92 44 (w32 ((s3 92 44) - 1)) → ((¬ v2 = 4 → P_X13_goesOn_596 g e Q s4 v2) ∧ (v2 = 4 → ((0 ≤ v1 ∧ v1 < 20) ∧ (Mw g e M_X13_add [(21, 92), (0, (s4 118 v1)), (0, 0)] s4 (fun _ s6 => P_X13_goesOn_596 g e Q s6 v2)))))))))) ∧ (¬ (s 92 8) ≤ 0 → Q 0 s))) : P_X13_goesOn_546 g e Q s v1 v2 := by
  refine r_aload_n dX13_goesOn_546 rfl rfl ?_
  refine gf_X13_36 rfl dX13_goesOn_547 ?_
  refine r_if_le (tgt := 555) dX13_goesOn_550 (by decide) (fun hc => ?_) (fun hc => ?_)
  · have h := h.1 hc
    refine r_aload_n dX13_goesOn_555 rfl rfl ?_
    refine r_iconst dX13_goesOn_556 (by decide) ?_
    refine r_callV (ci := 11) (As := [(0, 1)]) (st := []) (by decide) ok_X13_373 rfl rfl (Nat.le_of_ble_eq_true rfl) dX13_goesOn_557 h (fun r1 s2 hv h => ?_)
    refine r_aload_n dX13_goesOn_560 rfl rfl ?_
    refine r_dup dX13_goesOn_561 (show (21 : Nat) ≠ 2 by decide) ?_
    refine gf_X13_144 rfl dX13_goesOn_562 ?_
    refine r_iconst dX13_goesOn_565 (by decide) ?_
    refine r_isub dX13_goesOn_566 ?_
    refine pf_X13_144 rfl dX13_goesOn_567 ?_
    have h := h _ rfl
    generalize hs_s3 : ups s2 92 43 (w32 ((s2 92 43) - 1)) = s3 at h ⊢
    refine r_aload_n dX13_goesOn_570 rfl rfl ?_
    refine r_dup dX13_goesOn_571 (show (21 : Nat) ≠ 2 by decide) ?_
    refine gf_X13_147 rfl dX13_goesOn_572 ?_
    refine r_iconst dX13_goesOn_575 (by decide) ?_
    refine r_isub dX13_goesOn_576 ?_
    refine pf_X13_147 rfl dX13_goesOn_577 ?_
    have h := h _ rfl
    generalize hs_s4 : ups s3 92 44 (w32 ((s3 92 44) - 1)) = s4 at h ⊢
    refine r_iload_n dX13_goesOn_580 rfl ?_
    refine r_iconst dX13_goesOn_581 (by decide) ?_
    refine r_icmp_ne (tgt := 596) dX13_goesOn_582 (by decide) (fun hc => ?_) (fun hc => ?_)
    · have h := h.1 hc
      exact r_fgt [true, false, true, false, false] rfl h
    · have h := h.2 hc
      refine r_aload_n dX13_goesOn_585 rfl rfl ?_
      refine r_aload_n dX13_goesOn_586 rfl rfl ?_
      refine gf_X13_138 rfl dX13_goesOn_587 ?_
      refine r_iload_n dX13_goesOn_590 rfl ?_
      obtain ⟨hb, h⟩ := h
      refine r_iald (n := 20) rfl (by decide) dX13_goesOn_591 hb ?_
      refine r_iconst dX13_goesOn_592 (by decide) ?_
      refine r_callV (ci := 11) (As := [(0, (s4 118 v1)), (0, 0)]) (st := []) (by decide) ok_X13_354 rfl rfl (Nat.le_of_ble_eq_true rfl) dX13_goesOn_593 h (fun r5 s6 hv h => ?_)
      exact r_fgt [true, false, true, false, false] rfl h
  · have h := h.2 hc
    refine r_iconst dX13_goesOn_553 (by decide) ?_
    exact r_zret dX13_goesOn_554 rfl (by decide) h
set_option maxRecDepth 20000 in
theorem S_X13_goesOn_596 {g : GT} {e : Nat} {Q : Int → Sg → Prop} {s : Sg} {v2 : Int} (h : ((¬ v2 = 5 → P_X13_goesOn_613 g e Q s) ∧ (v2 = 5 → ((0 ≤ (w32 ((s 92 43) - 1)) ∧ (w32 ((s 92 43) - 1)) < 20) ∧ ∀ s1, s1 = ups s 116 (w32 ((s 92 43) - 1)) 2 → P_X13_goesOn_613 g e Q s1)))) : P_X13_goesOn_596 g e Q s v2 := by
  refine r_iload_n dX13_goesOn_596 rfl ?_
  refine r_iconst dX13_goesOn_597 (by decide) ?_
  refine r_icmp_ne (tgt := 613) dX13_goesOn_598 (by decide) (fun hc => ?_) (fun hc => ?_)
  · have h := h.1 hc
    exact r_fgt [true, false, false, false, false] rfl h
  · have h := h.2 hc
    refine r_aload_n dX13_goesOn_601 rfl rfl ?_
    refine gf_X13_131 rfl dX13_goesOn_602 ?_
    refine r_aload_n dX13_goesOn_605 rfl rfl ?_
    refine gf_X13_144 rfl dX13_goesOn_606 ?_
    refine r_iconst dX13_goesOn_609 (by decide) ?_
    refine r_isub dX13_goesOn_610 ?_
    refine r_iconst dX13_goesOn_611 (by decide) ?_
    obtain ⟨hb, h⟩ := h
    refine r_iast (n := 20) rfl (by decide) dX13_goesOn_612 hb ?_
    have h := h _ rfl
    generalize hs_s1 : ups s 116 (w32 ((s 92 43) - 1)) 2 = s1 at h ⊢
    exact r_fgt [true, false, false, false, false] rfl h
set_option maxRecDepth 20000 in
theorem S_X13_goesOn_613 {g : GT} {e : Nat} {Q : Int → Sg → Prop} {s : Sg} (h : (Mw g e M_X13_ahead [(21, 92)] s (fun _ s2 => Q 1 s2))) : P_X13_goesOn_613 g e Q s := by
  refine r_aload_n dX13_goesOn_613 rfl rfl ?_
  refine r_callV (ci := 11) (As := []) (st := []) (by decide) ok_X13_274 rfl rfl (Nat.le_of_ble_eq_true rfl) dX13_goesOn_614 h (fun r1 s2 hv h => ?_)
  refine r_iconst dX13_goesOn_617 (by decide) ?_
  exact r_zret dX13_goesOn_618 rfl (by decide) h
set_option maxRecDepth 20000 in
theorem S_X13_goesOn {g : GT} {e : Nat} {Q : Int → Sg → Prop} {s : Sg} (h : (Mw g e M_X13_lex [(21, 92)] s (fun _ s2 => (((s2 92 8) ≤ 0 → ((0 ≤ (w32 ((s2 92 43) - 1)) ∧ (w32 ((s2 92 43) - 1)) < 20) ∧ (Mw g e M_X13_isTest [(0, (s2 115 (w32 ((s2 92 43) - 1))))] s2 (fun r3 s4 => ((0 ≤ (w32 ((s2 92 43) - 1)) ∧ (w32 ((s2 92 43) - 1)) < 20) ∧ ((2 ≤ (s4 116 (w32 ((s2 92 43) - 1))) → P_X13_goesOn_188 g e Q s4 (w32 ((s2 92 43) - 1)) (s2 115 (w32 ((s2 92 43) - 1))) r3) ∧ (¬ 2 ≤ (s4 116 (w32 ((s2 92 43) - 1))) → (Mw g e M_X13_isSign [(21, 92), (0, 43)] s4 (fun r5 s6 => ((¬ r5 = 0 → P_X13_goesOn_87 g e Q s6) ∧ (r5 = 0 → (Mw g e M_X13_isSign [(21, 92), (0, 45)] s6 (fun r7 s8 => ((¬ r7 = 0 → P_X13_goesOn_87 g e Q s8) ∧ (r7 = 0 → (Mw g e M_X13_isSign [(21, 92), (0, 42)] s8 (fun r9 s10 => ((¬ r9 = 0 → P_X13_goesOn_87 g e Q s10) ∧ (r9 = 0 → (Mw g e M_X13_isSign [(21, 92), (0, 47)] s10 (fun r11 s12 => ((¬ r11 = 0 → P_X13_goesOn_87 g e Q s12) ∧ (r11 = 0 → (Mw g e M_X13_isSign [(21, 92), (0, 37)] s12 (fun r13 s14 => ((r13 = 0 → P_X13_goesOn_188 g e Q s14 (w32 ((s2 92 43) - 1)) (s2 115 (w32 ((s2 92 43) - 1))) r3) ∧ (¬ r13 = 0 → P_X13_goesOn_87 g e Q s14))))))))))))))))))))))))))) ∧ (¬ (s2 92 8) ≤ 0 → Q 0 s2))))) : Mw g (e + 1) M_X13_goesOn [(21, 92)] s Q := by
  refine Mw.of (ls := [(21, 92), (9, 0), (9, 0), (9, 0), (9, 0)]) pn_X13_goesOn (Nat.le_of_ble_eq_true rfl) rfl (fun hv => ?_)
  refine r_aload_n dX13_goesOn_0 rfl rfl ?_
  refine r_callV (ci := 11) (As := []) (st := []) (by decide) ok_X13_268 rfl rfl (Nat.le_of_ble_eq_true rfl) dX13_goesOn_1 h (fun r1 s2 hv h => ?_)
  refine r_aload_n dX13_goesOn_4 rfl rfl ?_
  refine gf_X13_36 rfl dX13_goesOn_5 ?_
  refine r_if_le (tgt := 13) dX13_goesOn_8 (by decide) (fun hc => ?_) (fun hc => ?_)
  · have h := h.1 hc
    refine r_aload_n dX13_goesOn_13 rfl rfl ?_
    refine gf_X13_144 rfl dX13_goesOn_14 ?_
    refine r_iconst dX13_goesOn_17 (by decide) ?_
    refine r_isub dX13_goesOn_18 ?_
    refine r_istore_n (ls2 := [(21, 92), (0, (w32 ((s2 92 43) - 1))), (9, 0), (9, 0), (9, 0)]) dX13_goesOn_19 (by decide) rfl ?_
    refine r_aload_n dX13_goesOn_20 rfl rfl ?_
    refine gf_X13_128 rfl dX13_goesOn_21 ?_
    refine r_iload_n dX13_goesOn_24 rfl ?_
    obtain ⟨hb, h⟩ := h
    refine r_iald (n := 20) rfl (by decide) dX13_goesOn_25 hb ?_
    refine r_istore_n (ls2 := [(21, 92), (0, (w32 ((s2 92 43) - 1))), (0, (s2 115 (w32 ((s2 92 43) - 1)))), (9, 0), (9, 0)]) dX13_goesOn_26 (by decide) rfl ?_
    refine r_iload_n dX13_goesOn_27 rfl ?_
    refine r_callS (As := [(0, (s2 115 (w32 ((s2 92 43) - 1))))]) (st := []) ok_X13_360 rfl rfl (Nat.le_of_ble_eq_true rfl) dX13_goesOn_28 h (fun r3 s4 hv h => ?_)
    refine r_istore_n (ls2 := [(21, 92), (0, (w32 ((s2 92 43) - 1))), (0, (s2 115 (w32 ((s2 92 43) - 1)))), (0, r3), (9, 0)]) dX13_goesOn_31 (by decide) rfl ?_
    refine r_aload_n dX13_goesOn_32 rfl rfl ?_
    refine gf_X13_131 rfl dX13_goesOn_33 ?_
    refine r_iload_n dX13_goesOn_36 rfl ?_
    obtain ⟨hb, h⟩ := h
    refine r_iald (n := 20) rfl (by decide) dX13_goesOn_37 hb ?_
    refine r_iconst dX13_goesOn_38 (by decide) ?_
    refine r_icmp_ge (tgt := 188) dX13_goesOn_39 (by decide) (fun hc => ?_) (fun hc => ?_)
    · have h := h.1 hc
      exact h
    · have h := h.2 hc
      refine r_aload_n dX13_goesOn_42 rfl rfl ?_
      refine r_bipush dX13_goesOn_43 (by decide) rfl ?_
      refine r_callV (ci := 11) (As := [(0, 43)]) (st := []) (by decide) ok_X13_271 rfl rfl (Nat.le_of_ble_eq_true rfl) dX13_goesOn_45 h (fun r5 s6 hv h => ?_)
      refine r_if_ne (tgt := 87) dX13_goesOn_48 (by decide) (fun hc => ?_) (fun hc => ?_)
      · have h := h.1 hc
        exact r_fgt [true, false, false, false, false] rfl h
      · have h := h.2 hc
        refine r_aload_n dX13_goesOn_51 rfl rfl ?_
        refine r_bipush dX13_goesOn_52 (by decide) rfl ?_
        refine r_callV (ci := 11) (As := [(0, 45)]) (st := []) (by decide) ok_X13_271 rfl rfl (Nat.le_of_ble_eq_true rfl) dX13_goesOn_54 h (fun r7 s8 hv h => ?_)
        refine r_if_ne (tgt := 87) dX13_goesOn_57 (by decide) (fun hc => ?_) (fun hc => ?_)
        · have h := h.1 hc
          exact r_fgt [true, false, false, false, false] rfl h
        · have h := h.2 hc
          refine r_aload_n dX13_goesOn_60 rfl rfl ?_
          refine r_bipush dX13_goesOn_61 (by decide) rfl ?_
          refine r_callV (ci := 11) (As := [(0, 42)]) (st := []) (by decide) ok_X13_271 rfl rfl (Nat.le_of_ble_eq_true rfl) dX13_goesOn_63 h (fun r9 s10 hv h => ?_)
          refine r_if_ne (tgt := 87) dX13_goesOn_66 (by decide) (fun hc => ?_) (fun hc => ?_)
          · have h := h.1 hc
            exact r_fgt [true, false, false, false, false] rfl h
          · have h := h.2 hc
            refine r_aload_n dX13_goesOn_69 rfl rfl ?_
            refine r_bipush dX13_goesOn_70 (by decide) rfl ?_
            refine r_callV (ci := 11) (As := [(0, 47)]) (st := []) (by decide) ok_X13_271 rfl rfl (Nat.le_of_ble_eq_true rfl) dX13_goesOn_72 h (fun r11 s12 hv h => ?_)
            refine r_if_ne (tgt := 87) dX13_goesOn_75 (by decide) (fun hc => ?_) (fun hc => ?_)
            · have h := h.1 hc
              exact r_fgt [true, false, false, false, false] rfl h
            · have h := h.2 hc
              refine r_aload_n dX13_goesOn_78 rfl rfl ?_
              refine r_bipush dX13_goesOn_79 (by decide) rfl ?_
              refine r_callV (ci := 11) (As := [(0, 37)]) (st := []) (by decide) ok_X13_271 rfl rfl (Nat.le_of_ble_eq_true rfl) dX13_goesOn_81 h (fun r13 s14 hv h => ?_)
              refine r_if_eq (tgt := 188) dX13_goesOn_84 (by decide) (fun hc => ?_) (fun hc => ?_)
              · have h := h.1 hc
                exact h
              · have h := h.2 hc
                exact r_fgt [true, false, false, false, false] rfl h
  · have h := h.2 hc
    refine r_iconst dX13_goesOn_11 (by decide) ?_
    exact r_zret dX13_goesOn_12 rfl (by decide) h
abbrev P_X13_reads_38 (g : GT) (e : Nat) (Q : Int → Sg → Prop) (s : Sg) (x1 : Int) : Prop := Wp g (e + 1) M_X13_reads Q 38 [(21, 92), (9, 0), (9, 0)] [(0, x1), (21, 92)] s
abbrev P_X13_reads_43 (g : GT) (e : Nat) (Q : Int → Sg → Prop) (s : Sg) (v2 : Int) : Prop := Wp g (e + 1) M_X13_reads Q 43 [(21, 92), (9, 0), (0, v2)] [] s
abbrev P_X13_reads_70 (g : GT) (e : Nat) (Q : Int → Sg → Prop) (s : Sg) (v2 : Int) : Prop := Wp g (e + 1) M_X13_reads Q 70 [(21, 92), (9, 0), (0, v2)] [] s
set_option maxRecDepth 20000 in
theorem S_X13_reads_38 {g : GT} {e : Nat} {Q : Int → Sg → Prop} {s : Sg} {x1 : Int} (h : (Mw g e M_X13_pushes [(21, 92), (0, x1)] s (fun _ s2 => P_X13_reads_43 g e Q s2 1))) : P_X13_reads_38 g e Q s x1 := by
  refine r_callV (ci := 11) (As := [(0, x1)]) (st := []) (by decide) ok_X13_357 rfl rfl (Nat.le_of_ble_eq_true rfl) dX13_reads_38 h (fun r1 s2 hv h => ?_)
  refine r_iconst dX13_reads_41 (by decide) ?_
  refine r_istore_n (ls2 := [(21, 92), (9, 0), (0, 1)]) dX13_reads_42 (by decide) rfl ?_
  exact h
set_option maxRecDepth 20000 in
theorem S_X13_reads_43 {g : GT} {e : Nat} {Q : Int → Sg → Prop} {s : Sg} {v2 : Int} (h : ((v2 = 0 → Q 0 s) ∧ (¬ v2 = 0 → ((¬ (s 92 47) = 0 → (Mw g e M_X13_goesOn [(21, 92)] s (fun r1 s2 => P_X13_reads_70 g e Q s2 r1))) ∧ ((s 92 47) = 0 → (Mw g e M_X13_operand [(21, 92)] s (fun r3 s4 => ((r3 = 0 ∨ r3 = 1) ∧ ∀ s5, s5 = ups s4 92 47 r3 → P_X13_reads_70 g e Q s5 v2)))))))) : P_X13_reads_43 g e Q s v2 := by
  refine r_iload_n dX13_reads_43 rfl ?_
  refine r_if_eq (tgt := 90) dX13_reads_44 (by decide) (fun hc => ?_) (fun hc => ?_)
  · have h := h.1 hc
    exact r_ret dX13_reads_90 rfl h
  · have h := h.2 hc
    refine r_aload_n dX13_reads_47 rfl rfl ?_
    refine gf_X13_156 rfl dX13_reads_48 ?_
    refine r_if_ne (tgt := 65) dX13_reads_51 (by decide) (fun hc => ?_) (fun hc => ?_)
    · have h := h.1 hc
      refine r_aload_n dX13_reads_65 rfl rfl ?_
      refine r_callV (ci := 11) (As := []) (st := []) (by decide) ok_X13_379 rfl rfl (Nat.le_of_ble_eq_true rfl) dX13_reads_66 h (fun r1 s2 hv h => ?_)
      refine r_istore_n (ls2 := [(21, 92), (9, 0), (0, r1)]) dX13_reads_69 (by decide) rfl ?_
      exact h
    · have h := h.2 hc
      refine r_aload_n dX13_reads_54 rfl rfl ?_
      refine r_aload_n dX13_reads_55 rfl rfl ?_
      refine r_callV (ci := 11) (As := []) (st := [(21, 92)]) (by decide) ok_X13_376 rfl rfl (Nat.le_of_ble_eq_true rfl) dX13_reads_56 h (fun r3 s4 hv h => ?_)
      obtain ⟨hz, h⟩ := h
      refine pf_X13_156 rfl hz dX13_reads_59 ?_
      have h := h _ rfl
      generalize hs_s5 : ups s4 92 47 r3 = s5 at h ⊢
      refine r_goto (tgt := 70) dX13_reads_62 (by decide) ?_
      exact h
set_option maxRecDepth 20000 in
theorem S_X13_reads_70 {g : GT} {e : Nat} {Q : Int → Sg → Prop} {s : Sg} {v2 : Int} (h : ((v2 = 0 → P_X13_reads_43 g e Q s 0) ∧ (¬ v2 = 0 → ((¬ (s 92 8) = 0 → P_X13_reads_43 g e Q s 0) ∧ ((s 92 8) = 0 → P_X13_reads_43 g e Q s 1))))) : P_X13_reads_70 g e Q s v2 := by
  refine r_iload_n dX13_reads_70 rfl ?_
  refine r_if_eq (tgt := 85) dX13_reads_71 (by decide) (fun hc => ?_) (fun hc => ?_)
  · have h := h.1 hc
    refine r_iconst dX13_reads_85 (by decide) ?_
    refine r_istore_n (ls2 := [(21, 92), (9, 0), (0, 0)]) dX13_reads_86 (by decide) rfl ?_
    refine r_goto (tgt := 43) dX13_reads_87 (by decide) ?_
    exact h
  · have h := h.2 hc
    refine r_aload_n dX13_reads_74 rfl rfl ?_
    refine gf_X13_36 rfl dX13_reads_75 ?_
    refine r_if_ne (tgt := 85) dX13_reads_78 (by decide) (fun hc => ?_) (fun hc => ?_)
    · have h := h.1 hc
      refine r_iconst dX13_reads_85 (by decide) ?_
      refine r_istore_n (ls2 := [(21, 92), (9, 0), (0, 0)]) dX13_reads_86 (by decide) rfl ?_
      refine r_goto (tgt := 43) dX13_reads_87 (by decide) ?_
      exact h
    · have h := h.2 hc
      refine r_iconst dX13_reads_81 (by decide) ?_
      refine r_goto (tgt := 86) dX13_reads_82 (by decide) ?_
      refine r_istore_n (ls2 := [(21, 92), (9, 0), (0, 1)]) dX13_reads_86 (by decide) rfl ?_
      refine r_goto (tgt := 43) dX13_reads_87 (by decide) ?_
      exact h
set_option maxRecDepth 20000 in
theorem S_X13_reads {g : GT} {e : Nat} {Q : Int → Sg → Prop} {s : Sg} {v1 : Int} (h : inR v1 → (((s 92 8) ≤ 0 → (∀ s1, s1 = ups s 92 43 0 → (∀ s2, s2 = ups s1 92 44 0 → (∀ s3, s3 = ups s2 92 46 0 → (∀ s4, s4 = ups s3 92 47 0 → ((v1 = 0 → P_X13_reads_38 g e Q s4 0) ∧ (¬ v1 = 0 → P_X13_reads_38 g e Q s4 1))))))) ∧ (¬ (s 92 8) ≤ 0 → Q 0 s))) : Mw g (e + 1) M_X13_reads [(21, 92), (0, v1)] s Q := by
  refine Mw.of (ls := [(21, 92), (0, v1), (9, 0)]) pn_X13_reads (Nat.le_of_ble_eq_true rfl) rfl (fun hv => ?_)
  have h := h (hv _ (List.Mem.tail _ (List.Mem.head _)))
  refine r_aload_n dX13_reads_0 rfl rfl ?_
  refine gf_X13_36 rfl dX13_reads_1 ?_
  refine r_if_le (tgt := 8) dX13_reads_4 (by decide) (fun hc => ?_) (fun hc => ?_)
  · have h := h.1 hc
    refine r_aload_n dX13_reads_8 rfl rfl ?_
    refine r_iconst dX13_reads_9 (by decide) ?_
    refine pf_X13_144 rfl dX13_reads_10 ?_
    have h := h _ rfl
    generalize hs_s1 : ups s 92 43 0 = s1 at h ⊢
    refine r_aload_n dX13_reads_13 rfl rfl ?_
    refine r_iconst dX13_reads_14 (by decide) ?_
    refine pf_X13_147 rfl dX13_reads_15 ?_
    have h := h _ rfl
    generalize hs_s2 : ups s1 92 44 0 = s2 at h ⊢
    refine r_aload_n dX13_reads_18 rfl rfl ?_
    refine r_iconst dX13_reads_19 (by decide) ?_
    refine pf_X13_153 rfl dX13_reads_20 ?_
    have h := h _ rfl
    generalize hs_s3 : ups s2 92 46 0 = s3 at h ⊢
    refine r_aload_n dX13_reads_23 rfl rfl ?_
    refine r_iconst dX13_reads_24 (by decide) ?_
    refine pf_X13_156 rfl (by decide) dX13_reads_25 ?_
    have h := h _ rfl
    generalize hs_s4 : ups s3 92 47 0 = s4 at h ⊢
    refine r_aload_n dX13_reads_28 rfl rfl ?_
    refine r_iload_n dX13_reads_29 rfl ?_
    refine r_if_eq (tgt := 37) dX13_reads_30 (by decide) (fun hc => ?_) (fun hc => ?_)
    · have h := h.1 hc
      refine r_iconst dX13_reads_37 (by decide) ?_
      exact r_fgt [true, false, false] rfl h
    · have h := h.2 hc
      refine r_iconst dX13_reads_33 (by decide) ?_
      refine r_goto (tgt := 38) dX13_reads_34 (by decide) ?_
      exact r_fgt [true, false, false] rfl h
  · have h := h.2 hc
    exact r_ret dX13_reads_7 rfl h
abbrev P_X13_counts_21 (g : GT) (e : Nat) (Q : Int → Sg → Prop) (s : Sg) : Prop := Wp g (e + 1) M_X13_counts Q 21 [(21, 92), (9, 0)] [] s
abbrev P_X13_counts_32 (g : GT) (e : Nat) (Q : Int → Sg → Prop) (s : Sg) : Prop := Wp g (e + 1) M_X13_counts Q 32 [(21, 92), (9, 0)] [] s
set_option maxRecDepth 20000 in
theorem S_X13_counts_21 {g : GT} {e : Nat} {Q : Int → Sg → Prop} {s : Sg} (h : ((¬ (s 92 8) = 0 → P_X13_counts_32 g e Q s) ∧ ((s 92 8) = 0 → (Mw g e M_X13_ahead [(21, 92)] s (fun _ s2 => P_X13_counts_32 g e Q s2))))) : P_X13_counts_21 g e Q s := by
  refine r_aload_n dX13_counts_21 rfl rfl ?_
  refine gf_X13_36 rfl dX13_counts_22 ?_
  refine r_if_ne (tgt := 32) dX13_counts_25 (by decide) (fun hc => ?_) (fun hc => ?_)
  · have h := h.1 hc
    exact h
  · have h := h.2 hc
    refine r_aload_n dX13_counts_28 rfl rfl ?_
    refine r_callV (ci := 11) (As := []) (st := []) (by decide) ok_X13_274 rfl rfl (Nat.le_of_ble_eq_true rfl) dX13_counts_29 h (fun r1 s2 hv h => ?_)
    exact h
set_option maxRecDepth 20000 in
theorem S_X13_counts_32 {g : GT} {e : Nat} {Q : Int → Sg → Prop} {s : Sg} (h : ((¬ (s 92 8) = 0 → Q 0 s) ∧ ((s 92 8) = 0 → Q 1 s))) : P_X13_counts_32 g e Q s := by
  refine r_aload_n dX13_counts_32 rfl rfl ?_
  refine gf_X13_36 rfl dX13_counts_33 ?_
  refine r_if_ne (tgt := 43) dX13_counts_36 (by decide) (fun hc => ?_) (fun hc => ?_)
  · have h := h.1 hc
    refine r_iconst dX13_counts_43 (by decide) ?_
    exact r_zret dX13_counts_44 rfl (by decide) h
  · have h := h.2 hc
    refine r_iconst dX13_counts_39 (by decide) ?_
    refine r_goto (tgt := 44) dX13_counts_40 (by decide) ?_
    exact r_zret dX13_counts_44 rfl (by decide) h
set_option maxRecDepth 20000 in
theorem S_X13_counts {g : GT} {e : Nat} {Q : Int → Sg → Prop} {s : Sg} {v1 : Int} (h : inR v1 → ((¬ (s 92 8) = 0 → P_X13_counts_21 g e Q s) ∧ ((s 92 8) = 0 → ((v1 = 0 → P_X13_counts_21 g e Q s) ∧ (¬ v1 = 0 → (Mw g e M_X13_blame [(21, 92), (0, 6), (0, (s 92 4))] s (fun _ s2 => P_X13_counts_21 g e Q s2))))))) : Mw g (e + 1) M_X13_counts [(21, 92), (0, v1)] s Q := by
  refine Mw.of (ls := [(21, 92), (0, v1)]) pn_X13_counts (Nat.le_of_ble_eq_true rfl) rfl (fun hv => ?_)
  have h := h (hv _ (List.Mem.tail _ (List.Mem.head _)))
  refine r_aload_n dX13_counts_0 rfl rfl ?_
  refine gf_X13_36 rfl dX13_counts_1 ?_
  refine r_if_ne (tgt := 21) dX13_counts_4 (by decide) (fun hc => ?_) (fun hc => ?_)
  · have h := h.1 hc
    exact r_fgt [true, false] rfl h
  · have h := h.2 hc
    refine r_iload_n dX13_counts_7 rfl ?_
    refine r_if_eq (tgt := 21) dX13_counts_8 (by decide) (fun hc => ?_) (fun hc => ?_)
    · have h := h.1 hc
      exact r_fgt [true, false] rfl h
    · have h := h.2 hc
      refine r_aload_n dX13_counts_11 rfl rfl ?_
      refine r_bipush dX13_counts_12 (by decide) rfl ?_
      refine r_aload_n dX13_counts_14 rfl rfl ?_
      refine gf_X13_23 rfl dX13_counts_15 ?_
      refine r_callV (ci := 11) (As := [(0, 6), (0, (s 92 4))]) (st := []) (by decide) ok_X13_257 rfl rfl (Nat.le_of_ble_eq_true rfl) dX13_counts_18 h (fun r1 s2 hv h => ?_)
      exact r_fgt [true, false] rfl h
abbrev P_X13_must__29 (g : GT) (e : Nat) (Q : Int → Sg → Prop) (s : Sg) : Prop := Wp g (e + 1) M_X13_must_ Q 29 [(21, 92), (9, 0), (9, 0)] [] s
set_option maxRecDepth 20000 in
theorem S_X13_must__29 {g : GT} {e : Nat} {Q : Int → Sg → Prop} {s : Sg} (h : ((¬ (s 92 8) = 0 → Q 0 s) ∧ ((s 92 8) = 0 → (Mw g e M_X13_ahead [(21, 92)] s (fun _ s2 => Q 0 s2))))) : P_X13_must__29 g e Q s := by
  refine r_aload_n dX13_must__29 rfl rfl ?_
  refine gf_X13_36 rfl dX13_must__30 ?_
  refine r_if_ne (tgt := 40) dX13_must__33 (by decide) (fun hc => ?_) (fun hc => ?_)
  · have h := h.1 hc
    exact r_ret dX13_must__40 rfl h
  · have h := h.2 hc
    refine r_aload_n dX13_must__36 rfl rfl ?_
    refine r_callV (ci := 11) (As := []) (st := []) (by decide) ok_X13_274 rfl rfl (Nat.le_of_ble_eq_true rfl) dX13_must__37 h (fun r1 s2 hv h => ?_)
    exact r_ret dX13_must__40 rfl h
set_option maxRecDepth 20000 in
theorem S_X13_must_ {g : GT} {e : Nat} {Q : Int → Sg → Prop} {s : Sg} {v1 : Int} (h : inL v1 → (Mw g e M_X13_lex [(21, 92)] s (fun _ s2 => (((s2 92 8) ≤ 0 → (Mw g e M_X13_isWord [(21, 92), (2, v1)] s2 (fun r3 s4 => ((¬ r3 = 0 → P_X13_must__29 g e Q s4) ∧ (r3 = 0 → (Mw g e M_X13_blame [(21, 92), (0, 1), (0, (s4 92 4))] s4 (fun _ s6 => P_X13_must__29 g e Q s6))))))) ∧ (¬ (s2 92 8) ≤ 0 → Q 0 s2))))) : Mw g (e + 1) M_X13_must_ [(21, 92), (2, v1)] s Q := by
  refine Mw.of (ls := [(21, 92), (2, v1), (9, 0)]) pn_X13_must_ (Nat.le_of_ble_eq_true rfl) rfl (fun hv => ?_)
  have h := h (hv _ (List.Mem.tail _ (List.Mem.head _)))
  refine r_aload_n dX13_must__0 rfl rfl ?_
  refine r_callV (ci := 11) (As := []) (st := []) (by decide) ok_X13_268 rfl rfl (Nat.le_of_ble_eq_true rfl) dX13_must__1 h (fun r1 s2 hv h => ?_)
  refine r_aload_n dX13_must__4 rfl rfl ?_
  refine gf_X13_36 rfl dX13_must__5 ?_
  refine r_if_le (tgt := 12) dX13_must__8 (by decide) (fun hc => ?_) (fun hc => ?_)
  · have h := h.1 hc
    refine r_aload_n dX13_must__12 rfl rfl ?_
    refine r_lload_n dX13_must__13 rfl ?_
    refine r_callV (ci := 11) (As := [(2, v1)]) (st := []) (by decide) ok_X13_363 rfl rfl (Nat.le_of_ble_eq_true rfl) dX13_must__14 h (fun r3 s4 hv h => ?_)
    refine r_if_ne (tgt := 29) dX13_must__17 (by decide) (fun hc => ?_) (fun hc => ?_)
    · have h := h.1 hc
      exact r_fgt [true, false, false] rfl h
    · have h := h.2 hc
      refine r_aload_n dX13_must__20 rfl rfl ?_
      refine r_iconst dX13_must__21 (by decide) ?_
      refine r_aload_n dX13_must__22 rfl rfl ?_
      refine gf_X13_23 rfl dX13_must__23 ?_
      refine r_callV (ci := 11) (As := [(0, 1), (0, (s4 92 4))]) (st := []) (by decide) ok_X13_257 rfl rfl (Nat.le_of_ble_eq_true rfl) dX13_must__26 h (fun r5 s6 hv h => ?_)
      exact r_fgt [true, false, false] rfl h
  · have h := h.2 hc
    exact r_ret dX13_must__11 rfl h
abbrev P_X13_fresh_32 (g : GT) (e : Nat) (Q : Int → Sg → Prop) (s : Sg) : Prop := Wp g (e + 1) M_X13_fresh Q 32 [(21, 92), (9, 0), (9, 0)] [] s
abbrev P_X13_fresh_43 (g : GT) (e : Nat) (Q : Int → Sg → Prop) (s : Sg) (v1 : Int) : Prop := Wp g (e + 1) M_X13_fresh Q 43 [(21, 92), (0, v1), (9, 0)] [] s
abbrev P_X13_fresh_83 (g : GT) (e : Nat) (Q : Int → Sg → Prop) (s : Sg) : Prop := Wp g (e + 1) M_X13_fresh Q 83 [(21, 92), (9, 0), (9, 0)] [] s
set_option maxRecDepth 20000 in
theorem S_X13_fresh_32 {g : GT} {e : Nat} {Q : Int → Sg → Prop} {s : Sg} (h : (Mw g e M_X13_blame [(21, 92), (0, 1), (0, (s 92 4))] s (fun _ s2 => P_X13_fresh_43 g e Q s2 0))) : P_X13_fresh_32 g e Q s := by
  refine r_aload_n dX13_fresh_32 rfl rfl ?_
  refine r_iconst dX13_fresh_33 (by decide) ?_
  refine r_aload_n dX13_fresh_34 rfl rfl ?_
  refine gf_X13_23 rfl dX13_fresh_35 ?_
  refine r_callV (ci := 11) (As := [(0, 1), (0, (s 92 4))]) (st := []) (by decide) ok_X13_257 rfl rfl (Nat.le_of_ble_eq_true rfl) dX13_fresh_38 h (fun r1 s2 hv h => ?_)
  refine r_iconst dX13_fresh_41 (by decide) ?_
  refine r_istore_n (ls2 := [(21, 92), (0, 0), (9, 0)]) dX13_fresh_42 (by decide) rfl ?_
  exact h
set_option maxRecDepth 20000 in
theorem S_X13_fresh_43 {g : GT} {e : Nat} {Q : Int → Sg → Prop} {s : Sg} {v1 : Int} (h : ((2 < v1 → P_X13_fresh_83 g e Q s) ∧ (¬ 2 < v1 → ((¬ (s 92 8) = 0 → P_X13_fresh_83 g e Q s) ∧ ((s 92 8) = 0 → (Mw g e M_X13_named [(21, 92), (0, v1), (2, (s 92 7))] s (fun r1 s2 => ((r1 = (-1) → P_X13_fresh_43 g e Q s2 (w32 (v1 + 1))) ∧ (¬ r1 = (-1) → (Mw g e M_X13_blame [(21, 92), (0, 2), (0, (s2 92 4))] s2 (fun _ s4 => P_X13_fresh_43 g e Q s4 (w32 (v1 + 1))))))))))))) : P_X13_fresh_43 g e Q s v1 := by
  refine r_iload_n dX13_fresh_43 rfl ?_
  refine r_iconst dX13_fresh_44 (by decide) ?_
  refine r_icmp_gt (tgt := 83) dX13_fresh_45 (by decide) (fun hc => ?_) (fun hc => ?_)
  · have h := h.1 hc
    exact r_fgt [true, false, false] rfl h
  · have h := h.2 hc
    refine r_aload_n dX13_fresh_48 rfl rfl ?_
    refine gf_X13_36 rfl dX13_fresh_49 ?_
    refine r_if_ne (tgt := 83) dX13_fresh_52 (by decide) (fun hc => ?_) (fun hc => ?_)
    · have h := h.1 hc
      exact r_fgt [true, false, false] rfl h
    · have h := h.2 hc
      refine r_aload_n dX13_fresh_55 rfl rfl ?_
      refine r_iload_n dX13_fresh_56 rfl ?_
      refine r_aload_n dX13_fresh_57 rfl rfl ?_
      refine gf_X13_32 rfl dX13_fresh_58 ?_
      refine r_callV (ci := 11) (As := [(0, v1), (2, (s 92 7))]) (st := []) (by decide) ok_X13_385 rfl rfl (Nat.le_of_ble_eq_true rfl) dX13_fresh_61 h (fun r1 s2 hv h => ?_)
      refine r_iconst dX13_fresh_64 (by decide) ?_
      refine r_icmp_eq (tgt := 77) dX13_fresh_65 (by decide) (fun hc => ?_) (fun hc => ?_)
      · have h := h.1 hc
        refine r_iinc (ls2 := [(21, 92), (0, (w32 (v1 + 1))), (9, 0)]) dX13_fresh_77 rfl (by decide) rfl ?_
        refine r_goto (tgt := 43) dX13_fresh_80 (by decide) ?_
        exact h
      · have h := h.2 hc
        refine r_aload_n dX13_fresh_68 rfl rfl ?_
        refine r_iconst dX13_fresh_69 (by decide) ?_
        refine r_aload_n dX13_fresh_70 rfl rfl ?_
        refine gf_X13_23 rfl dX13_fresh_71 ?_
        refine r_callV (ci := 11) (As := [(0, 2), (0, (s2 92 4))]) (st := []) (by decide) ok_X13_257 rfl rfl (Nat.le_of_ble_eq_true rfl) dX13_fresh_74 h (fun r3 s4 hv h => ?_)
        refine r_iinc (ls2 := [(21, 92), (0, (w32 (v1 + 1))), (9, 0)]) dX13_fresh_77 rfl (by decide) rfl ?_
        refine r_goto (tgt := 43) dX13_fresh_80 (by decide) ?_
        exact h
set_option maxRecDepth 20000 in
theorem S_X13_fresh_83 {g : GT} {e : Nat} {Q : Int → Sg → Prop} {s : Sg} (h : ((¬ (s 92 8) = 0 → Q (s 92 7) s) ∧ ((s 92 8) = 0 → (Mw g e M_X13_ahead [(21, 92)] s (fun _ s2 => Q (s 92 7) s2))))) : P_X13_fresh_83 g e Q s := by
  refine r_aload_n dX13_fresh_83 rfl rfl ?_
  refine gf_X13_32 rfl dX13_fresh_84 ?_
  refine r_lstore_n (ls2 := [(21, 92), (2, (s 92 7)), (9, 0)]) dX13_fresh_87 (by decide) rfl ?_
  refine r_aload_n dX13_fresh_88 rfl rfl ?_
  refine gf_X13_36 rfl dX13_fresh_89 ?_
  refine r_if_ne (tgt := 99) dX13_fresh_92 (by decide) (fun hc => ?_) (fun hc => ?_)
  · have h := h.1 hc
    refine r_lload_n dX13_fresh_99 rfl ?_
    exact r_lret dX13_fresh_100 rfl h
  · have h := h.2 hc
    refine r_aload_n dX13_fresh_95 rfl rfl ?_
    refine r_callV (ci := 11) (As := []) (st := []) (by decide) ok_X13_274 rfl rfl (Nat.le_of_ble_eq_true rfl) dX13_fresh_96 h (fun r1 s2 hv h => ?_)
    refine r_lload_n dX13_fresh_99 rfl ?_
    exact r_lret dX13_fresh_100 rfl h
set_option maxRecDepth 20000 in
theorem S_X13_fresh {g : GT} {e : Nat} {Q : Int → Sg → Prop} {s : Sg} (h : (Mw g e M_X13_lex [(21, 92)] s (fun _ s2 => (((s2 92 8) ≤ 0 → ((¬ (s2 92 3) = 1 → P_X13_fresh_32 g e Q s2) ∧ ((s2 92 3) = 1 → (Mw g e M_X13_isOwn [(21, 92), (2, (s2 92 7))] s2 (fun r3 s4 => ((r3 = 0 → P_X13_fresh_43 g e Q s4 0) ∧ (¬ r3 = 0 → P_X13_fresh_32 g e Q s4))))))) ∧ (¬ (s2 92 8) ≤ 0 → Q 0 s2))))) : Mw g (e + 1) M_X13_fresh [(21, 92)] s Q := by
  refine Mw.of (ls := [(21, 92), (9, 0), (9, 0)]) pn_X13_fresh (Nat.le_of_ble_eq_true rfl) rfl (fun hv => ?_)
  refine r_aload_n dX13_fresh_0 rfl rfl ?_
  refine r_callV (ci := 11) (As := []) (st := []) (by decide) ok_X13_268 rfl rfl (Nat.le_of_ble_eq_true rfl) dX13_fresh_1 h (fun r1 s2 hv h => ?_)
  refine r_aload_n dX13_fresh_4 rfl rfl ?_
  refine gf_X13_36 rfl dX13_fresh_5 ?_
  refine r_if_le (tgt := 13) dX13_fresh_8 (by decide) (fun hc => ?_) (fun hc => ?_)
  · have h := h.1 hc
    refine r_aload_n dX13_fresh_13 rfl rfl ?_
    refine gf_X13_20 rfl dX13_fresh_14 ?_
    refine r_iconst dX13_fresh_17 (by decide) ?_
    refine r_icmp_ne (tgt := 32) dX13_fresh_18 (by decide) (fun hc => ?_) (fun hc => ?_)
    · have h := h.1 hc
      exact h
    · have h := h.2 hc
      refine r_aload_n dX13_fresh_21 rfl rfl ?_
      refine r_aload_n dX13_fresh_22 rfl rfl ?_
      refine gf_X13_32 rfl dX13_fresh_23 ?_
      refine r_callV (ci := 11) (As := [(2, (s2 92 7))]) (st := []) (by decide) ok_X13_382 rfl rfl (Nat.le_of_ble_eq_true rfl) dX13_fresh_26 h (fun r3 s4 hv h => ?_)
      refine r_if_eq (tgt := 41) dX13_fresh_29 (by decide) (fun hc => ?_) (fun hc => ?_)
      · have h := h.1 hc
        refine r_iconst dX13_fresh_41 (by decide) ?_
        refine r_istore_n (ls2 := [(21, 92), (0, 0), (9, 0)]) dX13_fresh_42 (by decide) rfl ?_
        exact h
      · have h := h.2 hc
        exact h
  · have h := h.2 hc
    refine r_lconst (v := 0) dX13_fresh_11 rfl (by decide) ?_
    exact r_lret dX13_fresh_12 rfl h
set_option maxRecDepth 20000 in
theorem S_X13_has2 {g : GT} {e : Nat} {Q : Int → Sg → Prop} {s : Sg} {v0 : Int} {v1 : Int} (h : inR v0 → inR v1 → ((¬ (bAnd (bShr v0 v1) 1) = 1 → Q 0 s) ∧ ((bAnd (bShr v0 v1) 1) = 1 → Q 1 s))) : Mw g (e + 1) M_X13_has2 [(0, v0), (0, v1)] s Q := by
  refine Mw.of (ls := [(0, v0), (0, v1)]) pn_X13_has2 (Nat.le_of_ble_eq_true rfl) rfl (fun hv => ?_)
  have h := h (hv _ (List.Mem.head _)) (hv _ (List.Mem.tail _ (List.Mem.head _)))
  refine r_iload_n dX13_has2_0 rfl ?_
  refine r_iload_n dX13_has2_1 rfl ?_
  refine r_ishr dX13_has2_2 ?_
  refine r_iconst dX13_has2_3 (by decide) ?_
  refine r_iand dX13_has2_4 ?_
  refine r_iconst dX13_has2_5 (by decide) ?_
  refine r_icmp_ne (tgt := 13) dX13_has2_6 (by decide) (fun hc => ?_) (fun hc => ?_)
  · have h := h.1 hc
    refine r_iconst dX13_has2_13 (by decide) ?_
    exact r_zret dX13_has2_14 rfl (by decide) h
  · have h := h.2 hc
    refine r_iconst dX13_has2_9 (by decide) ?_
    refine r_goto (tgt := 14) dX13_has2_10 (by decide) ?_
    exact r_zret dX13_has2_14 rfl (by decide) h
abbrev P_X13_askedBut_32 (g : GT) (e : Nat) (Q : Int → Sg → Prop) (s : Sg) (v1 : Int) (v2 : Int) : Prop := Wp g (e + 1) M_X13_askedBut Q 32 [(21, 92), (0, v1), (0, v2), (9, 0)] [] s
abbrev P_X13_askedBut_41 (g : GT) (e : Nat) (Q : Int → Sg → Prop) (s : Sg) (v1 : Int) (v2 : Int) : Prop := Wp g (e + 1) M_X13_askedBut Q 41 [(21, 92), (0, v1), (0, v2), (9, 0)] [] s
abbrev P_X13_askedBut_61 (g : GT) (e : Nat) (Q : Int → Sg → Prop) (s : Sg) (v2 : Int) (x0 : Int) : Prop := Wp g (e + 1) M_X13_askedBut Q 61 [(21, 92), (9, 0), (0, v2), (9, 0)] [(0, x0)] s
abbrev P_X13_askedBut_82 (g : GT) (e : Nat) (Q : Int → Sg → Prop) (s : Sg) (v3 : Int) : Prop := Wp g (e + 1) M_X13_askedBut Q 82 [(21, 92), (9, 0), (9, 0), (0, v3)] [] s
abbrev P_X13_askedBut_91 (g : GT) (e : Nat) (Q : Int → Sg → Prop) (s : Sg) (v3 : Int) : Prop := Wp g (e + 1) M_X13_askedBut Q 91 [(21, 92), (9, 0), (9, 0), (0, v3)] [] s
abbrev P_X13_askedBut_102 (g : GT) (e : Nat) (Q : Int → Sg → Prop) (s : Sg) (v3 : Int) : Prop := Wp g (e + 1) M_X13_askedBut Q 102 [(21, 92), (9, 0), (9, 0), (0, v3)] [] s
set_option maxRecDepth 20000 in
theorem S_X13_askedBut_32 {g : GT} {e : Nat} {Q : Int → Sg → Prop} {s : Sg} {v1 : Int} {v2 : Int} (h : (Mw g e M_X13_blame [(21, 92), (0, 1), (0, (s 92 4))] s (fun _ s2 => P_X13_askedBut_41 g e Q s2 v1 v2))) : P_X13_askedBut_32 g e Q s v1 v2 := by
  refine r_aload_n dX13_askedBut_32 rfl rfl ?_
  refine r_iconst dX13_askedBut_33 (by decide) ?_
  refine r_aload_n dX13_askedBut_34 rfl rfl ?_
  refine gf_X13_23 rfl dX13_askedBut_35 ?_
  refine r_callV (ci := 11) (As := [(0, 1), (0, (s 92 4))]) (st := []) (by decide) ok_X13_257 rfl rfl (Nat.le_of_ble_eq_true rfl) dX13_askedBut_38 h (fun r1 s2 hv h => ?_)
  exact h
set_option maxRecDepth 20000 in
theorem S_X13_askedBut_41 {g : GT} {e : Nat} {Q : Int → Sg → Prop} {s : Sg} {v1 : Int} {v2 : Int} (h : (((s 92 8) ≤ 0 → (Mw g e M_X13_named [(21, 92), (0, v1), (2, (s 92 7))] s (fun r1 s2 => P_X13_askedBut_61 g e Q s2 v2 r1))) ∧ (¬ (s 92 8) ≤ 0 → P_X13_askedBut_61 g e Q s v2 0))) : P_X13_askedBut_41 g e Q s v1 v2 := by
  refine r_aload_n dX13_askedBut_41 rfl rfl ?_
  refine gf_X13_36 rfl dX13_askedBut_42 ?_
  refine r_if_le (tgt := 52) dX13_askedBut_45 (by decide) (fun hc => ?_) (fun hc => ?_)
  · have h := h.1 hc
    refine r_aload_n dX13_askedBut_52 rfl rfl ?_
    refine r_iload_n dX13_askedBut_53 rfl ?_
    refine r_aload_n dX13_askedBut_54 rfl rfl ?_
    refine gf_X13_32 rfl dX13_askedBut_55 ?_
    refine r_callV (ci := 11) (As := [(0, v1), (2, (s 92 7))]) (st := []) (by decide) ok_X13_385 rfl rfl (Nat.le_of_ble_eq_true rfl) dX13_askedBut_58 h (fun r1 s2 hv h => ?_)
    exact r_fgt [true, false, true, false] rfl h
  · have h := h.2 hc
    refine r_iconst dX13_askedBut_48 (by decide) ?_
    refine r_goto (tgt := 61) dX13_askedBut_49 (by decide) ?_
    exact r_fgt [true, false, true, false] rfl h
set_option maxRecDepth 20000 in
theorem S_X13_askedBut_61 {g : GT} {e : Nat} {Q : Int → Sg → Prop} {s : Sg} {v2 : Int} {x0 : Int} (h : ((¬ (s 92 8) = 0 → P_X13_askedBut_91 g e Q s x0) ∧ ((s 92 8) = 0 → ((x0 = (-1) → P_X13_askedBut_82 g e Q s x0) ∧ (¬ x0 = (-1) → (Mw g e M_X13_has2 [(0, v2), (0, x0)] s (fun r1 s2 => ((r1 = 0 → P_X13_askedBut_91 g e Q s2 x0) ∧ (¬ r1 = 0 → P_X13_askedBut_82 g e Q s2 x0))))))))) : P_X13_askedBut_61 g e Q s v2 x0 := by
  refine r_istore_n (ls2 := [(21, 92), (9, 0), (0, v2), (0, x0)]) dX13_askedBut_61 (by decide) rfl ?_
  refine r_aload_n dX13_askedBut_62 rfl rfl ?_
  refine gf_X13_36 rfl dX13_askedBut_63 ?_
  refine r_if_ne (tgt := 91) dX13_askedBut_66 (by decide) (fun hc => ?_) (fun hc => ?_)
  · have h := h.1 hc
    exact r_fgt [true, false, false, true] rfl h
  · have h := h.2 hc
    refine r_iload_n dX13_askedBut_69 rfl ?_
    refine r_iconst dX13_askedBut_70 (by decide) ?_
    refine r_icmp_eq (tgt := 82) dX13_askedBut_71 (by decide) (fun hc => ?_) (fun hc => ?_)
    · have h := h.1 hc
      exact r_fgt [true, false, false, true] rfl h
    · have h := h.2 hc
      refine r_iload_n dX13_askedBut_74 rfl ?_
      refine r_iload_n dX13_askedBut_75 rfl ?_
      refine r_callS (As := [(0, v2), (0, x0)]) (st := []) ok_X13_389 rfl rfl (Nat.le_of_ble_eq_true rfl) dX13_askedBut_76 h (fun r1 s2 hv h => ?_)
      refine r_if_eq (tgt := 91) dX13_askedBut_79 (by decide) (fun hc => ?_) (fun hc => ?_)
      · have h := h.1 hc
        exact r_fgt [true, false, false, true] rfl h
      · have h := h.2 hc
        exact r_fgt [true, false, false, true] rfl h
set_option maxRecDepth 20000 in
theorem S_X13_askedBut_82 {g : GT} {e : Nat} {Q : Int → Sg → Prop} {s : Sg} {v3 : Int} (h : (Mw g e M_X13_blame [(21, 92), (0, 3), (0, (s 92 4))] s (fun _ s2 => P_X13_askedBut_91 g e Q s2 v3))) : P_X13_askedBut_82 g e Q s v3 := by
  refine r_aload_n dX13_askedBut_82 rfl rfl ?_
  refine r_iconst dX13_askedBut_83 (by decide) ?_
  refine r_aload_n dX13_askedBut_84 rfl rfl ?_
  refine gf_X13_23 rfl dX13_askedBut_85 ?_
  refine r_callV (ci := 11) (As := [(0, 3), (0, (s 92 4))]) (st := []) (by decide) ok_X13_257 rfl rfl (Nat.le_of_ble_eq_true rfl) dX13_askedBut_88 h (fun r1 s2 hv h => ?_)
  exact h
set_option maxRecDepth 20000 in
theorem S_X13_askedBut_91 {g : GT} {e : Nat} {Q : Int → Sg → Prop} {s : Sg} {v3 : Int} (h : ((¬ (s 92 8) = 0 → P_X13_askedBut_102 g e Q s v3) ∧ ((s 92 8) = 0 → (Mw g e M_X13_ahead [(21, 92)] s (fun _ s2 => P_X13_askedBut_102 g e Q s2 v3))))) : P_X13_askedBut_91 g e Q s v3 := by
  refine r_aload_n dX13_askedBut_91 rfl rfl ?_
  refine gf_X13_36 rfl dX13_askedBut_92 ?_
  refine r_if_ne (tgt := 102) dX13_askedBut_95 (by decide) (fun hc => ?_) (fun hc => ?_)
  · have h := h.1 hc
    exact h
  · have h := h.2 hc
    refine r_aload_n dX13_askedBut_98 rfl rfl ?_
    refine r_callV (ci := 11) (As := []) (st := []) (by decide) ok_X13_274 rfl rfl (Nat.le_of_ble_eq_true rfl) dX13_askedBut_99 h (fun r1 s2 hv h => ?_)
    exact h
set_option maxRecDepth 20000 in
theorem S_X13_askedBut_102 {g : GT} {e : Nat} {Q : Int → Sg → Prop} {s : Sg} {v3 : Int} (h : (((s 92 8) ≤ 0 → Q v3 s) ∧ (¬ (s 92 8) ≤ 0 → Q 0 s))) : P_X13_askedBut_102 g e Q s v3 := by
  refine r_aload_n dX13_askedBut_102 rfl rfl ?_
  refine gf_X13_36 rfl dX13_askedBut_103 ?_
  refine r_if_le (tgt := 113) dX13_askedBut_106 (by decide) (fun hc => ?_) (fun hc => ?_)
  · have h := h.1 hc
    refine r_iload_n dX13_askedBut_113 rfl ?_
    exact r_iret dX13_askedBut_114 rfl h
  · have h := h.2 hc
    refine r_iconst dX13_askedBut_109 (by decide) ?_
    refine r_goto (tgt := 114) dX13_askedBut_110 (by decide) ?_
    exact r_iret dX13_askedBut_114 rfl h
set_option maxRecDepth 20000 in
theorem S_X13_askedBut {g : GT} {e : Nat} {Q : Int → Sg → Prop} {s : Sg} {v1 : Int} {v2 : Int} (h : inR v1 → inR v2 → (Mw g e M_X13_lex [(21, 92)] s (fun _ s2 => (((s2 92 8) ≤ 0 → ((¬ (s2 92 3) = 1 → P_X13_askedBut_32 g e Q s2 v1 v2) ∧ ((s2 92 3) = 1 → (Mw g e M_X13_isOwn [(21, 92), (2, (s2 92 7))] s2 (fun r3 s4 => ((r3 = 0 → P_X13_askedBut_41 g e Q s4 v1 v2) ∧ (¬ r3 = 0 → P_X13_askedBut_32 g e Q s4 v1 v2))))))) ∧ (¬ (s2 92 8) ≤ 0 → Q 0 s2))))) : Mw g (e + 1) M_X13_askedBut [(21, 92), (0, v1), (0, v2)] s Q := by
  refine Mw.of (ls := [(21, 92), (0, v1), (0, v2), (9, 0)]) pn_X13_askedBut (Nat.le_of_ble_eq_true rfl) rfl (fun hv => ?_)
  have h := h (hv _ (List.Mem.tail _ (List.Mem.head _))) (hv _ (List.Mem.tail _ (List.Mem.tail _ (List.Mem.head _))))
  refine r_aload_n dX13_askedBut_0 rfl rfl ?_
  refine r_callV (ci := 11) (As := []) (st := []) (by decide) ok_X13_268 rfl rfl (Nat.le_of_ble_eq_true rfl) dX13_askedBut_1 h (fun r1 s2 hv h => ?_)
  refine r_aload_n dX13_askedBut_4 rfl rfl ?_
  refine gf_X13_36 rfl dX13_askedBut_5 ?_
  refine r_if_le (tgt := 13) dX13_askedBut_8 (by decide) (fun hc => ?_) (fun hc => ?_)
  · have h := h.1 hc
    refine r_aload_n dX13_askedBut_13 rfl rfl ?_
    refine gf_X13_20 rfl dX13_askedBut_14 ?_
    refine r_iconst dX13_askedBut_17 (by decide) ?_
    refine r_icmp_ne (tgt := 32) dX13_askedBut_18 (by decide) (fun hc => ?_) (fun hc => ?_)
    · have h := h.1 hc
      exact h
    · have h := h.2 hc
      refine r_aload_n dX13_askedBut_21 rfl rfl ?_
      refine r_aload_n dX13_askedBut_22 rfl rfl ?_
      refine gf_X13_32 rfl dX13_askedBut_23 ?_
      refine r_callV (ci := 11) (As := [(2, (s2 92 7))]) (st := []) (by decide) ok_X13_382 rfl rfl (Nat.le_of_ble_eq_true rfl) dX13_askedBut_26 h (fun r3 s4 hv h => ?_)
      refine r_if_eq (tgt := 41) dX13_askedBut_29 (by decide) (fun hc => ?_) (fun hc => ?_)
      · have h := h.1 hc
        exact h
      · have h := h.2 hc
        exact h
  · have h := h.2 hc
    refine r_iconst dX13_askedBut_11 (by decide) ?_
    exact r_iret dX13_askedBut_12 rfl h
abbrev P_X13_homing_20 (g : GT) (e : Nat) (Q : Int → Sg → Prop) (s : Sg) (x1 : Int) : Prop := Wp g (e + 1) M_X13_homing Q 20 [(21, 92), (9, 0)] [(0, x1), (21, 92)] s
set_option maxRecDepth 20000 in
theorem S_X13_homing_20 {g : GT} {e : Nat} {Q : Int → Sg → Prop} {s : Sg} {x1 : Int} (h : (Mw g e M_X13_counts [(21, 92), (0, x1)] s (fun r1 s2 => ((¬ r1 = 0 → ((0 ≤ (s2 92 36) ∧ (s2 92 36) < 2) ∧ (Mw g e M_X13_fresh [(21, 92)] s2 (fun r3 s4 => ((0 ≤ (w32 ((w32 (6 * (s2 92 36))) + (s2 94 (s2 92 36)))) ∧ (w32 ((w32 (6 * (s2 92 36))) + (s2 94 (s2 92 36)))) < 12) ∧ ∀ s5, s5 = ups s4 112 (w32 ((w32 (6 * (s2 92 36))) + (s2 94 (s2 92 36)))) r3 → (Mw g e M_X13_must_ [(21, 92), (2, 1952541803)] s5 (fun _ s7 => (Mw g e M_X13_number [(21, 92), (0, 0), (0, 9)] s7 (fun r8 s9 => ((0 ≤ (w32 ((w32 (6 * (s2 92 36))) + (s2 94 (s2 92 36)))) ∧ (w32 ((w32 (6 * (s2 92 36))) + (s2 94 (s2 92 36)))) < 12) ∧ ∀ s10, s10 = ups s9 95 (w32 ((w32 (6 * (s2 92 36))) + (s2 94 (s2 92 36)))) r8 → (Mw g e M_X13_must_ [(21, 92), (2, 2002874989)] s10 (fun _ s12 => (Mw g e M_X13_number [(21, 92), (0, 0), (0, 9)] s12 (fun r13 s14 => ((0 ≤ (w32 ((w32 (6 * (s2 92 36))) + (s2 94 (s2 92 36)))) ∧ (w32 ((w32 (6 * (s2 92 36))) + (s2 94 (s2 92 36)))) < 12) ∧ ∀ s15, s15 = ups s14 96 (w32 ((w32 (6 * (s2 92 36))) + (s2 94 (s2 92 36)))) r13 → ((¬ (s15 92 8) = 0 → Q 0 s15) ∧ ((s15 92 8) = 0 → ((0 ≤ (s15 92 36) ∧ (s15 92 36) < 2) ∧ ((0 ≤ (s15 92 36) ∧ (s15 92 36) < 2) ∧ ∀ s16, s16 = ups s15 94 (s15 92 36) (w32 ((s15 94 (s15 92 36)) + 1)) → Q 0 s16))))))))))))))))))) ∧ (r1 = 0 → Q 0 s2))))) : P_X13_homing_20 g e Q s x1 := by
  refine r_callV (ci := 11) (As := [(0, x1)]) (st := []) (by decide) ok_X13_393 rfl rfl (Nat.le_of_ble_eq_true rfl) dX13_homing_20 h (fun r1 s2 hv h => ?_)
  refine r_if_ne (tgt := 27) dX13_homing_23 (by decide) (fun hc => ?_) (fun hc => ?_)
  · have h := h.1 hc
    refine r_bipush dX13_homing_27 (by decide) rfl ?_
    refine r_aload_n dX13_homing_29 rfl rfl ?_
    refine gf_X13_121 rfl dX13_homing_30 ?_
    refine r_imul dX13_homing_33 ?_
    refine r_aload_n dX13_homing_34 rfl rfl ?_
    refine gf_X13_54 rfl dX13_homing_35 ?_
    refine r_aload_n dX13_homing_38 rfl rfl ?_
    refine gf_X13_121 rfl dX13_homing_39 ?_
    obtain ⟨hb, h⟩ := h
    refine r_iald (n := 2) rfl (by decide) dX13_homing_42 hb ?_
    refine r_iadd dX13_homing_43 ?_
    refine r_istore_n (ls2 := [(21, 92), (0, (w32 ((w32 (6 * (s2 92 36))) + (s2 94 (s2 92 36)))))]) dX13_homing_44 (by decide) rfl ?_
    refine r_aload_n dX13_homing_45 rfl rfl ?_
    refine gf_X13_108 rfl dX13_homing_46 ?_
    refine r_iload_n dX13_homing_49 rfl ?_
    refine r_aload_n dX13_homing_50 rfl rfl ?_
    refine r_callV (ci := 11) (As := []) (st := [(0, (w32 ((w32 (6 * (s2 92 36))) + (s2 94 (s2 92 36))))), (50, 112)]) (by decide) ok_X13_397 rfl rfl (Nat.le_of_ble_eq_true rfl) dX13_homing_51 h (fun r3 s4 hv h => ?_)
    obtain ⟨hb, h⟩ := h
    refine r_last (n := 12) rfl (by decide) dX13_homing_54 hb ?_
    have h := h _ rfl
    generalize hs_s5 : ups s4 112 (w32 ((w32 (6 * (s2 92 36))) + (s2 94 (s2 92 36)))) r3 = s5 at h ⊢
    refine r_aload_n dX13_homing_55 rfl rfl ?_
    refine r_ldc2 (v := 1952541803) dX13_homing_56 lk_X13_279 (by decide) ?_
    refine r_callV (ci := 11) (As := [(2, 1952541803)]) (st := []) (by decide) ok_X13_401 rfl rfl (Nat.le_of_ble_eq_true rfl) dX13_homing_59 h (fun r6 s7 hv h => ?_)
    refine r_aload_n dX13_homing_62 rfl rfl ?_
    refine gf_X13_57 rfl dX13_homing_63 ?_
    refine r_iload_n dX13_homing_66 rfl ?_
    refine r_aload_n dX13_homing_67 rfl rfl ?_
    refine r_iconst dX13_homing_68 (by decide) ?_
    refine r_bipush dX13_homing_69 (by decide) rfl ?_
    refine r_callV (ci := 11) (As := [(0, 0), (0, 9)]) (st := [(0, (w32 ((w32 (6 * (s2 92 36))) + (s2 94 (s2 92 36))))), (47, 95)]) (by decide) ok_X13_405 rfl rfl (Nat.le_of_ble_eq_true rfl) dX13_homing_71 h (fun r8 s9 hv h => ?_)
    obtain ⟨hb, h⟩ := h
    refine r_iast (n := 12) rfl (by decide) dX13_homing_74 hb ?_
    have h := h _ rfl
    generalize hs_s10 : ups s9 95 (w32 ((w32 (6 * (s2 92 36))) + (s2 94 (s2 92 36)))) r8 = s10 at h ⊢
    refine r_aload_n dX13_homing_75 rfl rfl ?_
    refine r_ldc2 (v := 2002874989) dX13_homing_76 lk_X13_281 (by decide) ?_
    refine r_callV (ci := 11) (As := [(2, 2002874989)]) (st := []) (by decide) ok_X13_401 rfl rfl (Nat.le_of_ble_eq_true rfl) dX13_homing_79 h (fun r11 s12 hv h => ?_)
    refine r_aload_n dX13_homing_82 rfl rfl ?_
    refine gf_X13_60 rfl dX13_homing_83 ?_
    refine r_iload_n dX13_homing_86 rfl ?_
    refine r_aload_n dX13_homing_87 rfl rfl ?_
    refine r_iconst dX13_homing_88 (by decide) ?_
    refine r_bipush dX13_homing_89 (by decide) rfl ?_
    refine r_callV (ci := 11) (As := [(0, 0), (0, 9)]) (st := [(0, (w32 ((w32 (6 * (s2 92 36))) + (s2 94 (s2 92 36))))), (47, 96)]) (by decide) ok_X13_405 rfl rfl (Nat.le_of_ble_eq_true rfl) dX13_homing_91 h (fun r13 s14 hv h => ?_)
    obtain ⟨hb, h⟩ := h
    refine r_iast (n := 12) rfl (by decide) dX13_homing_94 hb ?_
    have h := h _ rfl
    generalize hs_s15 : ups s14 96 (w32 ((w32 (6 * (s2 92 36))) + (s2 94 (s2 92 36)))) r13 = s15 at h ⊢
    refine r_aload_n dX13_homing_95 rfl rfl ?_
    refine gf_X13_36 rfl dX13_homing_96 ?_
    refine r_if_ne (tgt := 115) dX13_homing_99 (by decide) (fun hc => ?_) (fun hc => ?_)
    · have h := h.1 hc
      exact r_ret dX13_homing_115 rfl h
    · have h := h.2 hc
      refine r_aload_n dX13_homing_102 rfl rfl ?_
      refine gf_X13_54 rfl dX13_homing_103 ?_
      refine r_aload_n dX13_homing_106 rfl rfl ?_
      refine gf_X13_121 rfl dX13_homing_107 ?_
      refine r_dup2 dX13_homing_110 (show (0 : Nat) ≠ 2 by decide) (show (46 : Nat) ≠ 2 by decide) ?_
      obtain ⟨hb, h⟩ := h
      refine r_iald (n := 2) rfl (by decide) dX13_homing_111 hb ?_
      refine r_iconst dX13_homing_112 (by decide) ?_
      refine r_iadd dX13_homing_113 ?_
      obtain ⟨hb, h⟩ := h
      refine r_iast (n := 2) rfl (by decide) dX13_homing_114 hb ?_
      have h := h _ rfl
      generalize hs_s16 : ups s15 94 (s15 92 36) (w32 ((s15 94 (s15 92 36)) + 1)) = s16 at h ⊢
      exact r_ret dX13_homing_115 rfl h
  · have h := h.2 hc
    exact r_ret dX13_homing_26 rfl h
set_option maxRecDepth 20000 in
theorem S_X13_homing {g : GT} {e : Nat} {Q : Int → Sg → Prop} {s : Sg} (h : ((0 ≤ (s 92 36) ∧ (s 92 36) < 2) ∧ ((¬ (s 94 (s 92 36)) = 6 → P_X13_homing_20 g e Q s 0) ∧ ((s 94 (s 92 36)) = 6 → P_X13_homing_20 g e Q s 1)))) : Mw g (e + 1) M_X13_homing [(21, 92)] s Q := by
  refine Mw.of (ls := [(21, 92), (9, 0)]) pn_X13_homing (Nat.le_of_ble_eq_true rfl) rfl (fun hv => ?_)
  refine r_aload_n dX13_homing_0 rfl rfl ?_
  refine r_aload_n dX13_homing_1 rfl rfl ?_
  refine gf_X13_54 rfl dX13_homing_2 ?_
  refine r_aload_n dX13_homing_5 rfl rfl ?_
  refine gf_X13_121 rfl dX13_homing_6 ?_
  obtain ⟨hb, h⟩ := h
  refine r_iald (n := 2) rfl (by decide) dX13_homing_9 hb ?_
  refine r_bipush dX13_homing_10 (by decide) rfl ?_
  refine r_icmp_ne (tgt := 19) dX13_homing_12 (by decide) (fun hc => ?_) (fun hc => ?_)
  · have h := h.1 hc
    refine r_iconst dX13_homing_19 (by decide) ?_
    exact h
  · have h := h.2 hc
    refine r_iconst dX13_homing_15 (by decide) ?_
    refine r_goto (tgt := 20) dX13_homing_16 (by decide) ?_
    exact h
abbrev P_X13_childing_20 (g : GT) (e : Nat) (Q : Int → Sg → Prop) (s : Sg) (x1 : Int) : Prop := Wp g (e + 1) M_X13_childing Q 20 [(21, 92), (9, 0)] [(0, x1), (21, 92)] s
set_option maxRecDepth 20000 in
theorem S_X13_childing_20 {g : GT} {e : Nat} {Q : Int → Sg → Prop} {s : Sg} {x1 : Int} (h : (Mw g e M_X13_counts [(21, 92), (0, x1)] s (fun r1 s2 => ((¬ r1 = 0 → ((0 ≤ (s2 92 36) ∧ (s2 92 36) < 2) ∧ (Mw g e M_X13_fresh [(21, 92)] s2 (fun r3 s4 => ((0 ≤ (w32 ((w32 (8 * (s2 92 36))) + (s2 97 (s2 92 36)))) ∧ (w32 ((w32 (8 * (s2 92 36))) + (s2 97 (s2 92 36)))) < 16) ∧ ∀ s5, s5 = ups s4 113 (w32 ((w32 (8 * (s2 92 36))) + (s2 97 (s2 92 36)))) r3 → (Mw g e M_X13_must_ [(21, 92), (2, 28518)] s5 (fun _ s7 => (Mw g e M_X13_askedBut [(21, 92), (0, 0), (0, 0)] s7 (fun r8 s9 => ((0 ≤ (w32 ((w32 (8 * (s2 92 36))) + (s2 97 (s2 92 36)))) ∧ (w32 ((w32 (8 * (s2 92 36))) + (s2 97 (s2 92 36)))) < 16) ∧ ∀ s10, s10 = ups s9 98 (w32 ((w32 (8 * (s2 92 36))) + (s2 97 (s2 92 36)))) r8 → (Mw g e M_X13_must_ [(21, 92), (2, 1651470958)] s10 (fun _ s12 => (Mw g e M_X13_number [(21, 92), (0, 0), (0, 99)] s12 (fun r13 s14 => ((0 ≤ (w32 ((w32 (8 * (s2 92 36))) + (s2 97 (s2 92 36)))) ∧ (w32 ((w32 (8 * (s2 92 36))) + (s2 97 (s2 92 36)))) < 16) ∧ ∀ s15, s15 = ups s14 99 (w32 ((w32 (8 * (s2 92 36))) + (s2 97 (s2 92 36)))) r13 → ((0 ≤ (w32 ((w32 (8 * (s2 92 36))) + (s2 97 (s2 92 36)))) ∧ (w32 ((w32 (8 * (s2 92 36))) + (s2 97 (s2 92 36)))) < 16) ∧ ∀ s16, s16 = ups s15 100 (w32 ((w32 (8 * (s2 92 36))) + (s2 97 (s2 92 36)))) (-1) → ((¬ (s16 92 8) = 0 → Q 0 s16) ∧ ((s16 92 8) = 0 → ((0 ≤ (s16 92 36) ∧ (s16 92 36) < 2) ∧ ((0 ≤ (s16 92 36) ∧ (s16 92 36) < 2) ∧ ∀ s17, s17 = ups s16 97 (s16 92 36) (w32 ((s16 97 (s16 92 36)) + 1)) → Q 0 s17)))))))))))))))))))) ∧ (r1 = 0 → Q 0 s2))))) : P_X13_childing_20 g e Q s x1 := by
  refine r_callV (ci := 11) (As := [(0, x1)]) (st := []) (by decide) ok_X13_393 rfl rfl (Nat.le_of_ble_eq_true rfl) dX13_childing_20 h (fun r1 s2 hv h => ?_)
  refine r_if_ne (tgt := 27) dX13_childing_23 (by decide) (fun hc => ?_) (fun hc => ?_)
  · have h := h.1 hc
    refine r_bipush dX13_childing_27 (by decide) rfl ?_
    refine r_aload_n dX13_childing_29 rfl rfl ?_
    refine gf_X13_121 rfl dX13_childing_30 ?_
    refine r_imul dX13_childing_33 ?_
    refine r_aload_n dX13_childing_34 rfl rfl ?_
    refine gf_X13_63 rfl dX13_childing_35 ?_
    refine r_aload_n dX13_childing_38 rfl rfl ?_
    refine gf_X13_121 rfl dX13_childing_39 ?_
    obtain ⟨hb, h⟩ := h
    refine r_iald (n := 2) rfl (by decide) dX13_childing_42 hb ?_
    refine r_iadd dX13_childing_43 ?_
    refine r_istore_n (ls2 := [(21, 92), (0, (w32 ((w32 (8 * (s2 92 36))) + (s2 97 (s2 92 36)))))]) dX13_childing_44 (by decide) rfl ?_
    refine r_aload_n dX13_childing_45 rfl rfl ?_
    refine gf_X13_112 rfl dX13_childing_46 ?_
    refine r_iload_n dX13_childing_49 rfl ?_
    refine r_aload_n dX13_childing_50 rfl rfl ?_
    refine r_callV (ci := 11) (As := []) (st := [(0, (w32 ((w32 (8 * (s2 92 36))) + (s2 97 (s2 92 36))))), (51, 113)]) (by decide) ok_X13_397 rfl rfl (Nat.le_of_ble_eq_true rfl) dX13_childing_51 h (fun r3 s4 hv h => ?_)
    obtain ⟨hb, h⟩ := h
    refine r_last (n := 16) rfl (by decide) dX13_childing_54 hb ?_
    have h := h _ rfl
    generalize hs_s5 : ups s4 113 (w32 ((w32 (8 * (s2 92 36))) + (s2 97 (s2 92 36)))) r3 = s5 at h ⊢
    refine r_aload_n dX13_childing_55 rfl rfl ?_
    refine r_ldc2 (v := 28518) dX13_childing_56 lk_X13_285 (by decide) ?_
    refine r_callV (ci := 11) (As := [(2, 28518)]) (st := []) (by decide) ok_X13_401 rfl rfl (Nat.le_of_ble_eq_true rfl) dX13_childing_59 h (fun r6 s7 hv h => ?_)
    refine r_aload_n dX13_childing_62 rfl rfl ?_
    refine gf_X13_66 rfl dX13_childing_63 ?_
    refine r_iload_n dX13_childing_66 rfl ?_
    refine r_aload_n dX13_childing_67 rfl rfl ?_
    refine r_iconst dX13_childing_68 (by decide) ?_
    refine r_iconst dX13_childing_69 (by decide) ?_
    refine r_callV (ci := 11) (As := [(0, 0), (0, 0)]) (st := [(0, (w32 ((w32 (8 * (s2 92 36))) + (s2 97 (s2 92 36))))), (40, 98)]) (by decide) ok_X13_408 rfl rfl (Nat.le_of_ble_eq_true rfl) dX13_childing_70 h (fun r8 s9 hv h => ?_)
    obtain ⟨hb, h⟩ := h
    refine r_iast (n := 16) rfl (by decide) dX13_childing_73 hb ?_
    have h := h _ rfl
    generalize hs_s10 : ups s9 98 (w32 ((w32 (8 * (s2 92 36))) + (s2 97 (s2 92 36)))) r8 = s10 at h ⊢
    refine r_aload_n dX13_childing_74 rfl rfl ?_
    refine r_ldc2 (v := 1651470958) dX13_childing_75 lk_X13_287 (by decide) ?_
    refine r_callV (ci := 11) (As := [(2, 1651470958)]) (st := []) (by decide) ok_X13_401 rfl rfl (Nat.le_of_ble_eq_true rfl) dX13_childing_78 h (fun r11 s12 hv h => ?_)
    refine r_aload_n dX13_childing_81 rfl rfl ?_
    refine gf_X13_69 rfl dX13_childing_82 ?_
    refine r_iload_n dX13_childing_85 rfl ?_
    refine r_aload_n dX13_childing_86 rfl rfl ?_
    refine r_iconst dX13_childing_87 (by decide) ?_
    refine r_bipush dX13_childing_88 (by decide) rfl ?_
    refine r_callV (ci := 11) (As := [(0, 0), (0, 99)]) (st := [(0, (w32 ((w32 (8 * (s2 92 36))) + (s2 97 (s2 92 36))))), (40, 99)]) (by decide) ok_X13_405 rfl rfl (Nat.le_of_ble_eq_true rfl) dX13_childing_90 h (fun r13 s14 hv h => ?_)
    obtain ⟨hb, h⟩ := h
    refine r_iast (n := 16) rfl (by decide) dX13_childing_93 hb ?_
    have h := h _ rfl
    generalize hs_s15 : ups s14 99 (w32 ((w32 (8 * (s2 92 36))) + (s2 97 (s2 92 36)))) r13 = s15 at h ⊢
    refine r_aload_n dX13_childing_94 rfl rfl ?_
    refine gf_X13_72 rfl dX13_childing_95 ?_
    refine r_iload_n dX13_childing_98 rfl ?_
    refine r_iconst dX13_childing_99 (by decide) ?_
    obtain ⟨hb, h⟩ := h
    refine r_iast (n := 16) rfl (by decide) dX13_childing_100 hb ?_
    have h := h _ rfl
    generalize hs_s16 : ups s15 100 (w32 ((w32 (8 * (s2 92 36))) + (s2 97 (s2 92 36)))) (-1) = s16 at h ⊢
    refine r_aload_n dX13_childing_101 rfl rfl ?_
    refine gf_X13_36 rfl dX13_childing_102 ?_
    refine r_if_ne (tgt := 121) dX13_childing_105 (by decide) (fun hc => ?_) (fun hc => ?_)
    · have h := h.1 hc
      exact r_ret dX13_childing_121 rfl h
    · have h := h.2 hc
      refine r_aload_n dX13_childing_108 rfl rfl ?_
      refine gf_X13_63 rfl dX13_childing_109 ?_
      refine r_aload_n dX13_childing_112 rfl rfl ?_
      refine gf_X13_121 rfl dX13_childing_113 ?_
      refine r_dup2 dX13_childing_116 (show (0 : Nat) ≠ 2 by decide) (show (46 : Nat) ≠ 2 by decide) ?_
      obtain ⟨hb, h⟩ := h
      refine r_iald (n := 2) rfl (by decide) dX13_childing_117 hb ?_
      refine r_iconst dX13_childing_118 (by decide) ?_
      refine r_iadd dX13_childing_119 ?_
      obtain ⟨hb, h⟩ := h
      refine r_iast (n := 2) rfl (by decide) dX13_childing_120 hb ?_
      have h := h _ rfl
      generalize hs_s17 : ups s16 97 (s16 92 36) (w32 ((s16 97 (s16 92 36)) + 1)) = s17 at h ⊢
      exact r_ret dX13_childing_121 rfl h
  · have h := h.2 hc
    exact r_ret dX13_childing_26 rfl h
set_option maxRecDepth 20000 in
theorem S_X13_childing {g : GT} {e : Nat} {Q : Int → Sg → Prop} {s : Sg} (h : ((0 ≤ (s 92 36) ∧ (s 92 36) < 2) ∧ ((¬ (s 97 (s 92 36)) = 8 → P_X13_childing_20 g e Q s 0) ∧ ((s 97 (s 92 36)) = 8 → P_X13_childing_20 g e Q s 1)))) : Mw g (e + 1) M_X13_childing [(21, 92)] s Q := by
  refine Mw.of (ls := [(21, 92), (9, 0)]) pn_X13_childing (Nat.le_of_ble_eq_true rfl) rfl (fun hv => ?_)
  refine r_aload_n dX13_childing_0 rfl rfl ?_
  refine r_aload_n dX13_childing_1 rfl rfl ?_
  refine gf_X13_63 rfl dX13_childing_2 ?_
  refine r_aload_n dX13_childing_5 rfl rfl ?_
  refine gf_X13_121 rfl dX13_childing_6 ?_
  obtain ⟨hb, h⟩ := h
  refine r_iald (n := 2) rfl (by decide) dX13_childing_9 hb ?_
  refine r_bipush dX13_childing_10 (by decide) rfl ?_
  refine r_icmp_ne (tgt := 19) dX13_childing_12 (by decide) (fun hc => ?_) (fun hc => ?_)
  · have h := h.1 hc
    refine r_iconst dX13_childing_19 (by decide) ?_
    exact h
  · have h := h.2 hc
    refine r_iconst dX13_childing_15 (by decide) ?_
    refine r_goto (tgt := 20) dX13_childing_16 (by decide) ?_
    exact h
abbrev P_X13_twins_4 (g : GT) (e : Nat) (Q : Int → Sg → Prop) (s : Sg) (v1 : Int) (v2 : Int) : Prop := Wp g (e + 1) M_X13_twins Q 4 [(21, 92), (0, v1), (0, v2)] [] s
set_option maxRecDepth 20000 in
theorem S_X13_twins_4 {g : GT} {e : Nat} {Q : Int → Sg → Prop} {s : Sg} {v1 : Int} {v2 : Int} (h : ((0 ≤ (s 92 36) ∧ (s 92 36) < 2) ∧ (((s 97 (s 92 36)) ≤ v2 → Q v1 s) ∧ (¬ (s 97 (s 92 36)) ≤ v2 → ((0 ≤ (w32 ((w32 (8 * (s 92 36))) + v2)) ∧ (w32 ((w32 (8 * (s 92 36))) + v2)) < 16) ∧ ((¬ (s 100 (w32 ((w32 (8 * (s 92 36))) + v2))) = (-1) → P_X13_twins_4 g e Q s (bOr v1 (bShl 1 v2)) (w32 (v2 + 1))) ∧ ((s 100 (w32 ((w32 (8 * (s 92 36))) + v2))) = (-1) → P_X13_twins_4 g e Q s (bOr v1 0) (w32 (v2 + 1))))))))) : P_X13_twins_4 g e Q s v1 v2 := by
  refine r_iload_n dX13_twins_4 rfl ?_
  refine r_aload_n dX13_twins_5 rfl rfl ?_
  refine gf_X13_63 rfl dX13_twins_6 ?_
  refine r_aload_n dX13_twins_9 rfl rfl ?_
  refine gf_X13_121 rfl dX13_twins_10 ?_
  obtain ⟨hb, h⟩ := h
  refine r_iald (n := 2) rfl (by decide) dX13_twins_13 hb ?_
  refine r_icmp_ge (tgt := 51) dX13_twins_14 (by decide) (fun hc => ?_) (fun hc => ?_)
  · have h := h.1 hc
    refine r_iload_n dX13_twins_51 rfl ?_
    exact r_iret dX13_twins_52 rfl h
  · have h := h.2 hc
    refine r_iload_n dX13_twins_17 rfl ?_
    refine r_aload_n dX13_twins_18 rfl rfl ?_
    refine gf_X13_72 rfl dX13_twins_19 ?_
    refine r_bipush dX13_twins_22 (by decide) rfl ?_
    refine r_aload_n dX13_twins_24 rfl rfl ?_
    refine gf_X13_121 rfl dX13_twins_25 ?_
    refine r_imul dX13_twins_28 ?_
    refine r_iload_n dX13_twins_29 rfl ?_
    refine r_iadd dX13_twins_30 ?_
    obtain ⟨hb, h⟩ := h
    refine r_iald (n := 16) rfl (by decide) dX13_twins_31 hb ?_
    refine r_iconst dX13_twins_32 (by decide) ?_
    refine r_icmp_ne (tgt := 40) dX13_twins_33 (by decide) (fun hc => ?_) (fun hc => ?_)
    · have h := h.1 hc
      refine r_iconst dX13_twins_40 (by decide) ?_
      refine r_iload_n dX13_twins_41 rfl ?_
      refine r_ishl dX13_twins_42 ?_
      refine r_ior dX13_twins_43 ?_
      refine r_istore_n (ls2 := [(21, 92), (0, (bOr v1 (bShl 1 v2))), (0, v2)]) dX13_twins_44 (by decide) rfl ?_
      refine r_iinc (ls2 := [(21, 92), (0, (bOr v1 (bShl 1 v2))), (0, (w32 (v2 + 1)))]) dX13_twins_45 rfl (by decide) rfl ?_
      refine r_goto (tgt := 4) dX13_twins_48 (by decide) ?_
      exact h
    · have h := h.2 hc
      refine r_iconst dX13_twins_36 (by decide) ?_
      refine r_goto (tgt := 43) dX13_twins_37 (by decide) ?_
      refine r_ior dX13_twins_43 ?_
      refine r_istore_n (ls2 := [(21, 92), (0, (bOr v1 0)), (0, v2)]) dX13_twins_44 (by decide) rfl ?_
      refine r_iinc (ls2 := [(21, 92), (0, (bOr v1 0)), (0, (w32 (v2 + 1)))]) dX13_twins_45 rfl (by decide) rfl ?_
      refine r_goto (tgt := 4) dX13_twins_48 (by decide) ?_
      exact h
set_option maxRecDepth 20000 in
theorem S_X13_twins {g : GT} {e : Nat} {Q : Int → Sg → Prop} {s : Sg} (h : P_X13_twins_4 g e Q s 0 0) : Mw g (e + 1) M_X13_twins [(21, 92)] s Q := by
  refine Mw.of (ls := [(21, 92), (9, 0), (9, 0)]) pn_X13_twins (Nat.le_of_ble_eq_true rfl) rfl (fun hv => ?_)
  refine r_iconst dX13_twins_0 (by decide) ?_
  refine r_istore_n (ls2 := [(21, 92), (0, 0), (9, 0)]) dX13_twins_1 (by decide) rfl ?_
  refine r_iconst dX13_twins_2 (by decide) ?_
  refine r_istore_n (ls2 := [(21, 92), (0, 0), (0, 0)]) dX13_twins_3 (by decide) rfl ?_
  exact h
set_option maxRecDepth 20000 in
theorem S_X13_twinning {g : GT} {e : Nat} {Q : Int → Sg → Prop} {s : Sg} (h : (Mw g e M_X13_counts [(21, 92), (0, 0)] s (fun r1 s2 => ((¬ r1 = 0 → (Mw g e M_X13_twins [(21, 92)] s2 (fun r3 s4 => (Mw g e M_X13_askedBut [(21, 92), (0, 1), (0, r3)] s4 (fun r5 s6 => (Mw g e M_X13_twins [(21, 92)] s6 (fun r7 s8 => (Mw g e M_X13_askedBut [(21, 92), (0, 1), (0, (bOr r7 (bShl 1 r5)))] s8 (fun r9 s10 => (((s10 92 8) ≤ 0 → ((0 ≤ (w32 ((w32 (8 * (s10 92 36))) + r5)) ∧ (w32 ((w32 (8 * (s10 92 36))) + r5)) < 16) ∧ ∀ s11, s11 = ups s10 100 (w32 ((w32 (8 * (s10 92 36))) + r5)) r9 → ((0 ≤ (w32 ((w32 (8 * (s11 92 36))) + r9)) ∧ (w32 ((w32 (8 * (s11 92 36))) + r9)) < 16) ∧ ∀ s12, s12 = ups s11 100 (w32 ((w32 (8 * (s11 92 36))) + r9)) r5 → Q 0 s12))) ∧ (¬ (s10 92 8) ≤ 0 → Q 0 s10))))))))))) ∧ (r1 = 0 → Q 0 s2))))) : Mw g (e + 1) M_X13_twinning [(21, 92)] s Q := by
  refine Mw.of (ls := [(21, 92), (9, 0), (9, 0)]) pn_X13_twinning (Nat.le_of_ble_eq_true rfl) rfl (fun hv => ?_)
  refine r_aload_n dX13_twinning_0 rfl rfl ?_
  refine r_iconst dX13_twinning_1 (by decide) ?_
  refine r_callV (ci := 11) (As := [(0, 0)]) (st := []) (by decide) ok_X13_393 rfl rfl (Nat.le_of_ble_eq_true rfl) dX13_twinning_2 h (fun r1 s2 hv h => ?_)
  refine r_if_ne (tgt := 9) dX13_twinning_5 (by decide) (fun hc => ?_) (fun hc => ?_)
  · have h := h.1 hc
    refine r_aload_n dX13_twinning_9 rfl rfl ?_
    refine r_iconst dX13_twinning_10 (by decide) ?_
    refine r_aload_n dX13_twinning_11 rfl rfl ?_
    refine r_callV (ci := 11) (As := []) (st := [(0, 1), (21, 92)]) (by decide) ok_X13_411 rfl rfl (Nat.le_of_ble_eq_true rfl) dX13_twinning_12 h (fun r3 s4 hv h => ?_)
    refine r_callV (ci := 11) (As := [(0, 1), (0, r3)]) (st := []) (by decide) ok_X13_408 rfl rfl (Nat.le_of_ble_eq_true rfl) dX13_twinning_15 h (fun r5 s6 hv h => ?_)
    refine r_istore_n (ls2 := [(21, 92), (0, r5), (9, 0)]) dX13_twinning_18 (by decide) rfl ?_
    refine r_aload_n dX13_twinning_19 rfl rfl ?_
    refine r_iconst dX13_twinning_20 (by decide) ?_
    refine r_aload_n dX13_twinning_21 rfl rfl ?_
    refine r_callV (ci := 11) (As := []) (st := [(0, 1), (21, 92)]) (by decide) ok_X13_411 rfl rfl (Nat.le_of_ble_eq_true rfl) dX13_twinning_22 h (fun r7 s8 hv h => ?_)
    refine r_iconst dX13_twinning_25 (by decide) ?_
    refine r_iload_n dX13_twinning_26 rfl ?_
    refine r_ishl dX13_twinning_27 ?_
    refine r_ior dX13_twinning_28 ?_
    refine r_callV (ci := 11) (As := [(0, 1), (0, (bOr r7 (bShl 1 r5)))]) (st := []) (by decide) ok_X13_408 rfl rfl (Nat.le_of_ble_eq_true rfl) dX13_twinning_29 h (fun r9 s10 hv h => ?_)
    refine r_istore_n (ls2 := [(21, 92), (0, r5), (0, r9)]) dX13_twinning_32 (by decide) rfl ?_
    refine r_aload_n dX13_twinning_33 rfl rfl ?_
    refine gf_X13_36 rfl dX13_twinning_34 ?_
    refine r_if_le (tgt := 41) dX13_twinning_37 (by decide) (fun hc => ?_) (fun hc => ?_)
    · have h := h.1 hc
      refine r_aload_n dX13_twinning_41 rfl rfl ?_
      refine gf_X13_72 rfl dX13_twinning_42 ?_
      refine r_bipush dX13_twinning_45 (by decide) rfl ?_
      refine r_aload_n dX13_twinning_47 rfl rfl ?_
      refine gf_X13_121 rfl dX13_twinning_48 ?_
      refine r_imul dX13_twinning_51 ?_
      refine r_iload_n dX13_twinning_52 rfl ?_
      refine r_iadd dX13_twinning_53 ?_
      refine r_iload_n dX13_twinning_54 rfl ?_
      obtain ⟨hb, h⟩ := h
      refine r_iast (n := 16) rfl (by decide) dX13_twinning_55 hb ?_
      have h := h _ rfl
      generalize hs_s11 : ups s10 100 (w32 ((w32 (8 * (s10 92 36))) + r5)) r9 = s11 at h ⊢
      refine r_aload_n dX13_twinning_56 rfl rfl ?_
      refine gf_X13_72 rfl dX13_twinning_57 ?_
      refine r_bipush dX13_twinning_60 (by decide) rfl ?_
      refine r_aload_n dX13_twinning_62 rfl rfl ?_
      refine gf_X13_121 rfl dX13_twinning_63 ?_
      refine r_imul dX13_twinning_66 ?_
      refine r_iload_n dX13_twinning_67 rfl ?_
      refine r_iadd dX13_twinning_68 ?_
      refine r_iload_n dX13_twinning_69 rfl ?_
      obtain ⟨hb, h⟩ := h
      refine r_iast (n := 16) rfl (by decide) dX13_twinning_70 hb ?_
      have h := h _ rfl
      generalize hs_s12 : ups s11 100 (w32 ((w32 (8 * (s11 92 36))) + r9)) r5 = s12 at h ⊢
      exact r_ret dX13_twinning_71 rfl h
    · have h := h.2 hc
      exact r_ret dX13_twinning_40 rfl h
  · have h := h.2 hc
    exact r_ret dX13_twinning_8 rfl h
abbrev P_X13_feuding_6 (g : GT) (e : Nat) (Q : Int → Sg → Prop) (s : Sg) (v1 : Int) (v2 : Int) (v3 : Int) (v4 : Int) (v5 : Int) : Prop := Wp g (e + 1) M_X13_feuding Q 6 [(21, 92), (0, v1), (0, v2), (0, v3), (0, v4), (0, v5)] [] s
abbrev P_X13_feuding_65 (g : GT) (e : Nat) (Q : Int → Sg → Prop) (s : Sg) (v1 : Int) (v2 : Int) (v3 : Int) (v5 : Int) (x0 : Int) (x1 : Int) : Prop := Wp g (e + 1) M_X13_feuding Q 65 [(21, 92), (0, v1), (0, v2), (0, v3), (9, 0), (0, v5)] [(0, x1), (0, x0)] s
set_option maxRecDepth 20000 in
theorem S_X13_feuding_6 {g : GT} {e : Nat} {Q : Int → Sg → Prop} {s : Sg} {v1 : Int} {v2 : Int} {v3 : Int} {v4 : Int} {v5 : Int} (h : ((0 ≤ v1 ∧ v1 < 2) ∧ (((s 101 v1) ≤ v5 → Q v4 s) ∧ (¬ (s 101 v1) ≤ v5 → (Mw g e M_X13_has2 [(0, v3), (0, v5)] s (fun r1 s2 => ((r1 = 0 → ((0 ≤ (w32 ((w32 (10 * v1)) + v5)) ∧ (w32 ((w32 (10 * v1)) + v5)) < 20) ∧ ((¬ (s2 102 (w32 ((w32 (10 * v1)) + v5))) = v2 → P_X13_feuding_65 g e Q s2 v1 v2 v3 v5 v4 0) ∧ ((s2 102 (w32 ((w32 (10 * v1)) + v5))) = v2 → ((0 ≤ (w32 ((w32 (10 * v1)) + v5)) ∧ (w32 ((w32 (10 * v1)) + v5)) < 20) ∧ P_X13_feuding_65 g e Q s2 v1 v2 v3 v5 v4 (bShl 1 (s2 103 (w32 ((w32 (10 * v1)) + v5))))))))) ∧ (¬ r1 = 0 → P_X13_feuding_6 g e Q s2 v1 v2 v3 v4 (w32 (v5 + 1)))))))))) : P_X13_feuding_6 g e Q s v1 v2 v3 v4 v5 := by
  refine r_iload dX13_feuding_6 rfl ?_
  refine r_aload_n dX13_feuding_8 rfl rfl ?_
  refine gf_X13_75 rfl dX13_feuding_9 ?_
  refine r_iload_n dX13_feuding_12 rfl ?_
  obtain ⟨hb, h⟩ := h
  refine r_iald (n := 2) rfl (by decide) dX13_feuding_13 hb ?_
  refine r_icmp_ge (tgt := 113) dX13_feuding_14 (by decide) (fun hc => ?_) (fun hc => ?_)
  · have h := h.1 hc
    refine r_iload dX13_feuding_113 rfl ?_
    exact r_iret dX13_feuding_115 rfl h
  · have h := h.2 hc
    refine r_iload_n dX13_feuding_17 rfl ?_
    refine r_iload dX13_feuding_18 rfl ?_
    refine r_callS (As := [(0, v3), (0, v5)]) (st := []) ok_X13_389 rfl rfl (Nat.le_of_ble_eq_true rfl) dX13_feuding_20 h (fun r1 s2 hv h => ?_)
    refine r_if_eq (tgt := 29) dX13_feuding_23 (by decide) (fun hc => ?_) (fun hc => ?_)
    · have h := h.1 hc
      refine r_iload dX13_feuding_29 rfl ?_
      refine r_aload_n dX13_feuding_31 rfl rfl ?_
      refine gf_X13_78 rfl dX13_feuding_32 ?_
      refine r_bipush dX13_feuding_35 (by decide) rfl ?_
      refine r_iload_n dX13_feuding_37 rfl ?_
      refine r_imul dX13_feuding_38 ?_
      refine r_iload dX13_feuding_39 rfl ?_
      refine r_iadd dX13_feuding_41 ?_
      obtain ⟨hb, h⟩ := h
      refine r_iald (n := 20) rfl (by decide) dX13_feuding_42 hb ?_
      refine r_iload_n dX13_feuding_43 rfl ?_
      refine r_icmp_ne (tgt := 64) dX13_feuding_44 (by decide) (fun hc => ?_) (fun hc => ?_)
      · have h := h.1 hc
        refine r_iconst dX13_feuding_64 (by decide) ?_
        exact r_fgt [true, true, true, true, false, true] rfl h
      · have h := h.2 hc
        refine r_iconst dX13_feuding_47 (by decide) ?_
        refine r_aload_n dX13_feuding_48 rfl rfl ?_
        refine gf_X13_81 rfl dX13_feuding_49 ?_
        refine r_bipush dX13_feuding_52 (by decide) rfl ?_
        refine r_iload_n dX13_feuding_54 rfl ?_
        refine r_imul dX13_feuding_55 ?_
        refine r_iload dX13_feuding_56 rfl ?_
        refine r_iadd dX13_feuding_58 ?_
        obtain ⟨hb, h⟩ := h
        refine r_iald (n := 20) rfl (by decide) dX13_feuding_59 hb ?_
        refine r_ishl dX13_feuding_60 ?_
        refine r_goto (tgt := 65) dX13_feuding_61 (by decide) ?_
        exact r_fgt [true, true, true, true, false, true] rfl h
    · have h := h.2 hc
      refine r_goto (tgt := 107) dX13_feuding_26 (by decide) ?_
      refine r_iinc (ls2 := [(21, 92), (0, v1), (0, v2), (0, v3), (0, v4), (0, (w32 (v5 + 1)))]) dX13_feuding_107 rfl (by decide) rfl ?_
      refine r_goto (tgt := 6) dX13_feuding_110 (by decide) ?_
      exact h
set_option maxRecDepth 20000 in
theorem S_X13_feuding_65 {g : GT} {e : Nat} {Q : Int → Sg → Prop} {s : Sg} {v1 : Int} {v2 : Int} {v3 : Int} {v5 : Int} {x0 : Int} {x1 : Int} (h : ((0 ≤ (w32 ((w32 (10 * v1)) + v5)) ∧ (w32 ((w32 (10 * v1)) + v5)) < 20) ∧ ((¬ (s 103 (w32 ((w32 (10 * v1)) + v5))) = v2 → P_X13_feuding_6 g e Q s v1 v2 v3 (bOr (bOr x0 x1) 0) (w32 (v5 + 1))) ∧ ((s 103 (w32 ((w32 (10 * v1)) + v5))) = v2 → ((0 ≤ (w32 ((w32 (10 * v1)) + v5)) ∧ (w32 ((w32 (10 * v1)) + v5)) < 20) ∧ P_X13_feuding_6 g e Q s v1 v2 v3 (bOr (bOr x0 x1) (bShl 1 (s 102 (w32 ((w32 (10 * v1)) + v5))))) (w32 (v5 + 1))))))) : P_X13_feuding_65 g e Q s v1 v2 v3 v5 x0 x1 := by
  refine r_ior dX13_feuding_65 ?_
  refine r_istore (ls2 := [(21, 92), (0, v1), (0, v2), (0, v3), (0, (bOr x0 x1)), (0, v5)]) dX13_feuding_66 (by decide) rfl ?_
  refine r_iload dX13_feuding_68 rfl ?_
  refine r_aload_n dX13_feuding_70 rfl rfl ?_
  refine gf_X13_81 rfl dX13_feuding_71 ?_
  refine r_bipush dX13_feuding_74 (by decide) rfl ?_
  refine r_iload_n dX13_feuding_76 rfl ?_
  refine r_imul dX13_feuding_77 ?_
  refine r_iload dX13_feuding_78 rfl ?_
  refine r_iadd dX13_feuding_80 ?_
  obtain ⟨hb, h⟩ := h
  refine r_iald (n := 20) rfl (by decide) dX13_feuding_81 hb ?_
  refine r_iload_n dX13_feuding_82 rfl ?_
  refine r_icmp_ne (tgt := 103) dX13_feuding_83 (by decide) (fun hc => ?_) (fun hc => ?_)
  · have h := h.1 hc
    refine r_iconst dX13_feuding_103 (by decide) ?_
    refine r_ior dX13_feuding_104 ?_
    refine r_istore (ls2 := [(21, 92), (0, v1), (0, v2), (0, v3), (0, (bOr (bOr x0 x1) 0)), (0, v5)]) dX13_feuding_105 (by decide) rfl ?_
    refine r_iinc (ls2 := [(21, 92), (0, v1), (0, v2), (0, v3), (0, (bOr (bOr x0 x1) 0)), (0, (w32 (v5 + 1)))]) dX13_feuding_107 rfl (by decide) rfl ?_
    refine r_goto (tgt := 6) dX13_feuding_110 (by decide) ?_
    exact h
  · have h := h.2 hc
    refine r_iconst dX13_feuding_86 (by decide) ?_
    refine r_aload_n dX13_feuding_87 rfl rfl ?_
    refine gf_X13_78 rfl dX13_feuding_88 ?_
    refine r_bipush dX13_feuding_91 (by decide) rfl ?_
    refine r_iload_n dX13_feuding_93 rfl ?_
    refine r_imul dX13_feuding_94 ?_
    refine r_iload dX13_feuding_95 rfl ?_
    refine r_iadd dX13_feuding_97 ?_
    obtain ⟨hb, h⟩ := h
    refine r_iald (n := 20) rfl (by decide) dX13_feuding_98 hb ?_
    refine r_ishl dX13_feuding_99 ?_
    refine r_goto (tgt := 104) dX13_feuding_100 (by decide) ?_
    refine r_ior dX13_feuding_104 ?_
    refine r_istore (ls2 := [(21, 92), (0, v1), (0, v2), (0, v3), (0, (bOr (bOr x0 x1) (bShl 1 (s 102 (w32 ((w32 (10 * v1)) + v5)))))), (0, v5)]) dX13_feuding_105 (by decide) rfl ?_
    refine r_iinc (ls2 := [(21, 92), (0, v1), (0, v2), (0, v3), (0, (bOr (bOr x0 x1) (bShl 1 (s 102 (w32 ((w32 (10 * v1)) + v5)))))), (0, (w32 (v5 + 1)))]) dX13_feuding_107 rfl (by decide) rfl ?_
    refine r_goto (tgt := 6) dX13_feuding_110 (by decide) ?_
    exact h
set_option maxRecDepth 20000 in
theorem S_X13_feuding {g : GT} {e : Nat} {Q : Int → Sg → Prop} {s : Sg} {v1 : Int} {v2 : Int} {v3 : Int} (h : inR v1 → inR v2 → inR v3 → P_X13_feuding_6 g e Q s v1 v2 v3 0 0) : Mw g (e + 1) M_X13_feuding [(21, 92), (0, v1), (0, v2), (0, v3)] s Q := by
  refine Mw.of (ls := [(21, 92), (0, v1), (0, v2), (0, v3), (9, 0), (9, 0)]) pn_X13_feuding (Nat.le_of_ble_eq_true rfl) rfl (fun hv => ?_)
  have h := h (hv _ (List.Mem.tail _ (List.Mem.head _))) (hv _ (List.Mem.tail _ (List.Mem.tail _ (List.Mem.head _)))) (hv _ (List.Mem.tail _ (List.Mem.tail _ (List.Mem.tail _ (List.Mem.head _)))))
  refine r_iconst dX13_feuding_0 (by decide) ?_
  refine r_istore (ls2 := [(21, 92), (0, v1), (0, v2), (0, v3), (0, 0), (9, 0)]) dX13_feuding_1 (by decide) rfl ?_
  refine r_iconst dX13_feuding_3 (by decide) ?_
  refine r_istore (ls2 := [(21, 92), (0, v1), (0, v2), (0, v3), (0, 0), (0, 0)]) dX13_feuding_4 (by decide) rfl ?_
  exact h
abbrev P_X13_feuds_20 (g : GT) (e : Nat) (Q : Int → Sg → Prop) (s : Sg) (x1 : Int) : Prop := Wp g (e + 1) M_X13_feuds Q 20 [(21, 92), (9, 0), (9, 0), (9, 0)] [(0, x1), (21, 92)] s
abbrev P_X13_feuds_79 (g : GT) (e : Nat) (Q : Int → Sg → Prop) (s : Sg) (v1 : Int) (v2 : Int) (x2 : Int) : Prop := Wp g (e + 1) M_X13_feuds Q 79 [(21, 92), (0, v1), (0, v2), (9, 0)] [(0, x2), (0, 1), (21, 92)] s
set_option maxRecDepth 20000 in
theorem S_X13_feuds_20 {g : GT} {e : Nat} {Q : Int → Sg → Prop} {s : Sg} {x1 : Int} (h : (Mw g e M_X13_counts [(21, 92), (0, x1)] s (fun r1 s2 => ((¬ r1 = 0 → ((0 ≤ (s2 92 36) ∧ (s2 92 36) < 2) ∧ (Mw g e M_X13_askedBut [(21, 92), (0, 1), (0, 0)] s2 (fun r3 s4 => (((s4 92 8) ≤ 0 → (Mw g e M_X13_feuding [(21, 92), (0, (s4 92 36)), (0, r3), (0, 0)] s4 (fun r5 s6 => P_X13_feuds_79 g e Q s6 (w32 ((w32 (10 * (s2 92 36))) + (s2 101 (s2 92 36)))) r3 (bOr r5 (bShl 1 r3))))) ∧ (¬ (s4 92 8) ≤ 0 → P_X13_feuds_79 g e Q s4 (w32 ((w32 (10 * (s2 92 36))) + (s2 101 (s2 92 36)))) r3 0)))))) ∧ (r1 = 0 → Q 0 s2))))) : P_X13_feuds_20 g e Q s x1 := by
  refine r_callV (ci := 11) (As := [(0, x1)]) (st := []) (by decide) ok_X13_393 rfl rfl (Nat.le_of_ble_eq_true rfl) dX13_feuds_20 h (fun r1 s2 hv h => ?_)
  refine r_if_ne (tgt := 27) dX13_feuds_23 (by decide) (fun hc => ?_) (fun hc => ?_)
  · have h := h.1 hc
    refine r_bipush dX13_feuds_27 (by decide) rfl ?_
    refine r_aload_n dX13_feuds_29 rfl rfl ?_
    refine gf_X13_121 rfl dX13_feuds_30 ?_
    refine r_imul dX13_feuds_33 ?_
    refine r_aload_n dX13_feuds_34 rfl rfl ?_
    refine gf_X13_75 rfl dX13_feuds_35 ?_
    refine r_aload_n dX13_feuds_38 rfl rfl ?_
    refine gf_X13_121 rfl dX13_feuds_39 ?_
    obtain ⟨hb, h⟩ := h
    refine r_iald (n := 2) rfl (by decide) dX13_feuds_42 hb ?_
    refine r_iadd dX13_feuds_43 ?_
    refine r_istore_n (ls2 := [(21, 92), (0, (w32 ((w32 (10 * (s2 92 36))) + (s2 101 (s2 92 36))))), (9, 0), (9, 0)]) dX13_feuds_44 (by decide) rfl ?_
    refine r_aload_n dX13_feuds_45 rfl rfl ?_
    refine r_iconst dX13_feuds_46 (by decide) ?_
    refine r_iconst dX13_feuds_47 (by decide) ?_
    refine r_callV (ci := 11) (As := [(0, 1), (0, 0)]) (st := []) (by decide) ok_X13_408 rfl rfl (Nat.le_of_ble_eq_true rfl) dX13_feuds_48 h (fun r3 s4 hv h => ?_)
    refine r_istore_n (ls2 := [(21, 92), (0, (w32 ((w32 (10 * (s2 92 36))) + (s2 101 (s2 92 36))))), (0, r3), (9, 0)]) dX13_feuds_51 (by decide) rfl ?_
    refine r_aload_n dX13_feuds_52 rfl rfl ?_
    refine r_iconst dX13_feuds_53 (by decide) ?_
    refine r_aload_n dX13_feuds_54 rfl rfl ?_
    refine gf_X13_36 rfl dX13_feuds_55 ?_
    refine r_if_le (tgt := 65) dX13_feuds_58 (by decide) (fun hc => ?_) (fun hc => ?_)
    · have h := h.1 hc
      refine r_aload_n dX13_feuds_65 rfl rfl ?_
      refine r_aload_n dX13_feuds_66 rfl rfl ?_
      refine gf_X13_121 rfl dX13_feuds_67 ?_
      refine r_iload_n dX13_feuds_70 rfl ?_
      refine r_iconst dX13_feuds_71 (by decide) ?_
      refine r_callV (ci := 11) (As := [(0, (s4 92 36)), (0, r3), (0, 0)]) (st := [(0, 1), (21, 92)]) (by decide) ok_X13_415 rfl rfl (Nat.le_of_ble_eq_true rfl) dX13_feuds_72 h (fun r5 s6 hv h => ?_)
      refine r_iconst dX13_feuds_75 (by decide) ?_
      refine r_iload_n dX13_feuds_76 rfl ?_
      refine r_ishl dX13_feuds_77 ?_
      refine r_ior dX13_feuds_78 ?_
      exact h
    · have h := h.2 hc
      refine r_iconst dX13_feuds_61 (by decide) ?_
      refine r_goto (tgt := 79) dX13_feuds_62 (by decide) ?_
      exact h
  · have h := h.2 hc
    exact r_ret dX13_feuds_26 rfl h
set_option maxRecDepth 20000 in
theorem S_X13_feuds_79 {g : GT} {e : Nat} {Q : Int → Sg → Prop} {s : Sg} {v1 : Int} {v2 : Int} {x2 : Int} (h : (Mw g e M_X13_askedBut [(21, 92), (0, 1), (0, x2)] s (fun r1 s2 => (((s2 92 8) ≤ 0 → ((0 ≤ v1 ∧ v1 < 20) ∧ ∀ s3, s3 = ups s2 102 v1 v2 → ((0 ≤ v1 ∧ v1 < 20) ∧ ∀ s4, s4 = ups s3 103 v1 r1 → ((0 ≤ (s4 92 36) ∧ (s4 92 36) < 2) ∧ ((0 ≤ (s4 92 36) ∧ (s4 92 36) < 2) ∧ ∀ s5, s5 = ups s4 101 (s4 92 36) (w32 ((s4 101 (s4 92 36)) + 1)) → Q 0 s5))))) ∧ (¬ (s2 92 8) ≤ 0 → Q 0 s2))))) : P_X13_feuds_79 g e Q s v1 v2 x2 := by
  refine r_callV (ci := 11) (As := [(0, 1), (0, x2)]) (st := []) (by decide) ok_X13_408 rfl rfl (Nat.le_of_ble_eq_true rfl) dX13_feuds_79 h (fun r1 s2 hv h => ?_)
  refine r_istore_n (ls2 := [(21, 92), (0, v1), (0, v2), (0, r1)]) dX13_feuds_82 (by decide) rfl ?_
  refine r_aload_n dX13_feuds_83 rfl rfl ?_
  refine gf_X13_36 rfl dX13_feuds_84 ?_
  refine r_if_le (tgt := 91) dX13_feuds_87 (by decide) (fun hc => ?_) (fun hc => ?_)
  · have h := h.1 hc
    refine r_aload_n dX13_feuds_91 rfl rfl ?_
    refine gf_X13_78 rfl dX13_feuds_92 ?_
    refine r_iload_n dX13_feuds_95 rfl ?_
    refine r_iload_n dX13_feuds_96 rfl ?_
    obtain ⟨hb, h⟩ := h
    refine r_iast (n := 20) rfl (by decide) dX13_feuds_97 hb ?_
    have h := h _ rfl
    generalize hs_s3 : ups s2 102 v1 v2 = s3 at h ⊢
    refine r_aload_n dX13_feuds_98 rfl rfl ?_
    refine gf_X13_81 rfl dX13_feuds_99 ?_
    refine r_iload_n dX13_feuds_102 rfl ?_
    refine r_iload_n dX13_feuds_103 rfl ?_
    obtain ⟨hb, h⟩ := h
    refine r_iast (n := 20) rfl (by decide) dX13_feuds_104 hb ?_
    have h := h _ rfl
    generalize hs_s4 : ups s3 103 v1 r1 = s4 at h ⊢
    refine r_aload_n dX13_feuds_105 rfl rfl ?_
    refine gf_X13_75 rfl dX13_feuds_106 ?_
    refine r_aload_n dX13_feuds_109 rfl rfl ?_
    refine gf_X13_121 rfl dX13_feuds_110 ?_
    refine r_dup2 dX13_feuds_113 (show (0 : Nat) ≠ 2 by decide) (show (46 : Nat) ≠ 2 by decide) ?_
    obtain ⟨hb, h⟩ := h
    refine r_iald (n := 2) rfl (by decide) dX13_feuds_114 hb ?_
    refine r_iconst dX13_feuds_115 (by decide) ?_
    refine r_iadd dX13_feuds_116 ?_
    obtain ⟨hb, h⟩ := h
    refine r_iast (n := 2) rfl (by decide) dX13_feuds_117 hb ?_
    have h := h _ rfl
    generalize hs_s5 : ups s4 101 (s4 92 36) (w32 ((s4 101 (s4 92 36)) + 1)) = s5 at h ⊢
    exact r_ret dX13_feuds_118 rfl h
  · have h := h.2 hc
    exact r_ret dX13_feuds_90 rfl h
set_option maxRecDepth 20000 in
theorem S_X13_feuds {g : GT} {e : Nat} {Q : Int → Sg → Prop} {s : Sg} (h : ((0 ≤ (s 92 36) ∧ (s 92 36) < 2) ∧ ((¬ (s 101 (s 92 36)) = 10 → P_X13_feuds_20 g e Q s 0) ∧ ((s 101 (s 92 36)) = 10 → P_X13_feuds_20 g e Q s 1)))) : Mw g (e + 1) M_X13_feuds [(21, 92)] s Q := by
  refine Mw.of (ls := [(21, 92), (9, 0), (9, 0), (9, 0)]) pn_X13_feuds (Nat.le_of_ble_eq_true rfl) rfl (fun hv => ?_)
  refine r_aload_n dX13_feuds_0 rfl rfl ?_
  refine r_aload_n dX13_feuds_1 rfl rfl ?_
  refine gf_X13_75 rfl dX13_feuds_2 ?_
  refine r_aload_n dX13_feuds_5 rfl rfl ?_
  refine gf_X13_121 rfl dX13_feuds_6 ?_
  obtain ⟨hb, h⟩ := h
  refine r_iald (n := 2) rfl (by decide) dX13_feuds_9 hb ?_
  refine r_bipush dX13_feuds_10 (by decide) rfl ?_
  refine r_icmp_ne (tgt := 19) dX13_feuds_12 (by decide) (fun hc => ?_) (fun hc => ?_)
  · have h := h.1 hc
    refine r_iconst dX13_feuds_19 (by decide) ?_
    exact h
  · have h := h.2 hc
    refine r_iconst dX13_feuds_15 (by decide) ?_
    refine r_goto (tgt := 20) dX13_feuds_16 (by decide) ?_
    exact h
abbrev P_X13_walling_19 (g : GT) (e : Nat) (Q : Int → Sg → Prop) (s : Sg) (x1 : Int) : Prop := Wp g (e + 1) M_X13_walling Q 19 [(21, 92), (9, 0)] [(0, x1), (21, 92)] s
set_option maxRecDepth 20000 in
theorem S_X13_walling_19 {g : GT} {e : Nat} {Q : Int → Sg → Prop} {s : Sg} {x1 : Int} (h : (Mw g e M_X13_counts [(21, 92), (0, x1)] s (fun r1 s2 => ((¬ r1 = 0 → ((0 ≤ (s2 92 36) ∧ (s2 92 36) < 2) ∧ (Mw g e M_X13_fresh [(21, 92)] s2 (fun r3 s4 => ((0 ≤ (w32 ((w32 (4 * (s2 92 36))) + (s2 104 (s2 92 36)))) ∧ (w32 ((w32 (4 * (s2 92 36))) + (s2 104 (s2 92 36)))) < 8) ∧ ∀ s5, s5 = ups s4 114 (w32 ((w32 (4 * (s2 92 36))) + (s2 104 (s2 92 36)))) r3 → (Mw g e M_X13_must_ [(21, 92), (2, 2003395685)] s5 (fun _ s7 => (Mw g e M_X13_number [(21, 92), (0, 1), (0, 4)] s7 (fun r8 s9 => ((0 ≤ (w32 ((w32 (4 * (s2 92 36))) + (s2 104 (s2 92 36)))) ∧ (w32 ((w32 (4 * (s2 92 36))) + (s2 104 (s2 92 36)))) < 8) ∧ ∀ s10, s10 = ups s9 105 (w32 ((w32 (4 * (s2 92 36))) + (s2 104 (s2 92 36)))) r8 → (Mw g e M_X13_must_ [(21, 92), (2, 1751738216)] s10 (fun _ s12 => (Mw g e M_X13_number [(21, 92), (0, 1), (0, 4)] s12 (fun r13 s14 => ((0 ≤ (w32 ((w32 (4 * (s2 92 36))) + (s2 104 (s2 92 36)))) ∧ (w32 ((w32 (4 * (s2 92 36))) + (s2 104 (s2 92 36)))) < 8) ∧ ∀ s15, s15 = ups s14 106 (w32 ((w32 (4 * (s2 92 36))) + (s2 104 (s2 92 36)))) r13 → ((¬ (s15 92 8) = 0 → Q 0 s15) ∧ ((s15 92 8) = 0 → ((0 ≤ (s15 92 36) ∧ (s15 92 36) < 2) ∧ ((0 ≤ (s15 92 36) ∧ (s15 92 36) < 2) ∧ ∀ s16, s16 = ups s15 104 (s15 92 36) (w32 ((s15 104 (s15 92 36)) + 1)) → Q 0 s16))))))))))))))))))) ∧ (r1 = 0 → Q 0 s2))))) : P_X13_walling_19 g e Q s x1 := by
  refine r_callV (ci := 11) (As := [(0, x1)]) (st := []) (by decide) ok_X13_393 rfl rfl (Nat.le_of_ble_eq_true rfl) dX13_walling_19 h (fun r1 s2 hv h => ?_)
  refine r_if_ne (tgt := 26) dX13_walling_22 (by decide) (fun hc => ?_) (fun hc => ?_)
  · have h := h.1 hc
    refine r_iconst dX13_walling_26 (by decide) ?_
    refine r_aload_n dX13_walling_27 rfl rfl ?_
    refine gf_X13_121 rfl dX13_walling_28 ?_
    refine r_imul dX13_walling_31 ?_
    refine r_aload_n dX13_walling_32 rfl rfl ?_
    refine gf_X13_84 rfl dX13_walling_33 ?_
    refine r_aload_n dX13_walling_36 rfl rfl ?_
    refine gf_X13_121 rfl dX13_walling_37 ?_
    obtain ⟨hb, h⟩ := h
    refine r_iald (n := 2) rfl (by decide) dX13_walling_40 hb ?_
    refine r_iadd dX13_walling_41 ?_
    refine r_istore_n (ls2 := [(21, 92), (0, (w32 ((w32 (4 * (s2 92 36))) + (s2 104 (s2 92 36)))))]) dX13_walling_42 (by decide) rfl ?_
    refine r_aload_n dX13_walling_43 rfl rfl ?_
    refine gf_X13_115 rfl dX13_walling_44 ?_
    refine r_iload_n dX13_walling_47 rfl ?_
    refine r_aload_n dX13_walling_48 rfl rfl ?_
    refine r_callV (ci := 11) (As := []) (st := [(0, (w32 ((w32 (4 * (s2 92 36))) + (s2 104 (s2 92 36))))), (52, 114)]) (by decide) ok_X13_397 rfl rfl (Nat.le_of_ble_eq_true rfl) dX13_walling_49 h (fun r3 s4 hv h => ?_)
    obtain ⟨hb, h⟩ := h
    refine r_last (n := 8) rfl (by decide) dX13_walling_52 hb ?_
    have h := h _ rfl
    generalize hs_s5 : ups s4 114 (w32 ((w32 (4 * (s2 92 36))) + (s2 104 (s2 92 36)))) r3 = s5 at h ⊢
    refine r_aload_n dX13_walling_53 rfl rfl ?_
    refine r_ldc2 (v := 2003395685) dX13_walling_54 lk_X13_295 (by decide) ?_
    refine r_callV (ci := 11) (As := [(2, 2003395685)]) (st := []) (by decide) ok_X13_401 rfl rfl (Nat.le_of_ble_eq_true rfl) dX13_walling_57 h (fun r6 s7 hv h => ?_)
    refine r_aload_n dX13_walling_60 rfl rfl ?_
    refine gf_X13_87 rfl dX13_walling_61 ?_
    refine r_iload_n dX13_walling_64 rfl ?_
    refine r_aload_n dX13_walling_65 rfl rfl ?_
    refine r_iconst dX13_walling_66 (by decide) ?_
    refine r_iconst dX13_walling_67 (by decide) ?_
    refine r_callV (ci := 11) (As := [(0, 1), (0, 4)]) (st := [(0, (w32 ((w32 (4 * (s2 92 36))) + (s2 104 (s2 92 36))))), (33, 105)]) (by decide) ok_X13_405 rfl rfl (Nat.le_of_ble_eq_true rfl) dX13_walling_68 h (fun r8 s9 hv h => ?_)
    obtain ⟨hb, h⟩ := h
    refine r_iast (n := 8) rfl (by decide) dX13_walling_71 hb ?_
    have h := h _ rfl
    generalize hs_s10 : ups s9 105 (w32 ((w32 (4 * (s2 92 36))) + (s2 104 (s2 92 36)))) r8 = s10 at h ⊢
    refine r_aload_n dX13_walling_72 rfl rfl ?_
    refine r_ldc2 (v := 1751738216) dX13_walling_73 lk_X13_297 (by decide) ?_
    refine r_callV (ci := 11) (As := [(2, 1751738216)]) (st := []) (by decide) ok_X13_401 rfl rfl (Nat.le_of_ble_eq_true rfl) dX13_walling_76 h (fun r11 s12 hv h => ?_)
    refine r_aload_n dX13_walling_79 rfl rfl ?_
    refine gf_X13_90 rfl dX13_walling_80 ?_
    refine r_iload_n dX13_walling_83 rfl ?_
    refine r_aload_n dX13_walling_84 rfl rfl ?_
    refine r_iconst dX13_walling_85 (by decide) ?_
    refine r_iconst dX13_walling_86 (by decide) ?_
    refine r_callV (ci := 11) (As := [(0, 1), (0, 4)]) (st := [(0, (w32 ((w32 (4 * (s2 92 36))) + (s2 104 (s2 92 36))))), (33, 106)]) (by decide) ok_X13_405 rfl rfl (Nat.le_of_ble_eq_true rfl) dX13_walling_87 h (fun r13 s14 hv h => ?_)
    obtain ⟨hb, h⟩ := h
    refine r_iast (n := 8) rfl (by decide) dX13_walling_90 hb ?_
    have h := h _ rfl
    generalize hs_s15 : ups s14 106 (w32 ((w32 (4 * (s2 92 36))) + (s2 104 (s2 92 36)))) r13 = s15 at h ⊢
    refine r_aload_n dX13_walling_91 rfl rfl ?_
    refine gf_X13_36 rfl dX13_walling_92 ?_
    refine r_if_ne (tgt := 111) dX13_walling_95 (by decide) (fun hc => ?_) (fun hc => ?_)
    · have h := h.1 hc
      exact r_ret dX13_walling_111 rfl h
    · have h := h.2 hc
      refine r_aload_n dX13_walling_98 rfl rfl ?_
      refine gf_X13_84 rfl dX13_walling_99 ?_
      refine r_aload_n dX13_walling_102 rfl rfl ?_
      refine gf_X13_121 rfl dX13_walling_103 ?_
      refine r_dup2 dX13_walling_106 (show (0 : Nat) ≠ 2 by decide) (show (46 : Nat) ≠ 2 by decide) ?_
      obtain ⟨hb, h⟩ := h
      refine r_iald (n := 2) rfl (by decide) dX13_walling_107 hb ?_
      refine r_iconst dX13_walling_108 (by decide) ?_
      refine r_iadd dX13_walling_109 ?_
      obtain ⟨hb, h⟩ := h
      refine r_iast (n := 2) rfl (by decide) dX13_walling_110 hb ?_
      have h := h _ rfl
      generalize hs_s16 : ups s15 104 (s15 92 36) (w32 ((s15 104 (s15 92 36)) + 1)) = s16 at h ⊢
      exact r_ret dX13_walling_111 rfl h
  · have h := h.2 hc
    exact r_ret dX13_walling_25 rfl h
set_option maxRecDepth 20000 in
theorem S_X13_walling {g : GT} {e : Nat} {Q : Int → Sg → Prop} {s : Sg} (h : ((0 ≤ (s 92 36) ∧ (s 92 36) < 2) ∧ ((¬ (s 104 (s 92 36)) = 4 → P_X13_walling_19 g e Q s 0) ∧ ((s 104 (s 92 36)) = 4 → P_X13_walling_19 g e Q s 1)))) : Mw g (e + 1) M_X13_walling [(21, 92)] s Q := by
  refine Mw.of (ls := [(21, 92), (9, 0)]) pn_X13_walling (Nat.le_of_ble_eq_true rfl) rfl (fun hv => ?_)
  refine r_aload_n dX13_walling_0 rfl rfl ?_
  refine r_aload_n dX13_walling_1 rfl rfl ?_
  refine gf_X13_84 rfl dX13_walling_2 ?_
  refine r_aload_n dX13_walling_5 rfl rfl ?_
  refine gf_X13_121 rfl dX13_walling_6 ?_
  obtain ⟨hb, h⟩ := h
  refine r_iald (n := 2) rfl (by decide) dX13_walling_9 hb ?_
  refine r_iconst dX13_walling_10 (by decide) ?_
  refine r_icmp_ne (tgt := 18) dX13_walling_11 (by decide) (fun hc => ?_) (fun hc => ?_)
  · have h := h.1 hc
    refine r_iconst dX13_walling_18 (by decide) ?_
    exact h
  · have h := h.2 hc
    refine r_iconst dX13_walling_14 (by decide) ?_
    refine r_goto (tgt := 19) dX13_walling_15 (by decide) ?_
    exact h
abbrev P_X13_reading_25 (g : GT) (e : Nat) (Q : Int → Sg → Prop) (s : Sg) (v1 : Int) (v2 : Int) (x1 : Int) : Prop := Wp g (e + 1) M_X13_reading Q 25 [(21, 92), (0, v1), (0, v2)] [(0, x1), (21, 92)] s
abbrev P_X13_reading_43 (g : GT) (e : Nat) (Q : Int → Sg → Prop) (s : Sg) (v1 : Int) (v2 : Int) (x1 : Int) : Prop := Wp g (e + 1) M_X13_reading Q 43 [(21, 92), (0, v1), (0, v2)] [(0, x1), (21, 92)] s
abbrev P_X13_reading_67 (g : GT) (e : Nat) (Q : Int → Sg → Prop) (s : Sg) (v2 : Int) (x1 : Int) : Prop := Wp g (e + 1) M_X13_reading Q 67 [(21, 92), (9, 0), (0, v2)] [(0, x1), (21, 92)] s
set_option maxRecDepth 20000 in
theorem S_X13_reading_25 {g : GT} {e : Nat} {Q : Int → Sg → Prop} {s : Sg} {v1 : Int} {v2 : Int} {x1 : Int} (h : (Mw g e M_X13_counts [(21, 92), (0, x1)] s (fun r1 s2 => ((¬ r1 = 0 → ((¬ v1 = 1 → P_X13_reading_43 g e Q s2 v1 v2 0) ∧ (v1 = 1 → P_X13_reading_43 g e Q s2 v1 v2 1))) ∧ (r1 = 0 → Q 0 s2))))) : P_X13_reading_25 g e Q s v1 v2 x1 := by
  refine r_callV (ci := 11) (As := [(0, x1)]) (st := []) (by decide) ok_X13_393 rfl rfl (Nat.le_of_ble_eq_true rfl) dX13_reading_25 h (fun r1 s2 hv h => ?_)
  refine r_if_ne (tgt := 32) dX13_reading_28 (by decide) (fun hc => ?_) (fun hc => ?_)
  · have h := h.1 hc
    refine r_aload_n dX13_reading_32 rfl rfl ?_
    refine r_iload_n dX13_reading_33 rfl ?_
    refine r_iconst dX13_reading_34 (by decide) ?_
    refine r_icmp_ne (tgt := 42) dX13_reading_35 (by decide) (fun hc => ?_) (fun hc => ?_)
    · have h := h.1 hc
      refine r_iconst dX13_reading_42 (by decide) ?_
      exact h
    · have h := h.2 hc
      refine r_iconst dX13_reading_38 (by decide) ?_
      refine r_goto (tgt := 43) dX13_reading_39 (by decide) ?_
      exact h
  · have h := h.2 hc
    exact r_ret dX13_reading_31 rfl h
set_option maxRecDepth 20000 in
theorem S_X13_reading_43 {g : GT} {e : Nat} {Q : Int → Sg → Prop} {s : Sg} {v1 : Int} {v2 : Int} {x1 : Int} (h : ((x1 = 0 ∨ x1 = 1) ∧ ∀ s1, s1 = ups s 92 37 x1 → ((0 ≤ v2 ∧ v2 < 4) ∧ ∀ s2, s2 = ups s1 108 v2 (s1 92 35) → ((¬ v1 = 1 → P_X13_reading_67 g e Q s2 v2 0) ∧ (v1 = 1 → P_X13_reading_67 g e Q s2 v2 1))))) : P_X13_reading_43 g e Q s v1 v2 x1 := by
  obtain ⟨hz, h⟩ := h
  refine pf_X13_124 rfl hz dX13_reading_43 ?_
  have h := h _ rfl
  generalize hs_s1 : ups s 92 37 x1 = s1 at h ⊢
  refine r_aload_n dX13_reading_46 rfl rfl ?_
  refine gf_X13_96 rfl dX13_reading_47 ?_
  refine r_iload_n dX13_reading_50 rfl ?_
  refine r_aload_n dX13_reading_51 rfl rfl ?_
  refine gf_X13_118 rfl dX13_reading_52 ?_
  obtain ⟨hb, h⟩ := h
  refine r_iast (n := 4) rfl (by decide) dX13_reading_55 hb ?_
  have h := h _ rfl
  generalize hs_s2 : ups s1 108 v2 (s1 92 35) = s2 at h ⊢
  refine r_aload_n dX13_reading_56 rfl rfl ?_
  refine r_iload_n dX13_reading_57 rfl ?_
  refine r_iconst dX13_reading_58 (by decide) ?_
  refine r_icmp_ne (tgt := 66) dX13_reading_59 (by decide) (fun hc => ?_) (fun hc => ?_)
  · have h := h.1 hc
    refine r_iconst dX13_reading_66 (by decide) ?_
    exact r_fgt [true, false, true] rfl h
  · have h := h.2 hc
    refine r_iconst dX13_reading_62 (by decide) ?_
    refine r_goto (tgt := 67) dX13_reading_63 (by decide) ?_
    exact r_fgt [true, false, true] rfl h
set_option maxRecDepth 20000 in
theorem S_X13_reading_67 {g : GT} {e : Nat} {Q : Int → Sg → Prop} {s : Sg} {v2 : Int} {x1 : Int} (h : (Mw g e M_X13_reads [(21, 92), (0, x1)] s (fun _ s2 => ((0 ≤ v2 ∧ v2 < 4) ∧ ∀ s3, s3 = ups s2 109 v2 (s2 92 35) → Q 0 s3)))) : P_X13_reading_67 g e Q s v2 x1 := by
  refine r_callV (ci := 11) (As := [(0, x1)]) (st := []) (by decide) ok_X13_419 rfl rfl (Nat.le_of_ble_eq_true rfl) dX13_reading_67 h (fun r1 s2 hv h => ?_)
  refine r_aload_n dX13_reading_70 rfl rfl ?_
  refine gf_X13_99 rfl dX13_reading_71 ?_
  refine r_iload_n dX13_reading_74 rfl ?_
  refine r_aload_n dX13_reading_75 rfl rfl ?_
  refine gf_X13_118 rfl dX13_reading_76 ?_
  obtain ⟨hb, h⟩ := h
  refine r_iast (n := 4) rfl (by decide) dX13_reading_79 hb ?_
  have h := h _ rfl
  generalize hs_s3 : ups s2 109 v2 (s2 92 35) = s3 at h ⊢
  exact r_ret dX13_reading_80 rfl h
set_option maxRecDepth 20000 in
theorem S_X13_reading {g : GT} {e : Nat} {Q : Int → Sg → Prop} {s : Sg} {v1 : Int} (h : inR v1 → ((0 ≤ (w32 ((w32 (2 * (s 92 36))) + v1)) ∧ (w32 ((w32 (2 * (s 92 36))) + v1)) < 4) ∧ (((s 108 (w32 ((w32 (2 * (s 92 36))) + v1))) = (-1) → P_X13_reading_25 g e Q s v1 (w32 ((w32 (2 * (s 92 36))) + v1)) 0) ∧ (¬ (s 108 (w32 ((w32 (2 * (s 92 36))) + v1))) = (-1) → P_X13_reading_25 g e Q s v1 (w32 ((w32 (2 * (s 92 36))) + v1)) 1)))) : Mw g (e + 1) M_X13_reading [(21, 92), (0, v1)] s Q := by
  refine Mw.of (ls := [(21, 92), (0, v1), (9, 0)]) pn_X13_reading (Nat.le_of_ble_eq_true rfl) rfl (fun hv => ?_)
  have h := h (hv _ (List.Mem.tail _ (List.Mem.head _)))
  refine r_iconst dX13_reading_0 (by decide) ?_
  refine r_aload_n dX13_reading_1 rfl rfl ?_
  refine gf_X13_121 rfl dX13_reading_2 ?_
  refine r_imul dX13_reading_5 ?_
  refine r_iload_n dX13_reading_6 rfl ?_
  refine r_iadd dX13_reading_7 ?_
  refine r_istore_n (ls2 := [(21, 92), (0, v1), (0, (w32 ((w32 (2 * (s 92 36))) + v1)))]) dX13_reading_8 (by decide) rfl ?_
  refine r_aload_n dX13_reading_9 rfl rfl ?_
  refine r_aload_n dX13_reading_10 rfl rfl ?_
  refine gf_X13_96 rfl dX13_reading_11 ?_
  refine r_iload_n dX13_reading_14 rfl ?_
  obtain ⟨hb, h⟩ := h
  refine r_iald (n := 4) rfl (by decide) dX13_reading_15 hb ?_
  refine r_iconst dX13_reading_16 (by decide) ?_
  refine r_icmp_eq (tgt := 24) dX13_reading_17 (by decide) (fun hc => ?_) (fun hc => ?_)
  · have h := h.1 hc
    refine r_iconst dX13_reading_24 (by decide) ?_
    exact h
  · have h := h.2 hc
    refine r_iconst dX13_reading_20 (by decide) ?_
    refine r_goto (tgt := 25) dX13_reading_21 (by decide) ?_
    exact h
set_option maxRecDepth 20000 in
theorem S_X13_telling {g : GT} {e : Nat} {Q : Int → Sg → Prop} {s : Sg} {v1 : Int} {v2 : Int} {v3 : Int} (h : inR v1 → inR v2 → inR v3 → (Mw g e M_X13_counts [(21, 92), (0, 0)] s (fun r1 s2 => ((¬ r1 = 0 → (Mw g e M_X13_number [(21, 92), (0, v2), (0, v3)] s2 (fun r3 s4 => ((¬ (s4 92 8) = 0 → Q 0 s4) ∧ ((s4 92 8) = 0 → ((0 ≤ (w32 ((w32 (5 * (s4 92 36))) + v1)) ∧ (w32 ((w32 (5 * (s4 92 36))) + v1)) < 10) ∧ ∀ s5, s5 = ups s4 107 (w32 ((w32 (5 * (s4 92 36))) + v1)) r3 → Q 0 s5)))))) ∧ (r1 = 0 → Q 0 s2))))) : Mw g (e + 1) M_X13_telling [(21, 92), (0, v1), (0, v2), (0, v3)] s Q := by
  refine Mw.of (ls := [(21, 92), (0, v1), (0, v2), (0, v3), (9, 0)]) pn_X13_telling (Nat.le_of_ble_eq_true rfl) rfl (fun hv => ?_)
  have h := h (hv _ (List.Mem.tail _ (List.Mem.head _))) (hv _ (List.Mem.tail _ (List.Mem.tail _ (List.Mem.head _)))) (hv _ (List.Mem.tail _ (List.Mem.tail _ (List.Mem.tail _ (List.Mem.head _)))))
  refine r_aload_n dX13_telling_0 rfl rfl ?_
  refine r_iconst dX13_telling_1 (by decide) ?_
  refine r_callV (ci := 11) (As := [(0, 0)]) (st := []) (by decide) ok_X13_393 rfl rfl (Nat.le_of_ble_eq_true rfl) dX13_telling_2 h (fun r1 s2 hv h => ?_)
  refine r_if_ne (tgt := 9) dX13_telling_5 (by decide) (fun hc => ?_) (fun hc => ?_)
  · have h := h.1 hc
    refine r_aload_n dX13_telling_9 rfl rfl ?_
    refine r_iload_n dX13_telling_10 rfl ?_
    refine r_iload_n dX13_telling_11 rfl ?_
    refine r_callV (ci := 11) (As := [(0, v2), (0, v3)]) (st := []) (by decide) ok_X13_405 rfl rfl (Nat.le_of_ble_eq_true rfl) dX13_telling_12 h (fun r3 s4 hv h => ?_)
    refine r_istore (ls2 := [(21, 92), (0, v1), (0, v2), (0, v3), (0, r3)]) dX13_telling_15 (by decide) rfl ?_
    refine r_aload_n dX13_telling_17 rfl rfl ?_
    refine gf_X13_36 rfl dX13_telling_18 ?_
    refine r_if_ne (tgt := 39) dX13_telling_21 (by decide) (fun hc => ?_) (fun hc => ?_)
    · have h := h.1 hc
      exact r_ret dX13_telling_39 rfl h
    · have h := h.2 hc
      refine r_aload_n dX13_telling_24 rfl rfl ?_
      refine gf_X13_93 rfl dX13_telling_25 ?_
      refine r_iconst dX13_telling_28 (by decide) ?_
      refine r_aload_n dX13_telling_29 rfl rfl ?_
      refine gf_X13_121 rfl dX13_telling_30 ?_
      refine r_imul dX13_telling_33 ?_
      refine r_iload_n dX13_telling_34 rfl ?_
      refine r_iadd dX13_telling_35 ?_
      refine r_iload dX13_telling_36 rfl ?_
      obtain ⟨hb, h⟩ := h
      refine r_iast (n := 10) rfl (by decide) dX13_telling_38 hb ?_
      have h := h _ rfl
      generalize hs_s5 : ups s4 107 (w32 ((w32 (5 * (s4 92 36))) + v1)) r3 = s5 at h ⊢
      exact r_ret dX13_telling_39 rfl h
  · have h := h.2 hc
    exact r_ret dX13_telling_8 rfl h
abbrev P_X13_raising_39 (g : GT) (e : Nat) (Q : Int → Sg → Prop) (s : Sg) (v1 : Int) (x1 : Int) : Prop := Wp g (e + 1) M_X13_raising Q 39 [(21, 92), (0, v1), (9, 0)] [(0, x1), (21, 92)] s
set_option maxRecDepth 20000 in
theorem S_X13_raising_39 {g : GT} {e : Nat} {Q : Int → Sg → Prop} {s : Sg} {v1 : Int} {x1 : Int} (h : (Mw g e M_X13_number [(21, 92), (0, x1), (0, 30)] s (fun r1 s2 => (((s2 92 8) ≤ 0 → ((0 ≤ (w32 ((w32 (5 * (s2 92 36))) + 0)) ∧ (w32 ((w32 (5 * (s2 92 36))) + 0)) < 10) ∧ ∀ s3, s3 = ups s2 107 (w32 ((w32 (5 * (s2 92 36))) + 0)) v1 → ((0 ≤ (w32 ((w32 (5 * (s3 92 36))) + 1)) ∧ (w32 ((w32 (5 * (s3 92 36))) + 1)) < 10) ∧ ∀ s4, s4 = ups s3 107 (w32 ((w32 (5 * (s3 92 36))) + 1)) r1 → Q 0 s4))) ∧ (¬ (s2 92 8) ≤ 0 → Q 0 s2))))) : P_X13_raising_39 g e Q s v1 x1 := by
  refine r_bipush dX13_raising_39 (by decide) rfl ?_
  refine r_callV (ci := 11) (As := [(0, x1), (0, 30)]) (st := []) (by decide) ok_X13_405 rfl rfl (Nat.le_of_ble_eq_true rfl) dX13_raising_41 h (fun r1 s2 hv h => ?_)
  refine r_istore_n (ls2 := [(21, 92), (0, v1), (0, r1)]) dX13_raising_44 (by decide) rfl ?_
  refine r_aload_n dX13_raising_45 rfl rfl ?_
  refine gf_X13_36 rfl dX13_raising_46 ?_
  refine r_if_le (tgt := 53) dX13_raising_49 (by decide) (fun hc => ?_) (fun hc => ?_)
  · have h := h.1 hc
    refine r_aload_n dX13_raising_53 rfl rfl ?_
    refine gf_X13_93 rfl dX13_raising_54 ?_
    refine r_iconst dX13_raising_57 (by decide) ?_
    refine r_aload_n dX13_raising_58 rfl rfl ?_
    refine gf_X13_121 rfl dX13_raising_59 ?_
    refine r_imul dX13_raising_62 ?_
    refine r_iconst dX13_raising_63 (by decide) ?_
    refine r_iadd dX13_raising_64 ?_
    refine r_iload_n dX13_raising_65 rfl ?_
    obtain ⟨hb, h⟩ := h
    refine r_iast (n := 10) rfl (by decide) dX13_raising_66 hb ?_
    have h := h _ rfl
    generalize hs_s3 : ups s2 107 (w32 ((w32 (5 * (s2 92 36))) + 0)) v1 = s3 at h ⊢
    refine r_aload_n dX13_raising_67 rfl rfl ?_
    refine gf_X13_93 rfl dX13_raising_68 ?_
    refine r_iconst dX13_raising_71 (by decide) ?_
    refine r_aload_n dX13_raising_72 rfl rfl ?_
    refine gf_X13_121 rfl dX13_raising_73 ?_
    refine r_imul dX13_raising_76 ?_
    refine r_iconst dX13_raising_77 (by decide) ?_
    refine r_iadd dX13_raising_78 ?_
    refine r_iload_n dX13_raising_79 rfl ?_
    obtain ⟨hb, h⟩ := h
    refine r_iast (n := 10) rfl (by decide) dX13_raising_80 hb ?_
    have h := h _ rfl
    generalize hs_s4 : ups s3 107 (w32 ((w32 (5 * (s3 92 36))) + 1)) r1 = s4 at h ⊢
    exact r_ret dX13_raising_81 rfl h
  · have h := h.2 hc
    exact r_ret dX13_raising_52 rfl h
set_option maxRecDepth 20000 in
theorem S_X13_raising {g : GT} {e : Nat} {Q : Int → Sg → Prop} {s : Sg} (h : (Mw g e M_X13_counts [(21, 92), (0, 0)] s (fun r1 s2 => ((¬ r1 = 0 → (Mw g e M_X13_number [(21, 92), (0, 1), (0, 30)] s2 (fun r3 s4 => (Mw g e M_X13_must_ [(21, 92), (2, 29807)] s4 (fun _ s6 => (((s6 92 8) ≤ 0 → P_X13_raising_39 g e Q s6 r3 (w32 (r3 + 1))) ∧ (¬ (s6 92 8) ≤ 0 → P_X13_raising_39 g e Q s6 r3 0))))))) ∧ (r1 = 0 → Q 0 s2))))) : Mw g (e + 1) M_X13_raising [(21, 92)] s Q := by
  refine Mw.of (ls := [(21, 92), (9, 0), (9, 0)]) pn_X13_raising (Nat.le_of_ble_eq_true rfl) rfl (fun hv => ?_)
  refine r_aload_n dX13_raising_0 rfl rfl ?_
  refine r_iconst dX13_raising_1 (by decide) ?_
  refine r_callV (ci := 11) (As := [(0, 0)]) (st := []) (by decide) ok_X13_393 rfl rfl (Nat.le_of_ble_eq_true rfl) dX13_raising_2 h (fun r1 s2 hv h => ?_)
  refine r_if_ne (tgt := 9) dX13_raising_5 (by decide) (fun hc => ?_) (fun hc => ?_)
  · have h := h.1 hc
    refine r_aload_n dX13_raising_9 rfl rfl ?_
    refine r_iconst dX13_raising_10 (by decide) ?_
    refine r_bipush dX13_raising_11 (by decide) rfl ?_
    refine r_callV (ci := 11) (As := [(0, 1), (0, 30)]) (st := []) (by decide) ok_X13_405 rfl rfl (Nat.le_of_ble_eq_true rfl) dX13_raising_13 h (fun r3 s4 hv h => ?_)
    refine r_istore_n (ls2 := [(21, 92), (0, r3), (9, 0)]) dX13_raising_16 (by decide) rfl ?_
    refine r_aload_n dX13_raising_17 rfl rfl ?_
    refine r_ldc2 (v := 29807) dX13_raising_18 lk_X13_305 (by decide) ?_
    refine r_callV (ci := 11) (As := [(2, 29807)]) (st := []) (by decide) ok_X13_401 rfl rfl (Nat.le_of_ble_eq_true rfl) dX13_raising_21 h (fun r5 s6 hv h => ?_)
    refine r_aload_n dX13_raising_24 rfl rfl ?_
    refine r_aload_n dX13_raising_25 rfl rfl ?_
    refine gf_X13_36 rfl dX13_raising_26 ?_
    refine r_if_le (tgt := 36) dX13_raising_29 (by decide) (fun hc => ?_) (fun hc => ?_)
    · have h := h.1 hc
      refine r_iload_n dX13_raising_36 rfl ?_
      refine r_iconst dX13_raising_37 (by decide) ?_
      refine r_iadd dX13_raising_38 ?_
      exact h
    · have h := h.2 hc
      refine r_iconst dX13_raising_32 (by decide) ?_
      refine r_goto (tgt := 39) dX13_raising_33 (by decide) ?_
      exact h
  · have h := h.2 hc
    exact r_ret dX13_raising_8 rfl h
