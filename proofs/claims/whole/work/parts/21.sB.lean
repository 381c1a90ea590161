set_option maxRecDepth 20000 in
theorem S_X9_childCount {g : GT} {e : Nat} {Q : Int → Sg → Prop} {s : Sg} {th : Int} (h : (gr g th ∧ tg th = 18) → Q (s (th + 1) 1) s) : Mw g (e + 1) M_X9_childCount [(18, th)] s Q := by
  refine Mw.of (ls := [(18, th)]) pn_X9_childCount (Nat.le_of_ble_eq_true rfl) rfl (fun hv => ?_)
  have h := h (vld_o (by decide) (hv _ (List.Mem.head _)))
  refine r_aload_n dX9_childCount_0 rfl rfl ?_
  refine gf_X9_9 rfl dX9_childCount_1 ?_
  refine r_iconst dX9_childCount_4 (by decide) ?_
  refine r_iald (n := 3) rfl (by decide) dX9_childCount_5 (by decide) ?_
  exact r_iret dX9_childCount_6 rfl h
set_option maxRecDepth 20000 in
theorem S_X9_homeCount {g : GT} {e : Nat} {Q : Int → Sg → Prop} {s : Sg} {th : Int} (h : (gr g th ∧ tg th = 18) → Q (s (th + 1) 0) s) : Mw g (e + 1) M_X9_homeCount [(18, th)] s Q := by
  refine Mw.of (ls := [(18, th)]) pn_X9_homeCount (Nat.le_of_ble_eq_true rfl) rfl (fun hv => ?_)
  have h := h (vld_o (by decide) (hv _ (List.Mem.head _)))
  refine r_aload_n dX9_homeCount_0 rfl rfl ?_
  refine gf_X9_9 rfl dX9_homeCount_1 ?_
  refine r_iconst dX9_homeCount_4 (by decide) ?_
  refine r_iald (n := 3) rfl (by decide) dX9_homeCount_5 (by decide) ?_
  exact r_iret dX9_homeCount_6 rfl h
set_option maxRecDepth 20000 in
theorem S_X9_wallCount {g : GT} {e : Nat} {Q : Int → Sg → Prop} {s : Sg} {th : Int} (h : (gr g th ∧ tg th = 18) → Q (s (th + 1) 2) s) : Mw g (e + 1) M_X9_wallCount [(18, th)] s Q := by
  refine Mw.of (ls := [(18, th)]) pn_X9_wallCount (Nat.le_of_ble_eq_true rfl) rfl (fun hv => ?_)
  have h := h (vld_o (by decide) (hv _ (List.Mem.head _)))
  refine r_aload_n dX9_wallCount_0 rfl rfl ?_
  refine gf_X9_9 rfl dX9_wallCount_1 ?_
  refine r_iconst dX9_wallCount_4 (by decide) ?_
  refine r_iald (n := 3) rfl (by decide) dX9_wallCount_5 (by decide) ?_
  exact r_iret dX9_wallCount_6 rfl h
set_option maxRecDepth 20000 in
theorem S_X9_clear {g : GT} {e : Nat} {Q : Int → Sg → Prop} {s : Sg} {th : Int} (h : (gr g th ∧ tg th = 18) → (Mw g e M_J7_fill_53178 [(31, (th + 1)), (0, 0)] s (fun _ s2 => (Mw g e M_J7_fill_53178 [(33, (th + 10)), (0, (-1))] s2 (fun _ s4 => (∀ s5, s5 = ups s4 (th + 14) 2 0 → (∀ s6, s6 = ups s5 (th + 17) 2 0 → (∀ s7, s7 = ups s6 th 13 0 → (∀ s8, s8 = ups s7 th 14 7 → (∀ s9, s9 = ups s8 th 15 21 → (∀ s10, s10 = ups s9 th 16 10 → (∀ s11, s11 = ups s10 th 17 0 → (∀ s12, s12 = ups s11 th 18 5 → Q 0 s12))))))))))))) : Mw g (e + 1) M_X9_clear [(18, th)] s Q := by
  refine Mw.of (ls := [(18, th)]) pn_X9_clear (Nat.le_of_ble_eq_true rfl) rfl (fun hv => ?_)
  have h := h (vld_o (by decide) (hv _ (List.Mem.head _)))
  refine r_aload_n dX9_clear_0 rfl rfl ?_
  refine gf_X9_9 rfl dX9_clear_1 ?_
  refine r_iconst dX9_clear_4 (by decide) ?_
  refine r_callS (As := [(31, (th + 1)), (0, 0)]) (st := []) ok_X9_60 rfl rfl (Nat.le_of_ble_eq_true rfl) dX9_clear_5 h (fun r1 s2 hv h => ?_)
  refine r_aload_n dX9_clear_8 rfl rfl ?_
  refine gf_X9_32 rfl dX9_clear_9 ?_
  refine r_iconst dX9_clear_12 (by decide) ?_
  refine r_callS (As := [(33, (th + 10)), (0, (-1))]) (st := []) ok_X9_60 rfl rfl (Nat.le_of_ble_eq_true rfl) dX9_clear_13 h (fun r3 s4 hv h => ?_)
  refine r_aload_n dX9_clear_16 rfl rfl ?_
  refine gf_X9_47 rfl dX9_clear_17 ?_
  refine r_iconst dX9_clear_20 (by decide) ?_
  refine pf_X9_66 rfl dX9_clear_21 ?_
  have h := h _ rfl
  generalize hs_s5 : ups s4 (th + 14) 2 0 = s5 at h ⊢
  refine r_aload_n dX9_clear_24 rfl rfl ?_
  refine gf_X9_51 rfl dX9_clear_25 ?_
  refine r_iconst dX9_clear_28 (by decide) ?_
  refine pf_X9_66 rfl dX9_clear_29 ?_
  have h := h _ rfl
  generalize hs_s6 : ups s5 (th + 17) 2 0 = s6 at h ⊢
  refine r_aload_n dX9_clear_32 rfl rfl ?_
  refine r_iconst dX9_clear_33 (by decide) ?_
  refine pf_X9_70 rfl dX9_clear_34 ?_
  have h := h _ rfl
  generalize hs_s7 : ups s6 th 13 0 = s7 at h ⊢
  refine r_aload_n dX9_clear_37 rfl rfl ?_
  refine r_bipush dX9_clear_38 (by decide) rfl ?_
  refine pf_X9_73 rfl dX9_clear_40 ?_
  have h := h _ rfl
  generalize hs_s8 : ups s7 th 14 7 = s8 at h ⊢
  refine r_aload_n dX9_clear_43 rfl rfl ?_
  refine r_bipush dX9_clear_44 (by decide) rfl ?_
  refine pf_X9_76 rfl dX9_clear_46 ?_
  have h := h _ rfl
  generalize hs_s9 : ups s8 th 15 21 = s9 at h ⊢
  refine r_aload_n dX9_clear_49 rfl rfl ?_
  refine r_bipush dX9_clear_50 (by decide) rfl ?_
  refine pf_X9_79 rfl dX9_clear_52 ?_
  have h := h _ rfl
  generalize hs_s10 : ups s9 th 16 10 = s10 at h ⊢
  refine r_aload_n dX9_clear_55 rfl rfl ?_
  refine r_iconst dX9_clear_56 (by decide) ?_
  refine pf_X9_82 rfl dX9_clear_57 ?_
  have h := h _ rfl
  generalize hs_s11 : ups s10 th 17 0 = s11 at h ⊢
  refine r_aload_n dX9_clear_60 rfl rfl ?_
  refine r_iconst dX9_clear_61 (by decide) ?_
  refine pf_X9_85 rfl dX9_clear_62 ?_
  have h := h _ rfl
  generalize hs_s12 : ups s11 th 18 5 = s12 at h ⊢
  exact r_ret dX9_clear_65 rfl h
set_option maxRecDepth 20000 in
theorem S_X4_begin {g : GT} {e : Nat} {Q : Int → Sg → Prop} {s : Sg} {v1 : Int} (h : (gr g v1 ∧ tg v1 = 18) → (∀ s1, s1 = ups s 46 1 v1 → (Mw g e M_X9_clear [(18, (s1 46 1))] s1 (fun _ s3 => (Mw g e M_X6_open [(15, 47)] s3 (fun _ s5 => Q 0 s5)))))) : Mw g (e + 1) M_X4_begin [(13, 46), (18, v1)] s Q := by
  refine Mw.of (ls := [(13, 46), (18, v1)]) pn_X4_begin (Nat.le_of_ble_eq_true rfl) rfl (fun hv => ?_)
  have h := h (vld_o (by decide) (hv _ (List.Mem.tail _ (List.Mem.head _))))
  refine r_aload_n dX4_begin_0 rfl rfl ?_
  refine r_aload_n dX4_begin_1 rfl rfl ?_
  refine pf_X4_20 rfl dX4_begin_2 ?_
  have h := h _ rfl
  generalize hs_s1 : ups s 46 1 v1 = s1 at h ⊢
  refine r_aload_n dX4_begin_5 rfl rfl ?_
  refine gf_X4_20 rfl dX4_begin_6 ?_
  refine r_callV (ci := 8) (As := []) (st := []) (by decide) ok_X4_33 rfl rfl (Nat.le_of_ble_eq_true rfl) dX4_begin_9 h (fun r2 s3 hv h => ?_)
  refine r_aload_n dX4_begin_12 rfl rfl ?_
  refine gf_X4_14 rfl dX4_begin_13 ?_
  refine r_callV (ci := 5) (As := []) (st := []) (by decide) ok_X4_36 rfl rfl (Nat.le_of_ble_eq_true rfl) dX4_begin_16 h (fun r4 s5 hv h => ?_)
  exact r_ret dX4_begin_19 rfl h
set_option maxRecDepth 20000 in
theorem S_X4_hasMore {g : GT} {e : Nat} {Q : Int → Sg → Prop} {s : Sg} (h : (Mw g e M_X6_isGood [(15, 47)] s (fun r1 s2 => ((r1 = 0 → Q 0 s2) ∧ (¬ r1 = 0 → (Mw g e M_X6_goesOn [(15, 47)] s2 (fun r3 s4 => ((r3 = 0 → Q 0 s4) ∧ (¬ r3 = 0 → Q 1 s4))))))))) : Mw g (e + 1) M_X4_hasMore [(13, 46)] s Q := by
  refine Mw.of (ls := [(13, 46)]) pn_X4_hasMore (Nat.le_of_ble_eq_true rfl) rfl (fun hv => ?_)
  refine r_aload_n dX4_hasMore_0 rfl rfl ?_
  refine gf_X4_14 rfl dX4_hasMore_1 ?_
  refine r_callV (ci := 5) (As := []) (st := []) (by decide) ok_X4_39 rfl rfl (Nat.le_of_ble_eq_true rfl) dX4_hasMore_4 h (fun r1 s2 hv h => ?_)
  refine r_if_eq (tgt := 24) dX4_hasMore_7 (by decide) (fun hc => ?_) (fun hc => ?_)
  · have h := h.1 hc
    refine r_iconst dX4_hasMore_24 (by decide) ?_
    exact r_zret dX4_hasMore_25 rfl (by decide) h
  · have h := h.2 hc
    refine r_aload_n dX4_hasMore_10 rfl rfl ?_
    refine gf_X4_14 rfl dX4_hasMore_11 ?_
    refine r_callV (ci := 5) (As := []) (st := []) (by decide) ok_X4_43 rfl rfl (Nat.le_of_ble_eq_true rfl) dX4_hasMore_14 h (fun r3 s4 hv h => ?_)
    refine r_if_eq (tgt := 24) dX4_hasMore_17 (by decide) (fun hc => ?_) (fun hc => ?_)
    · have h := h.1 hc
      refine r_iconst dX4_hasMore_24 (by decide) ?_
      exact r_zret dX4_hasMore_25 rfl (by decide) h
    · have h := h.2 hc
      refine r_iconst dX4_hasMore_20 (by decide) ?_
      refine r_goto (tgt := 25) dX4_hasMore_21 (by decide) ?_
      exact r_zret dX4_hasMore_25 rfl (by decide) h
set_option maxRecDepth 20000 in
theorem S_X4_limit {g : GT} {e : Nat} {Q : Int → Sg → Prop} {s : Sg} {v1 : Int} {v2 : Int} (h : inR v1 → inR v2 → ((v1 < v2 → Q 0 s) ∧ (¬ v1 < v2 → (Mw g e M_X6_failHere [(15, 47), (0, 6)] s (fun _ s2 => Q 0 s2))))) : Mw g (e + 1) M_X4_limit [(13, 46), (0, v1), (0, v2)] s Q := by
  refine Mw.of (ls := [(13, 46), (0, v1), (0, v2)]) pn_X4_limit (Nat.le_of_ble_eq_true rfl) rfl (fun hv => ?_)
  have h := h (hv _ (List.Mem.tail _ (List.Mem.head _))) (hv _ (List.Mem.tail _ (List.Mem.tail _ (List.Mem.head _))))
  refine r_iload_n dX4_limit_0 rfl ?_
  refine r_iload_n dX4_limit_1 rfl ?_
  refine r_icmp_lt (tgt := 14) dX4_limit_2 (by decide) (fun hc => ?_) (fun hc => ?_)
  · have h := h.1 hc
    exact r_ret dX4_limit_14 rfl h
  · have h := h.2 hc
    refine r_aload_n dX4_limit_5 rfl rfl ?_
    refine gf_X4_14 rfl dX4_limit_6 ?_
    refine r_bipush dX4_limit_9 (by decide) rfl ?_
    refine r_callV (ci := 5) (As := [(0, 6)]) (st := []) (by decide) ok_X4_111 rfl rfl (Nat.le_of_ble_eq_true rfl) dX4_limit_11 h (fun r1 s2 hv h => ?_)
    exact r_ret dX4_limit_14 rfl h
abbrev P_X9_find_2 (g : GT) (e : Nat) (Q : Int → Sg → Prop) (s : Sg) (th : Int) (v1 : Int) (v2 : Int) (v3 : Int) : Prop := Wp g (e + 1) M_X9_find Q 2 [(18, th), (0, v1), (0, v2), (0, v3)] [] s
set_option maxRecDepth 20000 in
theorem S_X9_find_2 {g : GT} {e : Nat} {Q : Int → Sg → Prop} {s : Sg} {th : Int} {v1 : Int} {v2 : Int} {v3 : Int} (h : ((0 ≤ v1 ∧ v1 < 3) ∧ (((s (th + 1) v1) ≤ v3 → Q (-1) s) ∧ (¬ (s (th + 1) v1) ≤ v3 → ((0 ≤ v1 ∧ v1 < 3) ∧ ((0 ≤ v3 ∧ v3 < 8) ∧ ((¬ (s (((th + 2) + 1) + v1) v3) = v2 → P_X9_find_2 g e Q s th v1 v2 (w32 (v3 + 1))) ∧ ((s (((th + 2) + 1) + v1) v3) = v2 → Q v3 s)))))))) : P_X9_find_2 g e Q s th v1 v2 v3 := by
  refine r_iload_n dX9_find_2 rfl ?_
  refine r_aload_n dX9_find_3 rfl rfl ?_
  refine gf_X9_9 rfl dX9_find_4 ?_
  refine r_iload_n dX9_find_7 rfl ?_
  obtain ⟨hb, h⟩ := h
  refine r_iald (n := 3) rfl (by decide) dX9_find_8 hb ?_
  refine r_icmp_ge (tgt := 32) dX9_find_9 (by decide) (fun hc => ?_) (fun hc => ?_)
  · have h := h.1 hc
    refine r_iconst dX9_find_32 (by decide) ?_
    exact r_iret dX9_find_33 rfl h
  · have h := h.2 hc
    refine r_aload_n dX9_find_12 rfl rfl ?_
    refine gf_X9_17 rfl dX9_find_13 ?_
    refine r_iload_n dX9_find_16 rfl ?_
    obtain ⟨hb, h⟩ := h
    refine r_aald (n := 3) (t2 := 33) rfl (by decide) rfl dX9_find_17 hb ?_
    show Wp g (e + 1) M_X9_find Q 18 [(18, th), (0, v1), (0, v2), (0, v3)] [(33, (((th + 2) + 1) + v1))] s
    refine r_iload_n dX9_find_18 rfl ?_
    obtain ⟨hb, h⟩ := h
    refine r_iald (n := 8) rfl (by decide) dX9_find_19 hb ?_
    refine r_iload_n dX9_find_20 rfl ?_
    refine r_icmp_ne (tgt := 26) dX9_find_21 (by decide) (fun hc => ?_) (fun hc => ?_)
    · have h := h.1 hc
      refine r_iinc (ls2 := [(18, th), (0, v1), (0, v2), (0, (w32 (v3 + 1)))]) dX9_find_26 rfl (by decide) rfl ?_
      refine r_goto (tgt := 2) dX9_find_29 (by decide) ?_
      exact h
    · have h := h.2 hc
      refine r_iload_n dX9_find_24 rfl ?_
      exact r_iret dX9_find_25 rfl h
set_option maxRecDepth 20000 in
theorem S_X9_find {g : GT} {e : Nat} {Q : Int → Sg → Prop} {s : Sg} {th : Int} {v1 : Int} {v2 : Int} (h : (gr g th ∧ tg th = 18) → inR v1 → inR v2 → P_X9_find_2 g e Q s th v1 v2 0) : Mw g (e + 1) M_X9_find [(18, th), (0, v1), (0, v2)] s Q := by
  refine Mw.of (ls := [(18, th), (0, v1), (0, v2), (9, 0)]) pn_X9_find (Nat.le_of_ble_eq_true rfl) rfl (fun hv => ?_)
  have h := h (vld_o (by decide) (hv _ (List.Mem.head _))) (hv _ (List.Mem.tail _ (List.Mem.head _))) (hv _ (List.Mem.tail _ (List.Mem.tail _ (List.Mem.head _))))
  refine r_iconst dX9_find_0 (by decide) ?_
  refine r_istore_n (ls2 := [(18, th), (0, v1), (0, v2), (0, 0)]) dX9_find_1 (by decide) rfl ?_
  exact h
set_option maxRecDepth 20000 in
theorem S_X9_knows {g : GT} {e : Nat} {Q : Int → Sg → Prop} {s : Sg} {th : Int} {v1 : Int} (h : (gr g th ∧ tg th = 18) → inR v1 → (Mw g e M_X9_find [(18, th), (0, 0), (0, v1)] s (fun r1 s2 => ((¬ r1 = (-1) → Q 1 s2) ∧ (r1 = (-1) → (Mw g e M_X9_find [(18, th), (0, 1), (0, v1)] s2 (fun r3 s4 => ((¬ r3 = (-1) → Q 1 s4) ∧ (r3 = (-1) → (Mw g e M_X9_find [(18, th), (0, 2), (0, v1)] s4 (fun r5 s6 => ((r5 = (-1) → Q 0 s6) ∧ (¬ r5 = (-1) → Q 1 s6))))))))))))) : Mw g (e + 1) M_X9_knows [(18, th), (0, v1)] s Q := by
  refine Mw.of (ls := [(18, th), (0, v1)]) pn_X9_knows (Nat.le_of_ble_eq_true rfl) rfl (fun hv => ?_)
  have h := h (vld_o (by decide) (hv _ (List.Mem.head _))) (hv _ (List.Mem.tail _ (List.Mem.head _)))
  refine r_aload_n dX9_knows_0 rfl rfl ?_
  refine r_iconst dX9_knows_1 (by decide) ?_
  refine r_iload_n dX9_knows_2 rfl ?_
  refine r_callV (ci := 8) (As := [(0, 0), (0, v1)]) (st := []) (by decide) ok_X9_88 rfl rfl (Nat.le_of_ble_eq_true rfl) dX9_knows_3 h (fun r1 s2 hv h => ?_)
  refine r_iconst dX9_knows_6 (by decide) ?_
  refine r_icmp_ne (tgt := 30) dX9_knows_7 (by decide) (fun hc => ?_) (fun hc => ?_)
  · have h := h.1 hc
    refine r_iconst dX9_knows_30 (by decide) ?_
    refine r_goto (tgt := 35) dX9_knows_31 (by decide) ?_
    exact r_zret dX9_knows_35 rfl (by decide) h
  · have h := h.2 hc
    refine r_aload_n dX9_knows_10 rfl rfl ?_
    refine r_iconst dX9_knows_11 (by decide) ?_
    refine r_iload_n dX9_knows_12 rfl ?_
    refine r_callV (ci := 8) (As := [(0, 1), (0, v1)]) (st := []) (by decide) ok_X9_88 rfl rfl (Nat.le_of_ble_eq_true rfl) dX9_knows_13 h (fun r3 s4 hv h => ?_)
    refine r_iconst dX9_knows_16 (by decide) ?_
    refine r_icmp_ne (tgt := 30) dX9_knows_17 (by decide) (fun hc => ?_) (fun hc => ?_)
    · have h := h.1 hc
      refine r_iconst dX9_knows_30 (by decide) ?_
      refine r_goto (tgt := 35) dX9_knows_31 (by decide) ?_
      exact r_zret dX9_knows_35 rfl (by decide) h
    · have h := h.2 hc
      refine r_aload_n dX9_knows_20 rfl rfl ?_
      refine r_iconst dX9_knows_21 (by decide) ?_
      refine r_iload_n dX9_knows_22 rfl ?_
      refine r_callV (ci := 8) (As := [(0, 2), (0, v1)]) (st := []) (by decide) ok_X9_88 rfl rfl (Nat.le_of_ble_eq_true rfl) dX9_knows_23 h (fun r5 s6 hv h => ?_)
      refine r_iconst dX9_knows_26 (by decide) ?_
      refine r_icmp_eq (tgt := 34) dX9_knows_27 (by decide) (fun hc => ?_) (fun hc => ?_)
      · have h := h.1 hc
        refine r_iconst dX9_knows_34 (by decide) ?_
        exact r_zret dX9_knows_35 rfl (by decide) h
      · have h := h.2 hc
        refine r_iconst dX9_knows_30 (by decide) ?_
        refine r_goto (tgt := 35) dX9_knows_31 (by decide) ?_
        exact r_zret dX9_knows_35 rfl (by decide) h
abbrev P_X4_newName_48 (g : GT) (e : Nat) (Q : Int → Sg → Prop) (s : Sg) (v1 : Int) : Prop := Wp g (e + 1) M_X4_newName Q 48 [(13, 46), (0, v1)] [] s
set_option maxRecDepth 20000 in
theorem S_X4_newName_48 {g : GT} {e : Nat} {Q : Int → Sg → Prop} {s : Sg} {v1 : Int} (h : (Mw g e M_X6_advance [(15, 47)] s (fun _ s2 => Q v1 s2))) : P_X4_newName_48 g e Q s v1 := by
  refine r_aload_n dX4_newName_48 rfl rfl ?_
  refine gf_X4_14 rfl dX4_newName_49 ?_
  refine r_callV (ci := 5) (As := []) (st := []) (by decide) ok_X4_54 rfl rfl (Nat.le_of_ble_eq_true rfl) dX4_newName_52 h (fun r1 s2 hv h => ?_)
  refine r_iload_n dX4_newName_55 rfl ?_
  exact r_iret dX4_newName_56 rfl h
set_option maxRecDepth 20000 in
theorem S_X4_newName {g : GT} {e : Nat} {Q : Int → Sg → Prop} {s : Sg} (h : (Mw g e M_X6_isName [(15, 47)] s (fun r1 s2 => ((¬ r1 = 0 → (Mw g e M_X9_knows [(18, (s2 46 1)), (0, (s 47 2))] s2 (fun r3 s4 => ((r3 = 0 → P_X4_newName_48 g e Q s4 (s 47 2)) ∧ (¬ r3 = 0 → (Mw g e M_X6_failHere [(15, 47), (0, 2)] s4 (fun _ s6 => P_X4_newName_48 g e Q s6 (s 47 2)))))))) ∧ (r1 = 0 → (Mw g e M_X6_failHere [(15, 47), (0, 1)] s2 (fun _ s8 => P_X4_newName_48 g e Q s8 (s 47 2)))))))) : Mw g (e + 1) M_X4_newName [(13, 46)] s Q := by
  refine Mw.of (ls := [(13, 46), (9, 0)]) pn_X4_newName (Nat.le_of_ble_eq_true rfl) rfl (fun hv => ?_)
  refine r_aload_n dX4_newName_0 rfl rfl ?_
  refine gf_X4_14 rfl dX4_newName_1 ?_
  refine gf_X4_225 rfl dX4_newName_4 ?_
  refine r_istore_n (ls2 := [(13, 46), (0, (s 47 2))]) dX4_newName_7 (by decide) rfl ?_
  refine r_aload_n dX4_newName_8 rfl rfl ?_
  refine gf_X4_14 rfl dX4_newName_9 ?_
  refine r_callV (ci := 5) (As := []) (st := []) (by decide) ok_X4_231 rfl rfl (Nat.le_of_ble_eq_true rfl) dX4_newName_12 h (fun r1 s2 hv h => ?_)
  refine r_if_ne (tgt := 29) dX4_newName_15 (by decide) (fun hc => ?_) (fun hc => ?_)
  · have h := h.1 hc
    refine r_aload_n dX4_newName_29 rfl rfl ?_
    refine gf_X4_20 rfl dX4_newName_30 ?_
    refine r_iload_n dX4_newName_33 rfl ?_
    refine r_callV (ci := 8) (As := [(0, (s 47 2))]) (st := []) (by decide) ok_X4_234 rfl rfl (Nat.le_of_ble_eq_true rfl) dX4_newName_34 h (fun r3 s4 hv h => ?_)
    refine r_if_eq (tgt := 48) dX4_newName_37 (by decide) (fun hc => ?_) (fun hc => ?_)
    · have h := h.1 hc
      exact h
    · have h := h.2 hc
      refine r_aload_n dX4_newName_40 rfl rfl ?_
      refine gf_X4_14 rfl dX4_newName_41 ?_
      refine r_iconst dX4_newName_44 (by decide) ?_
      refine r_callV (ci := 5) (As := [(0, 2)]) (st := []) (by decide) ok_X4_111 rfl rfl (Nat.le_of_ble_eq_true rfl) dX4_newName_45 h (fun r5 s6 hv h => ?_)
      exact h
  · have h := h.2 hc
    refine r_aload_n dX4_newName_18 rfl rfl ?_
    refine gf_X4_14 rfl dX4_newName_19 ?_
    refine r_iconst dX4_newName_22 (by decide) ?_
    refine r_callV (ci := 5) (As := [(0, 1)]) (st := []) (by decide) ok_X4_111 rfl rfl (Nat.le_of_ble_eq_true rfl) dX4_newName_23 h (fun r7 s8 hv h => ?_)
    refine r_goto (tgt := 48) dX4_newName_26 (by decide) ?_
    exact h
abbrev P_X4_own_19 (g : GT) (e : Nat) (Q : Int → Sg → Prop) (s : Sg) : Prop := Wp g (e + 1) M_X4_own Q 19 [(13, 46), (9, 0)] [] s
set_option maxRecDepth 20000 in
theorem S_X4_own_19 {g : GT} {e : Nat} {Q : Int → Sg → Prop} {s : Sg} (h : (Mw g e M_X6_advance [(15, 47)] s (fun _ s2 => Q 0 s2))) : P_X4_own_19 g e Q s := by
  refine r_aload_n dX4_own_19 rfl rfl ?_
  refine gf_X4_14 rfl dX4_own_20 ?_
  refine r_callV (ci := 5) (As := []) (st := []) (by decide) ok_X4_54 rfl rfl (Nat.le_of_ble_eq_true rfl) dX4_own_23 h (fun r1 s2 hv h => ?_)
  exact r_ret dX4_own_26 rfl h
set_option maxRecDepth 20000 in
theorem S_X4_own {g : GT} {e : Nat} {Q : Int → Sg → Prop} {s : Sg} {v1 : Int} (h : (0 ≤ v1 ∧ v1 < 32) → (((s 47 3) = v1 → P_X4_own_19 g e Q s) ∧ (¬ (s 47 3) = v1 → (Mw g e M_X6_failHere [(15, 47), (0, 1)] s (fun _ s2 => P_X4_own_19 g e Q s2))))) : Mw g (e + 1) M_X4_own [(13, 46), (3, v1)] s Q := by
  refine Mw.of (ls := [(13, 46), (3, v1)]) pn_X4_own (Nat.le_of_ble_eq_true rfl) rfl (fun hv => ?_)
  have h := h (hv _ (List.Mem.tail _ (List.Mem.head _)))
  refine r_aload_n dX4_own_0 rfl rfl ?_
  refine gf_X4_14 rfl dX4_own_1 ?_
  refine gf_X4_63 rfl dX4_own_4 ?_
  refine r_aload_n dX4_own_7 rfl rfl ?_
  refine r_acmp_eq (tgt := 19) dX4_own_8 (by decide) (fun hc => ?_) (fun hc => ?_)
  · have h := h.1 hc
    exact r_fgt [true, false] rfl h
  · have h := h.2 hc
    refine r_aload_n dX4_own_11 rfl rfl ?_
    refine gf_X4_14 rfl dX4_own_12 ?_
    refine r_iconst dX4_own_15 (by decide) ?_
    refine r_callV (ci := 5) (As := [(0, 1)]) (st := []) (by decide) ok_X4_111 rfl rfl (Nat.le_of_ble_eq_true rfl) dX4_own_16 h (fun r1 s2 hv h => ?_)
    exact r_fgt [true, false] rfl h
abbrev P_X4_number_40 (g : GT) (e : Nat) (Q : Int → Sg → Prop) (s : Sg) (v1 : Int) (v3 : Int) : Prop := Wp g (e + 1) M_X4_number Q 40 [(13, 46), (0, v1), (9, 0), (0, v3)] [] s
abbrev P_X4_number_48 (g : GT) (e : Nat) (Q : Int → Sg → Prop) (s : Sg) (v1 : Int) (v3 : Int) : Prop := Wp g (e + 1) M_X4_number Q 48 [(13, 46), (0, v1), (9, 0), (0, v3)] [] s
set_option maxRecDepth 20000 in
theorem S_X4_number_40 {g : GT} {e : Nat} {Q : Int → Sg → Prop} {s : Sg} {v1 : Int} {v3 : Int} (h : (Mw g e M_X6_failHere [(15, 47), (0, 4)] s (fun _ s2 => P_X4_number_48 g e Q s2 v1 v3))) : P_X4_number_40 g e Q s v1 v3 := by
  refine r_aload_n dX4_number_40 rfl rfl ?_
  refine gf_X4_14 rfl dX4_number_41 ?_
  refine r_iconst dX4_number_44 (by decide) ?_
  refine r_callV (ci := 5) (As := [(0, 4)]) (st := []) (by decide) ok_X4_111 rfl rfl (Nat.le_of_ble_eq_true rfl) dX4_number_45 h (fun r1 s2 hv h => ?_)
  exact h
set_option maxRecDepth 20000 in
theorem S_X4_number_48 {g : GT} {e : Nat} {Q : Int → Sg → Prop} {s : Sg} {v1 : Int} {v3 : Int} (h : (Mw g e M_X6_advance [(15, 47)] s (fun _ s2 => (Mw g e M_X6_isGood [(15, 47)] s2 (fun r3 s4 => ((r3 = 0 → Q v1 s4) ∧ (¬ r3 = 0 → Q v3 s4))))))) : P_X4_number_48 g e Q s v1 v3 := by
  refine r_aload_n dX4_number_48 rfl rfl ?_
  refine gf_X4_14 rfl dX4_number_49 ?_
  refine r_callV (ci := 5) (As := []) (st := []) (by decide) ok_X4_54 rfl rfl (Nat.le_of_ble_eq_true rfl) dX4_number_52 h (fun r1 s2 hv h => ?_)
  refine r_aload_n dX4_number_55 rfl rfl ?_
  refine gf_X4_14 rfl dX4_number_56 ?_
  refine r_callV (ci := 5) (As := []) (st := []) (by decide) ok_X4_39 rfl rfl (Nat.le_of_ble_eq_true rfl) dX4_number_59 h (fun r3 s4 hv h => ?_)
  refine r_if_eq (tgt := 69) dX4_number_62 (by decide) (fun hc => ?_) (fun hc => ?_)
  · have h := h.1 hc
    refine r_iload_n dX4_number_69 rfl ?_
    exact r_iret dX4_number_70 rfl h
  · have h := h.2 hc
    refine r_iload_n dX4_number_65 rfl ?_
    refine r_goto (tgt := 70) dX4_number_66 (by decide) ?_
    exact r_iret dX4_number_70 rfl h
set_option maxRecDepth 20000 in
theorem S_X4_number {g : GT} {e : Nat} {Q : Int → Sg → Prop} {s : Sg} {v1 : Int} {v2 : Int} (h : inR v1 → inR v2 → (((s 47 1) = 2 → (((s 47 2) < v1 → P_X4_number_40 g e Q s v1 (s 47 2)) ∧ (¬ (s 47 2) < v1 → (((s 47 2) ≤ v2 → P_X4_number_48 g e Q s v1 (s 47 2)) ∧ (¬ (s 47 2) ≤ v2 → P_X4_number_40 g e Q s v1 (s 47 2)))))) ∧ (¬ (s 47 1) = 2 → (Mw g e M_X6_failHere [(15, 47), (0, 1)] s (fun _ s2 => P_X4_number_48 g e Q s2 v1 (s 47 2)))))) : Mw g (e + 1) M_X4_number [(13, 46), (0, v1), (0, v2)] s Q := by
  refine Mw.of (ls := [(13, 46), (0, v1), (0, v2), (9, 0)]) pn_X4_number (Nat.le_of_ble_eq_true rfl) rfl (fun hv => ?_)
  have h := h (hv _ (List.Mem.tail _ (List.Mem.head _))) (hv _ (List.Mem.tail _ (List.Mem.tail _ (List.Mem.head _))))
  refine r_aload_n dX4_number_0 rfl rfl ?_
  refine gf_X4_14 rfl dX4_number_1 ?_
  refine gf_X4_225 rfl dX4_number_4 ?_
  refine r_istore_n (ls2 := [(13, 46), (0, v1), (0, v2), (0, (s 47 2))]) dX4_number_7 (by decide) rfl ?_
  refine r_aload_n dX4_number_8 rfl rfl ?_
  refine gf_X4_14 rfl dX4_number_9 ?_
  refine gf_X4_228 rfl dX4_number_12 ?_
  refine r_iconst dX4_number_15 (by decide) ?_
  refine r_icmp_eq (tgt := 30) dX4_number_16 (by decide) (fun hc => ?_) (fun hc => ?_)
  · have h := h.1 hc
    refine r_iload_n dX4_number_30 rfl ?_
    refine r_iload_n dX4_number_31 rfl ?_
    refine r_icmp_lt (tgt := 40) dX4_number_32 (by decide) (fun hc => ?_) (fun hc => ?_)
    · have h := h.1 hc
      exact r_fgt [true, true, false, true] rfl h
    · have h := h.2 hc
      refine r_iload_n dX4_number_35 rfl ?_
      refine r_iload_n dX4_number_36 rfl ?_
      refine r_icmp_le (tgt := 48) dX4_number_37 (by decide) (fun hc => ?_) (fun hc => ?_)
      · have h := h.1 hc
        exact r_fgt [true, true, false, true] rfl h
      · have h := h.2 hc
        exact r_fgt [true, true, false, true] rfl h
  · have h := h.2 hc
    refine r_aload_n dX4_number_19 rfl rfl ?_
    refine gf_X4_14 rfl dX4_number_20 ?_
    refine r_iconst dX4_number_23 (by decide) ?_
    refine r_callV (ci := 5) (As := [(0, 1)]) (st := []) (by decide) ok_X4_111 rfl rfl (Nat.le_of_ble_eq_true rfl) dX4_number_24 h (fun r1 s2 hv h => ?_)
    refine r_goto (tgt := 48) dX4_number_27 (by decide) ?_
    exact r_fgt [true, true, false, true] rfl h
set_option maxRecDepth 20000 in
theorem S_X9_addName {g : GT} {e : Nat} {Q : Int → Sg → Prop} {s : Sg} {th : Int} {v1 : Int} {v2 : Int} (h : (gr g th ∧ tg th = 18) → inR v1 → inR v2 → ((0 ≤ v1 ∧ v1 < 3) ∧ ((8 ≤ (s (th + 1) v1) → Q 0 s) ∧ (¬ 8 ≤ (s (th + 1) v1) → ((0 ≤ v1 ∧ v1 < 3) ∧ ((0 ≤ v1 ∧ v1 < 3) ∧ ((0 ≤ (s (th + 1) v1) ∧ (s (th + 1) v1) < 8) ∧ ∀ s1, s1 = ups s (((th + 2) + 1) + v1) (s (th + 1) v1) v2 → ((0 ≤ v1 ∧ v1 < 3) ∧ ((0 ≤ v1 ∧ v1 < 3) ∧ ∀ s2, s2 = ups s1 (th + 1) v1 (w32 ((s1 (th + 1) v1) + 1)) → Q 0 s2))))))))) : Mw g (e + 1) M_X9_addName [(18, th), (0, v1), (0, v2)] s Q := by
  refine Mw.of (ls := [(18, th), (0, v1), (0, v2)]) pn_X9_addName (Nat.le_of_ble_eq_true rfl) rfl (fun hv => ?_)
  have h := h (vld_o (by decide) (hv _ (List.Mem.head _))) (hv _ (List.Mem.tail _ (List.Mem.head _))) (hv _ (List.Mem.tail _ (List.Mem.tail _ (List.Mem.head _))))
  refine r_aload_n dX9_addName_0 rfl rfl ?_
  refine gf_X9_9 rfl dX9_addName_1 ?_
  refine r_iload_n dX9_addName_4 rfl ?_
  obtain ⟨hb, h⟩ := h
  refine r_iald (n := 3) rfl (by decide) dX9_addName_5 hb ?_
  refine r_bipush dX9_addName_6 (by decide) rfl ?_
  refine r_icmp_ge (tgt := 35) dX9_addName_8 (by decide) (fun hc => ?_) (fun hc => ?_)
  · have h := h.1 hc
    exact r_ret dX9_addName_35 rfl h
  · have h := h.2 hc
    refine r_aload_n dX9_addName_11 rfl rfl ?_
    refine gf_X9_17 rfl dX9_addName_12 ?_
    refine r_iload_n dX9_addName_15 rfl ?_
    obtain ⟨hb, h⟩ := h
    refine r_aald (n := 3) (t2 := 33) rfl (by decide) rfl dX9_addName_16 hb ?_
    show Wp g (e + 1) M_X9_addName Q 17 [(18, th), (0, v1), (0, v2)] [(33, (((th + 2) + 1) + v1))] s
    refine r_aload_n dX9_addName_17 rfl rfl ?_
    refine gf_X9_9 rfl dX9_addName_18 ?_
    refine r_iload_n dX9_addName_21 rfl ?_
    obtain ⟨hb, h⟩ := h
    refine r_iald (n := 3) rfl (by decide) dX9_addName_22 hb ?_
    refine r_iload_n dX9_addName_23 rfl ?_
    obtain ⟨hb, h⟩ := h
    refine r_iast (n := 8) rfl (by decide) dX9_addName_24 hb ?_
    have h := h _ rfl
    generalize hs_s1 : ups s (((th + 2) + 1) + v1) (s (th + 1) v1) v2 = s1 at h ⊢
    refine r_aload_n dX9_addName_25 rfl rfl ?_
    refine gf_X9_9 rfl dX9_addName_26 ?_
    refine r_iload_n dX9_addName_29 rfl ?_
    refine r_dup2 dX9_addName_30 (show (0 : Nat) ≠ 2 by decide) (show (31 : Nat) ≠ 2 by decide) ?_
    obtain ⟨hb, h⟩ := h
    refine r_iald (n := 3) rfl (by decide) dX9_addName_31 hb ?_
    refine r_iconst dX9_addName_32 (by decide) ?_
    refine r_iadd dX9_addName_33 ?_
    obtain ⟨hb, h⟩ := h
    refine r_iast (n := 3) rfl (by decide) dX9_addName_34 hb ?_
    have h := h _ rfl
    generalize hs_s2 : ups s1 (th + 1) v1 (w32 ((s1 (th + 1) v1) + 1)) = s2 at h ⊢
    exact r_ret dX9_addName_35 rfl h
set_option maxRecDepth 20000 in
theorem S_X4_homeLine {g : GT} {e : Nat} {Q : Int → Sg → Prop} {s : Sg} (h : (Mw g e M_X9_homeCount [(18, (s 46 1))] s (fun r1 s2 => (Mw g e M_X4_limit [(13, 46), (0, r1), (0, 6)] s2 (fun _ s4 => (Mw g e M_X6_advance [(15, 47)] s4 (fun _ s6 => (Mw g e M_X4_newName [(13, 46)] s6 (fun r7 s8 => (Mw g e M_X4_own [(13, 46), (3, 1)] s8 (fun _ s10 => (Mw g e M_X4_number [(13, 46), (0, 0), (0, 9)] s10 (fun r11 s12 => (Mw g e M_X4_own [(13, 46), (3, 2)] s12 (fun _ s14 => (Mw g e M_X4_number [(13, 46), (0, 0), (0, 9)] s14 (fun r15 s16 => (Mw g e M_X9_homeCount [(18, (s16 46 1))] s16 (fun r17 s18 => (Mw g e M_X6_isGood [(15, 47)] s18 (fun r19 s20 => ((r19 = 0 → Q 0 s20) ∧ (¬ r19 = 0 → ((6 ≤ r17 → Q 0 s20) ∧ (¬ 6 ≤ r17 → ((0 ≤ r17 ∧ r17 < 6) ∧ ∀ s21, s21 = ups s20 ((s20 46 1) + 6) r17 r11 → ((0 ≤ r17 ∧ r17 < 6) ∧ ∀ s22, s22 = ups s21 ((s21 46 1) + 7) r17 r15 → (Mw g e M_X9_addName [(18, (s22 46 1)), (0, 0), (0, r7)] s22 (fun _ s24 => Q 0 s24))))))))))))))))))))))))))))) : Mw g (e + 1) M_X4_homeLine [(13, 46)] s Q := by
  refine Mw.of (ls := [(13, 46), (9, 0), (9, 0), (9, 0), (9, 0)]) pn_X4_homeLine (Nat.le_of_ble_eq_true rfl) rfl (fun hv => ?_)
  refine r_aload_n dX4_homeLine_0 rfl rfl ?_
  refine r_aload_n dX4_homeLine_1 rfl rfl ?_
  refine gf_X4_20 rfl dX4_homeLine_2 ?_
  refine r_callV (ci := 8) (As := []) (st := [(13, 46)]) (by decide) ok_X4_119 rfl rfl (Nat.le_of_ble_eq_true rfl) dX4_homeLine_5 h (fun r1 s2 hv h => ?_)
  refine r_bipush dX4_homeLine_8 (by decide) rfl ?_
  refine r_callV (ci := 3) (As := [(0, r1), (0, 6)]) (st := []) (by decide) ok_X4_122 rfl rfl (Nat.le_of_ble_eq_true rfl) dX4_homeLine_10 h (fun r3 s4 hv h => ?_)
  refine r_aload_n dX4_homeLine_13 rfl rfl ?_
  refine gf_X4_14 rfl dX4_homeLine_14 ?_
  refine r_callV (ci := 5) (As := []) (st := []) (by decide) ok_X4_54 rfl rfl (Nat.le_of_ble_eq_true rfl) dX4_homeLine_17 h (fun r5 s6 hv h => ?_)
  refine r_aload_n dX4_homeLine_20 rfl rfl ?_
  refine r_callV (ci := 3) (As := []) (st := []) (by decide) ok_X4_125 rfl rfl (Nat.le_of_ble_eq_true rfl) dX4_homeLine_21 h (fun r7 s8 hv h => ?_)
  refine r_istore_n (ls2 := [(13, 46), (0, r7), (9, 0), (9, 0), (9, 0)]) dX4_homeLine_24 (by decide) rfl ?_
  refine r_aload_n dX4_homeLine_25 rfl rfl ?_
  refine r_getsE (i := 1) (v := 1) (by decide) rfl lk_X4_128 dX4_homeLine_26 ?_
  refine r_callV (ci := 3) (As := [(3, 1)]) (st := []) (by decide) ok_X4_131 rfl rfl (Nat.le_of_ble_eq_true rfl) dX4_homeLine_29 h (fun r9 s10 hv h => ?_)
  refine r_aload_n dX4_homeLine_32 rfl rfl ?_
  refine r_iconst dX4_homeLine_33 (by decide) ?_
  refine r_bipush dX4_homeLine_34 (by decide) rfl ?_
  refine r_callV (ci := 3) (As := [(0, 0), (0, 9)]) (st := []) (by decide) ok_X4_135 rfl rfl (Nat.le_of_ble_eq_true rfl) dX4_homeLine_36 h (fun r11 s12 hv h => ?_)
  refine r_istore_n (ls2 := [(13, 46), (0, r7), (0, r11), (9, 0), (9, 0)]) dX4_homeLine_39 (by decide) rfl ?_
  refine r_aload_n dX4_homeLine_40 rfl rfl ?_
  refine r_getsE (i := 2) (v := 2) (by decide) rfl lk_X4_139 dX4_homeLine_41 ?_
  refine r_callV (ci := 3) (As := [(3, 2)]) (st := []) (by decide) ok_X4_131 rfl rfl (Nat.le_of_ble_eq_true rfl) dX4_homeLine_44 h (fun r13 s14 hv h => ?_)
  refine r_aload_n dX4_homeLine_47 rfl rfl ?_
  refine r_iconst dX4_homeLine_48 (by decide) ?_
  refine r_bipush dX4_homeLine_49 (by decide) rfl ?_
  refine r_callV (ci := 3) (As := [(0, 0), (0, 9)]) (st := []) (by decide) ok_X4_135 rfl rfl (Nat.le_of_ble_eq_true rfl) dX4_homeLine_51 h (fun r15 s16 hv h => ?_)
  refine r_istore_n (ls2 := [(13, 46), (0, r7), (0, r11), (0, r15), (9, 0)]) dX4_homeLine_54 (by decide) rfl ?_
  refine r_aload_n dX4_homeLine_55 rfl rfl ?_
  refine gf_X4_20 rfl dX4_homeLine_56 ?_
  refine r_callV (ci := 8) (As := []) (st := []) (by decide) ok_X4_119 rfl rfl (Nat.le_of_ble_eq_true rfl) dX4_homeLine_59 h (fun r17 s18 hv h => ?_)
  refine r_istore (ls2 := [(13, 46), (0, r7), (0, r11), (0, r15), (0, r17)]) dX4_homeLine_62 (by decide) rfl ?_
  refine r_aload_n dX4_homeLine_64 rfl rfl ?_
  refine gf_X4_14 rfl dX4_homeLine_65 ?_
  refine r_callV (ci := 5) (As := []) (st := []) (by decide) ok_X4_39 rfl rfl (Nat.le_of_ble_eq_true rfl) dX4_homeLine_68 h (fun r19 s20 hv h => ?_)
  refine r_if_eq (tgt := 112) dX4_homeLine_71 (by decide) (fun hc => ?_) (fun hc => ?_)
  · have h := h.1 hc
    exact r_ret dX4_homeLine_112 rfl h
  · have h := h.2 hc
    refine r_iload dX4_homeLine_74 rfl ?_
    refine r_bipush dX4_homeLine_76 (by decide) rfl ?_
    refine r_icmp_ge (tgt := 112) dX4_homeLine_78 (by decide) (fun hc => ?_) (fun hc => ?_)
    · have h := h.1 hc
      exact r_ret dX4_homeLine_112 rfl h
    · have h := h.2 hc
      refine r_aload_n dX4_homeLine_81 rfl rfl ?_
      refine gf_X4_20 rfl dX4_homeLine_82 ?_
      refine gf_X4_142 rfl dX4_homeLine_85 ?_
      refine r_iload dX4_homeLine_88 rfl ?_
      refine r_iload_n dX4_homeLine_90 rfl ?_
      obtain ⟨hb, h⟩ := h
      refine r_iast (n := 6) rfl (by decide) dX4_homeLine_91 hb ?_
      have h := h _ rfl
      generalize hs_s21 : ups s20 ((s20 46 1) + 6) r17 r11 = s21 at h ⊢
      refine r_aload_n dX4_homeLine_92 rfl rfl ?_
      refine gf_X4_20 rfl dX4_homeLine_93 ?_
      refine gf_X4_145 rfl dX4_homeLine_96 ?_
      refine r_iload dX4_homeLine_99 rfl ?_
      refine r_iload_n dX4_homeLine_101 rfl ?_
      obtain ⟨hb, h⟩ := h
      refine r_iast (n := 6) rfl (by decide) dX4_homeLine_102 hb ?_
      have h := h _ rfl
      generalize hs_s22 : ups s21 ((s21 46 1) + 7) r17 r15 = s22 at h ⊢
      refine r_aload_n dX4_homeLine_103 rfl rfl ?_
      refine gf_X4_20 rfl dX4_homeLine_104 ?_
      refine r_iconst dX4_homeLine_107 (by decide) ?_
      refine r_iload_n dX4_homeLine_108 rfl ?_
      refine r_callV (ci := 8) (As := [(0, 0), (0, r7)]) (st := []) (by decide) ok_X4_148 rfl rfl (Nat.le_of_ble_eq_true rfl) dX4_homeLine_109 h (fun r23 s24 hv h => ?_)
      exact r_ret dX4_homeLine_112 rfl h
abbrev P_X4_known_39 (g : GT) (e : Nat) (Q : Int → Sg → Prop) (s : Sg) (v2 : Int) (v3 : Int) : Prop := Wp g (e + 1) M_X4_known Q 39 [(13, 46), (9, 0), (0, v2), (0, v3)] [] s
abbrev P_X4_known_52 (g : GT) (e : Nat) (Q : Int → Sg → Prop) (s : Sg) : Prop := Wp g (e + 1) M_X4_known Q 52 [(13, 46), (9, 0), (9, 0), (9, 0)] [] s
set_option maxRecDepth 20000 in
theorem S_X4_known_39 {g : GT} {e : Nat} {Q : Int → Sg → Prop} {s : Sg} {v2 : Int} {v3 : Int} (h : ((v3 = (-1) → P_X4_known_52 g e Q s) ∧ (¬ v3 = (-1) → (((bAnd v2 (bShl 1 v3)) = 0 → (Mw g e M_X6_advance [(15, 47)] s (fun _ s2 => Q v3 s2))) ∧ (¬ (bAnd v2 (bShl 1 v3)) = 0 → P_X4_known_52 g e Q s))))) : P_X4_known_39 g e Q s v2 v3 := by
  refine r_iload_n dX4_known_39 rfl ?_
  refine r_iconst dX4_known_40 (by decide) ?_
  refine r_icmp_eq (tgt := 52) dX4_known_41 (by decide) (fun hc => ?_) (fun hc => ?_)
  · have h := h.1 hc
    exact r_fgt [true, false, false, false] rfl h
  · have h := h.2 hc
    refine r_iload_n dX4_known_44 rfl ?_
    refine r_iconst dX4_known_45 (by decide) ?_
    refine r_iload_n dX4_known_46 rfl ?_
    refine r_ishl dX4_known_47 ?_
    refine r_iand dX4_known_48 ?_
    refine r_if_eq (tgt := 62) dX4_known_49 (by decide) (fun hc => ?_) (fun hc => ?_)
    · have h := h.1 hc
      refine r_aload_n dX4_known_62 rfl rfl ?_
      refine gf_X4_14 rfl dX4_known_63 ?_
      refine r_callV (ci := 5) (As := []) (st := []) (by decide) ok_X4_54 rfl rfl (Nat.le_of_ble_eq_true rfl) dX4_known_66 h (fun r1 s2 hv h => ?_)
      refine r_iload_n dX4_known_69 rfl ?_
      exact r_iret dX4_known_70 rfl h
    · have h := h.2 hc
      exact r_fgt [true, false, false, false] rfl h
set_option maxRecDepth 20000 in
theorem S_X4_known_52 {g : GT} {e : Nat} {Q : Int → Sg → Prop} {s : Sg} (h : (Mw g e M_X6_failHere [(15, 47), (0, 3)] s (fun _ s2 => Q (-1) s2))) : P_X4_known_52 g e Q s := by
  refine r_aload_n dX4_known_52 rfl rfl ?_
  refine gf_X4_14 rfl dX4_known_53 ?_
  refine r_iconst dX4_known_56 (by decide) ?_
  refine r_callV (ci := 5) (As := [(0, 3)]) (st := []) (by decide) ok_X4_111 rfl rfl (Nat.le_of_ble_eq_true rfl) dX4_known_57 h (fun r1 s2 hv h => ?_)
  refine r_iconst dX4_known_60 (by decide) ?_
  exact r_iret dX4_known_61 rfl h
set_option maxRecDepth 20000 in
theorem S_X4_known {g : GT} {e : Nat} {Q : Int → Sg → Prop} {s : Sg} {v1 : Int} {v2 : Int} (h : inR v1 → inR v2 → (Mw g e M_X6_isName [(15, 47)] s (fun r1 s2 => ((¬ r1 = 0 → (Mw g e M_X9_find [(18, (s2 46 1)), (0, v1), (0, (s2 47 2))] s2 (fun r3 s4 => P_X4_known_39 g e Q s4 v2 r3))) ∧ (r1 = 0 → (Mw g e M_X6_failHere [(15, 47), (0, 1)] s2 (fun _ s6 => P_X4_known_39 g e Q s6 v2 (-1)))))))) : Mw g (e + 1) M_X4_known [(13, 46), (0, v1), (0, v2)] s Q := by
  refine Mw.of (ls := [(13, 46), (0, v1), (0, v2), (9, 0)]) pn_X4_known (Nat.le_of_ble_eq_true rfl) rfl (fun hv => ?_)
  have h := h (hv _ (List.Mem.tail _ (List.Mem.head _))) (hv _ (List.Mem.tail _ (List.Mem.tail _ (List.Mem.head _))))
  refine r_iconst dX4_known_0 (by decide) ?_
  refine r_istore_n (ls2 := [(13, 46), (0, v1), (0, v2), (0, (-1))]) dX4_known_1 (by decide) rfl ?_
  refine r_aload_n dX4_known_2 rfl rfl ?_
  refine gf_X4_14 rfl dX4_known_3 ?_
  refine r_callV (ci := 5) (As := []) (st := []) (by decide) ok_X4_231 rfl rfl (Nat.le_of_ble_eq_true rfl) dX4_known_6 h (fun r1 s2 hv h => ?_)
  refine r_if_ne (tgt := 23) dX4_known_9 (by decide) (fun hc => ?_) (fun hc => ?_)
  · have h := h.1 hc
    refine r_aload_n dX4_known_23 rfl rfl ?_
    refine gf_X4_20 rfl dX4_known_24 ?_
    refine r_iload_n dX4_known_27 rfl ?_
    refine r_aload_n dX4_known_28 rfl rfl ?_
    refine gf_X4_14 rfl dX4_known_29 ?_
    refine gf_X4_225 rfl dX4_known_32 ?_
    refine r_callV (ci := 8) (As := [(0, v1), (0, (s2 47 2))]) (st := []) (by decide) ok_X4_237 rfl rfl (Nat.le_of_ble_eq_true rfl) dX4_known_35 h (fun r3 s4 hv h => ?_)
    refine r_istore_n (ls2 := [(13, 46), (0, v1), (0, v2), (0, r3)]) dX4_known_38 (by decide) rfl ?_
    exact r_fgt [true, false, true, true] rfl h
  · have h := h.2 hc
    refine r_aload_n dX4_known_12 rfl rfl ?_
    refine gf_X4_14 rfl dX4_known_13 ?_
    refine r_iconst dX4_known_16 (by decide) ?_
    refine r_callV (ci := 5) (As := [(0, 1)]) (st := []) (by decide) ok_X4_111 rfl rfl (Nat.le_of_ble_eq_true rfl) dX4_known_17 h (fun r5 s6 hv h => ?_)
    refine r_goto (tgt := 39) dX4_known_20 (by decide) ?_
    exact r_fgt [true, false, true, true] rfl h
set_option maxRecDepth 20000 in
theorem S_X4_childLine {g : GT} {e : Nat} {Q : Int → Sg → Prop} {s : Sg} (h : (Mw g e M_X9_childCount [(18, (s 46 1))] s (fun r1 s2 => (Mw g e M_X4_limit [(13, 46), (0, r1), (0, 8)] s2 (fun _ s4 => (Mw g e M_X6_advance [(15, 47)] s4 (fun _ s6 => (Mw g e M_X4_newName [(13, 46)] s6 (fun r7 s8 => (Mw g e M_X4_own [(13, 46), (3, 4)] s8 (fun _ s10 => (Mw g e M_X4_known [(13, 46), (0, 0), (0, 0)] s10 (fun r11 s12 => (Mw g e M_X4_own [(13, 46), (3, 5)] s12 (fun _ s14 => (Mw g e M_X4_number [(13, 46), (0, 0), (0, 99)] s14 (fun r15 s16 => (Mw g e M_X9_childCount [(18, (s16 46 1))] s16 (fun r17 s18 => (Mw g e M_X6_isGood [(15, 47)] s18 (fun r19 s20 => ((r19 = 0 → Q 0 s20) ∧ (¬ r19 = 0 → ((8 ≤ r17 → Q 0 s20) ∧ (¬ 8 ≤ r17 → ((0 ≤ r17 ∧ r17 < 8) ∧ ∀ s21, s21 = ups s20 ((s20 46 1) + 8) r17 r11 → ((0 ≤ r17 ∧ r17 < 8) ∧ ∀ s22, s22 = ups s21 ((s21 46 1) + 9) r17 r15 → (Mw g e M_X9_addName [(18, (s22 46 1)), (0, 1), (0, r7)] s22 (fun _ s24 => Q 0 s24))))))))))))))))))))))))))))) : Mw g (e + 1) M_X4_childLine [(13, 46)] s Q := by
  refine Mw.of (ls := [(13, 46), (9, 0), (9, 0), (9, 0), (9, 0)]) pn_X4_childLine (Nat.le_of_ble_eq_true rfl) rfl (fun hv => ?_)
  refine r_aload_n dX4_childLine_0 rfl rfl ?_
  refine r_aload_n dX4_childLine_1 rfl rfl ?_
  refine gf_X4_20 rfl dX4_childLine_2 ?_
  refine r_callV (ci := 8) (As := []) (st := [(13, 46)]) (by decide) ok_X4_151 rfl rfl (Nat.le_of_ble_eq_true rfl) dX4_childLine_5 h (fun r1 s2 hv h => ?_)
  refine r_bipush dX4_childLine_8 (by decide) rfl ?_
  refine r_callV (ci := 3) (As := [(0, r1), (0, 8)]) (st := []) (by decide) ok_X4_122 rfl rfl (Nat.le_of_ble_eq_true rfl) dX4_childLine_10 h (fun r3 s4 hv h => ?_)
  refine r_aload_n dX4_childLine_13 rfl rfl ?_
  refine gf_X4_14 rfl dX4_childLine_14 ?_
  refine r_callV (ci := 5) (As := []) (st := []) (by decide) ok_X4_54 rfl rfl (Nat.le_of_ble_eq_true rfl) dX4_childLine_17 h (fun r5 s6 hv h => ?_)
  refine r_aload_n dX4_childLine_20 rfl rfl ?_
  refine r_callV (ci := 3) (As := []) (st := []) (by decide) ok_X4_125 rfl rfl (Nat.le_of_ble_eq_true rfl) dX4_childLine_21 h (fun r7 s8 hv h => ?_)
  refine r_istore_n (ls2 := [(13, 46), (0, r7), (9, 0), (9, 0), (9, 0)]) dX4_childLine_24 (by decide) rfl ?_
  refine r_aload_n dX4_childLine_25 rfl rfl ?_
  refine r_getsE (i := 4) (v := 4) (by decide) rfl lk_X4_154 dX4_childLine_26 ?_
  refine r_callV (ci := 3) (As := [(3, 4)]) (st := []) (by decide) ok_X4_131 rfl rfl (Nat.le_of_ble_eq_true rfl) dX4_childLine_29 h (fun r9 s10 hv h => ?_)
  refine r_aload_n dX4_childLine_32 rfl rfl ?_
  refine r_iconst dX4_childLine_33 (by decide) ?_
  refine r_iconst dX4_childLine_34 (by decide) ?_
  refine r_callV (ci := 3) (As := [(0, 0), (0, 0)]) (st := []) (by decide) ok_X4_157 rfl rfl (Nat.le_of_ble_eq_true rfl) dX4_childLine_35 h (fun r11 s12 hv h => ?_)
  refine r_istore_n (ls2 := [(13, 46), (0, r7), (0, r11), (9, 0), (9, 0)]) dX4_childLine_38 (by decide) rfl ?_
  refine r_aload_n dX4_childLine_39 rfl rfl ?_
  refine r_getsE (i := 5) (v := 5) (by decide) rfl lk_X4_160 dX4_childLine_40 ?_
  refine r_callV (ci := 3) (As := [(3, 5)]) (st := []) (by decide) ok_X4_131 rfl rfl (Nat.le_of_ble_eq_true rfl) dX4_childLine_43 h (fun r13 s14 hv h => ?_)
  refine r_aload_n dX4_childLine_46 rfl rfl ?_
  refine r_iconst dX4_childLine_47 (by decide) ?_
  refine r_bipush dX4_childLine_48 (by decide) rfl ?_
  refine r_callV (ci := 3) (As := [(0, 0), (0, 99)]) (st := []) (by decide) ok_X4_135 rfl rfl (Nat.le_of_ble_eq_true rfl) dX4_childLine_50 h (fun r15 s16 hv h => ?_)
  refine r_istore_n (ls2 := [(13, 46), (0, r7), (0, r11), (0, r15), (9, 0)]) dX4_childLine_53 (by decide) rfl ?_
  refine r_aload_n dX4_childLine_54 rfl rfl ?_
  refine gf_X4_20 rfl dX4_childLine_55 ?_
  refine r_callV (ci := 8) (As := []) (st := []) (by decide) ok_X4_151 rfl rfl (Nat.le_of_ble_eq_true rfl) dX4_childLine_58 h (fun r17 s18 hv h => ?_)
  refine r_istore (ls2 := [(13, 46), (0, r7), (0, r11), (0, r15), (0, r17)]) dX4_childLine_61 (by decide) rfl ?_
  refine r_aload_n dX4_childLine_63 rfl rfl ?_
  refine gf_X4_14 rfl dX4_childLine_64 ?_
  refine r_callV (ci := 5) (As := []) (st := []) (by decide) ok_X4_39 rfl rfl (Nat.le_of_ble_eq_true rfl) dX4_childLine_67 h (fun r19 s20 hv h => ?_)
  refine r_if_eq (tgt := 111) dX4_childLine_70 (by decide) (fun hc => ?_) (fun hc => ?_)
  · have h := h.1 hc
    exact r_ret dX4_childLine_111 rfl h
  · have h := h.2 hc
    refine r_iload dX4_childLine_73 rfl ?_
    refine r_bipush dX4_childLine_75 (by decide) rfl ?_
    refine r_icmp_ge (tgt := 111) dX4_childLine_77 (by decide) (fun hc => ?_) (fun hc => ?_)
    · have h := h.1 hc
      exact r_ret dX4_childLine_111 rfl h
    · have h := h.2 hc
      refine r_aload_n dX4_childLine_80 rfl rfl ?_
      refine gf_X4_20 rfl dX4_childLine_81 ?_
      refine gf_X4_163 rfl dX4_childLine_84 ?_
      refine r_iload dX4_childLine_87 rfl ?_
      refine r_iload_n dX4_childLine_89 rfl ?_
      obtain ⟨hb, h⟩ := h
      refine r_iast (n := 8) rfl (by decide) dX4_childLine_90 hb ?_
      have h := h _ rfl
      generalize hs_s21 : ups s20 ((s20 46 1) + 8) r17 r11 = s21 at h ⊢
      refine r_aload_n dX4_childLine_91 rfl rfl ?_
      refine gf_X4_20 rfl dX4_childLine_92 ?_
      refine gf_X4_166 rfl dX4_childLine_95 ?_
      refine r_iload dX4_childLine_98 rfl ?_
      refine r_iload_n dX4_childLine_100 rfl ?_
      obtain ⟨hb, h⟩ := h
      refine r_iast (n := 8) rfl (by decide) dX4_childLine_101 hb ?_
      have h := h _ rfl
      generalize hs_s22 : ups s21 ((s21 46 1) + 9) r17 r15 = s22 at h ⊢
      refine r_aload_n dX4_childLine_102 rfl rfl ?_
      refine gf_X4_20 rfl dX4_childLine_103 ?_
      refine r_iconst dX4_childLine_106 (by decide) ?_
      refine r_iload_n dX4_childLine_107 rfl ?_
      refine r_callV (ci := 8) (As := [(0, 1), (0, r7)]) (st := []) (by decide) ok_X4_148 rfl rfl (Nat.le_of_ble_eq_true rfl) dX4_childLine_108 h (fun r23 s24 hv h => ?_)
      exact r_ret dX4_childLine_111 rfl h
abbrev P_X9_twins_4 (g : GT) (e : Nat) (Q : Int → Sg → Prop) (s : Sg) (th : Int) (v1 : Int) (v2 : Int) : Prop := Wp g (e + 1) M_X9_twins Q 4 [(18, th), (0, v1), (0, v2)] [] s
set_option maxRecDepth 20000 in
theorem S_X9_twins_4 {g : GT} {e : Nat} {Q : Int → Sg → Prop} {s : Sg} {th : Int} {v1 : Int} {v2 : Int} (h : (Mw g e M_X9_childCount [(18, th)] s (fun r1 s2 => ((r1 ≤ v2 → Q v1 s2) ∧ (¬ r1 ≤ v2 → ((0 ≤ v2 ∧ v2 < 8) ∧ (((s2 (th + 10) v2) = (-1) → P_X9_twins_4 g e Q s2 th (bOr v1 0) (w32 (v2 + 1))) ∧ (¬ (s2 (th + 10) v2) = (-1) → P_X9_twins_4 g e Q s2 th (bOr v1 (bShl 1 v2)) (w32 (v2 + 1)))))))))) : P_X9_twins_4 g e Q s th v1 v2 := by
  refine r_iload_n dX9_twins_4 rfl ?_
  refine r_aload_n dX9_twins_5 rfl rfl ?_
  refine r_callV (ci := 8) (As := []) (st := [(0, v2)]) (by decide) ok_X9_92 rfl rfl (Nat.le_of_ble_eq_true rfl) dX9_twins_6 h (fun r1 s2 hv h => ?_)
  refine r_icmp_ge (tgt := 38) dX9_twins_9 (by decide) (fun hc => ?_) (fun hc => ?_)
  · have h := h.1 hc
    refine r_iload_n dX9_twins_38 rfl ?_
    exact r_iret dX9_twins_39 rfl h
  · have h := h.2 hc
    refine r_iload_n dX9_twins_12 rfl ?_
    refine r_aload_n dX9_twins_13 rfl rfl ?_
    refine gf_X9_32 rfl dX9_twins_14 ?_
    refine r_iload_n dX9_twins_17 rfl ?_
    obtain ⟨hb, h⟩ := h
    refine r_iald (n := 8) rfl (by decide) dX9_twins_18 hb ?_
    refine r_iconst dX9_twins_19 (by decide) ?_
    refine r_icmp_eq (tgt := 29) dX9_twins_20 (by decide) (fun hc => ?_) (fun hc => ?_)
    · have h := h.1 hc
      refine r_iconst dX9_twins_29 (by decide) ?_
      refine r_ior dX9_twins_30 ?_
      refine r_istore_n (ls2 := [(18, th), (0, (bOr v1 0)), (0, v2)]) dX9_twins_31 (by decide) rfl ?_
      refine r_iinc (ls2 := [(18, th), (0, (bOr v1 0)), (0, (w32 (v2 + 1)))]) dX9_twins_32 rfl (by decide) rfl ?_
      refine r_goto (tgt := 4) dX9_twins_35 (by decide) ?_
      exact h
    · have h := h.2 hc
      refine r_iconst dX9_twins_23 (by decide) ?_
      refine r_iload_n dX9_twins_24 rfl ?_
      refine r_ishl dX9_twins_25 ?_
      refine r_goto (tgt := 30) dX9_twins_26 (by decide) ?_
      refine r_ior dX9_twins_30 ?_
      refine r_istore_n (ls2 := [(18, th), (0, (bOr v1 (bShl 1 v2))), (0, v2)]) dX9_twins_31 (by decide) rfl ?_
      refine r_iinc (ls2 := [(18, th), (0, (bOr v1 (bShl 1 v2))), (0, (w32 (v2 + 1)))]) dX9_twins_32 rfl (by decide) rfl ?_
      refine r_goto (tgt := 4) dX9_twins_35 (by decide) ?_
      exact h
set_option maxRecDepth 20000 in
theorem S_X9_twins {g : GT} {e : Nat} {Q : Int → Sg → Prop} {s : Sg} {th : Int} (h : (gr g th ∧ tg th = 18) → P_X9_twins_4 g e Q s th 0 0) : Mw g (e + 1) M_X9_twins [(18, th)] s Q := by
  refine Mw.of (ls := [(18, th), (9, 0), (9, 0)]) pn_X9_twins (Nat.le_of_ble_eq_true rfl) rfl (fun hv => ?_)
  have h := h (vld_o (by decide) (hv _ (List.Mem.head _)))
  refine r_iconst dX9_twins_0 (by decide) ?_
  refine r_istore_n (ls2 := [(18, th), (0, 0), (9, 0)]) dX9_twins_1 (by decide) rfl ?_
  refine r_iconst dX9_twins_2 (by decide) ?_
  refine r_istore_n (ls2 := [(18, th), (0, 0), (0, 0)]) dX9_twins_3 (by decide) rfl ?_
  exact h
set_option maxRecDepth 20000 in
theorem S_X4_twinsLine {g : GT} {e : Nat} {Q : Int → Sg → Prop} {s : Sg} (h : (Mw g e M_X6_advance [(15, 47)] s (fun _ s2 => (Mw g e M_X9_twins [(18, (s2 46 1))] s2 (fun r3 s4 => (Mw g e M_X4_known [(13, 46), (0, 1), (0, r3)] s4 (fun r5 s6 => (Mw g e M_X4_known [(13, 46), (0, 1), (0, (bOr r3 (bShl 1 r5)))] s6 (fun r7 s8 => ((r5 = (-1) → Q 0 s8) ∧ (¬ r5 = (-1) → ((r7 = (-1) → Q 0 s8) ∧ (¬ r7 = (-1) → ((0 ≤ r5 ∧ r5 < 8) ∧ ∀ s9, s9 = ups s8 ((s8 46 1) + 10) r5 r7 → ((0 ≤ r7 ∧ r7 < 8) ∧ ∀ s10, s10 = ups s9 ((s9 46 1) + 10) r7 r5 → Q 0 s10))))))))))))))) : Mw g (e + 1) M_X4_twinsLine [(13, 46)] s Q := by
  refine Mw.of (ls := [(13, 46), (9, 0), (9, 0), (9, 0)]) pn_X4_twinsLine (Nat.le_of_ble_eq_true rfl) rfl (fun hv => ?_)
  refine r_aload_n dX4_twinsLine_0 rfl rfl ?_
  refine gf_X4_14 rfl dX4_twinsLine_1 ?_
  refine r_callV (ci := 5) (As := []) (st := []) (by decide) ok_X4_54 rfl rfl (Nat.le_of_ble_eq_true rfl) dX4_twinsLine_4 h (fun r1 s2 hv h => ?_)
  refine r_aload_n dX4_twinsLine_7 rfl rfl ?_
  refine gf_X4_20 rfl dX4_twinsLine_8 ?_
  refine r_callV (ci := 8) (As := []) (st := []) (by decide) ok_X4_169 rfl rfl (Nat.le_of_ble_eq_true rfl) dX4_twinsLine_11 h (fun r3 s4 hv h => ?_)
  refine r_istore_n (ls2 := [(13, 46), (0, r3), (9, 0), (9, 0)]) dX4_twinsLine_14 (by decide) rfl ?_
  refine r_aload_n dX4_twinsLine_15 rfl rfl ?_
  refine r_iconst dX4_twinsLine_16 (by decide) ?_
  refine r_iload_n dX4_twinsLine_17 rfl ?_
  refine r_callV (ci := 3) (As := [(0, 1), (0, r3)]) (st := []) (by decide) ok_X4_157 rfl rfl (Nat.le_of_ble_eq_true rfl) dX4_twinsLine_18 h (fun r5 s6 hv h => ?_)
  refine r_istore_n (ls2 := [(13, 46), (0, r3), (0, r5), (9, 0)]) dX4_twinsLine_21 (by decide) rfl ?_
  refine r_aload_n dX4_twinsLine_22 rfl rfl ?_
  refine r_iconst dX4_twinsLine_23 (by decide) ?_
  refine r_iload_n dX4_twinsLine_24 rfl ?_
  refine r_iconst dX4_twinsLine_25 (by decide) ?_
  refine r_iload_n dX4_twinsLine_26 rfl ?_
  refine r_ishl dX4_twinsLine_27 ?_
  refine r_ior dX4_twinsLine_28 ?_
  refine r_callV (ci := 3) (As := [(0, 1), (0, (bOr r3 (bShl 1 r5)))]) (st := []) (by decide) ok_X4_157 rfl rfl (Nat.le_of_ble_eq_true rfl) dX4_twinsLine_29 h (fun r7 s8 hv h => ?_)
  refine r_istore_n (ls2 := [(13, 46), (0, r3), (0, r5), (0, r7)]) dX4_twinsLine_32 (by decide) rfl ?_
  refine r_iload_n dX4_twinsLine_33 rfl ?_
  refine r_iconst dX4_twinsLine_34 (by decide) ?_
  refine r_icmp_eq (tgt := 63) dX4_twinsLine_35 (by decide) (fun hc => ?_) (fun hc => ?_)
  · have h := h.1 hc
    exact r_ret dX4_twinsLine_63 rfl h
  · have h := h.2 hc
    refine r_iload_n dX4_twinsLine_38 rfl ?_
    refine r_iconst dX4_twinsLine_39 (by decide) ?_
    refine r_icmp_eq (tgt := 63) dX4_twinsLine_40 (by decide) (fun hc => ?_) (fun hc => ?_)
    · have h := h.1 hc
      exact r_ret dX4_twinsLine_63 rfl h
    · have h := h.2 hc
      refine r_aload_n dX4_twinsLine_43 rfl rfl ?_
      refine gf_X4_20 rfl dX4_twinsLine_44 ?_
      refine gf_X4_172 rfl dX4_twinsLine_47 ?_
      refine r_iload_n dX4_twinsLine_50 rfl ?_
      refine r_iload_n dX4_twinsLine_51 rfl ?_
      obtain ⟨hb, h⟩ := h
      refine r_iast (n := 8) rfl (by decide) dX4_twinsLine_52 hb ?_
      have h := h _ rfl
      generalize hs_s9 : ups s8 ((s8 46 1) + 10) r5 r7 = s9 at h ⊢
      refine r_aload_n dX4_twinsLine_53 rfl rfl ?_
      refine gf_X4_20 rfl dX4_twinsLine_54 ?_
      refine gf_X4_172 rfl dX4_twinsLine_57 ?_
      refine r_iload_n dX4_twinsLine_60 rfl ?_
      refine r_iload_n dX4_twinsLine_61 rfl ?_
      obtain ⟨hb, h⟩ := h
      refine r_iast (n := 8) rfl (by decide) dX4_twinsLine_62 hb ?_
      have h := h _ rfl
      generalize hs_s10 : ups s9 ((s9 46 1) + 10) r7 r5 = s10 at h ⊢
      exact r_ret dX4_twinsLine_63 rfl h
abbrev P_X9_foes_5 (g : GT) (e : Nat) (Q : Int → Sg → Prop) (s : Sg) (th : Int) (v1 : Int) (v2 : Int) (v3 : Int) (v4 : Int) : Prop := Wp g (e + 1) M_X9_foes Q 5 [(18, th), (0, v1), (0, v2), (0, v3), (0, v4), (9, 0)] [] s
abbrev P_X9_foes_28 (g : GT) (e : Nat) (Q : Int → Sg → Prop) (s : Sg) (th : Int) (v1 : Int) (v2 : Int) (v3 : Int) (v4 : Int) (x0 : Int) : Prop := Wp g (e + 1) M_X9_foes Q 28 [(18, th), (0, v1), (0, v2), (0, v3), (0, v4), (9, 0)] [(0, x0)] s
set_option maxRecDepth 20000 in
theorem S_X9_foes_5 {g : GT} {e : Nat} {Q : Int → Sg → Prop} {s : Sg} {th : Int} {v1 : Int} {v2 : Int} {v3 : Int} {v4 : Int} (h : (((s th 13) ≤ v4 → Q v3 s) ∧ (¬ (s th 13) ≤ v4 → ((¬ (bAnd v2 (bShl 1 v4)) = 0 → P_X9_foes_28 g e Q s th v1 v2 v3 v4 0) ∧ ((bAnd v2 (bShl 1 v4)) = 0 → P_X9_foes_28 g e Q s th v1 v2 v3 v4 1))))) : P_X9_foes_5 g e Q s th v1 v2 v3 v4 := by
  refine r_iload dX9_foes_5 rfl ?_
  refine r_aload_n dX9_foes_7 rfl rfl ?_
  refine gf_X9_70 rfl dX9_foes_8 ?_
  refine r_icmp_ge (tgt := 71) dX9_foes_11 (by decide) (fun hc => ?_) (fun hc => ?_)
  · have h := h.1 hc
    refine r_iload_n dX9_foes_71 rfl ?_
    exact r_iret dX9_foes_72 rfl h
  · have h := h.2 hc
    refine r_iload_n dX9_foes_14 rfl ?_
    refine r_iconst dX9_foes_15 (by decide) ?_
    refine r_iload dX9_foes_16 rfl ?_
    refine r_ishl dX9_foes_18 ?_
    refine r_iand dX9_foes_19 ?_
    refine r_if_ne (tgt := 27) dX9_foes_20 (by decide) (fun hc => ?_) (fun hc => ?_)
    · have h := h.1 hc
      refine r_iconst dX9_foes_27 (by decide) ?_
      exact h
    · have h := h.2 hc
      refine r_iconst dX9_foes_23 (by decide) ?_
      refine r_goto (tgt := 28) dX9_foes_24 (by decide) ?_
      exact h
set_option maxRecDepth 20000 in
theorem S_X9_foes_28 {g : GT} {e : Nat} {Q : Int → Sg → Prop} {s : Sg} {th : Int} {v1 : Int} {v2 : Int} {v3 : Int} {v4 : Int} {x0 : Int} (h : ((x0 = 0 → P_X9_foes_5 g e Q s th v1 v2 v3 (w32 (v4 + 1))) ∧ (¬ x0 = 0 → ((0 ≤ v4 ∧ v4 < 10) ∧ (((bAnd (s (th + 13) v4) (bShl 1 v1)) = 0 → P_X9_foes_5 g e Q s th v1 v2 v3 (w32 (v4 + 1))) ∧ (¬ (bAnd (s (th + 13) v4) (bShl 1 v1)) = 0 → ((0 ≤ v4 ∧ v4 < 10) ∧ P_X9_foes_5 g e Q s th v1 v2 (bOr v3 (bAnd (s (th + 13) v4) (bXor (bShl 1 v1) (-1)))) (w32 (v4 + 1))))))))) : P_X9_foes_28 g e Q s th v1 v2 v3 v4 x0 := by
  refine r_istore (ls2 := [(18, th), (0, v1), (0, v2), (0, v3), (0, v4), (0, x0)]) dX9_foes_28 (by decide) rfl ?_
  refine r_iload dX9_foes_30 rfl ?_
  refine r_if_eq (tgt := 65) dX9_foes_32 (by decide) (fun hc => ?_) (fun hc => ?_)
  · have h := h.1 hc
    refine r_iinc (ls2 := [(18, th), (0, v1), (0, v2), (0, v3), (0, (w32 (v4 + 1))), (0, x0)]) dX9_foes_65 rfl (by decide) rfl ?_
    refine r_goto (tgt := 5) dX9_foes_68 (by decide) ?_
    exact r_fgt [true, true, true, true, true, false] rfl h
  · have h := h.2 hc
    refine r_aload_n dX9_foes_35 rfl rfl ?_
    refine gf_X9_41 rfl dX9_foes_36 ?_
    refine r_iload dX9_foes_39 rfl ?_
    obtain ⟨hb, h⟩ := h
    refine r_iald (n := 10) rfl (by decide) dX9_foes_41 hb ?_
    refine r_iconst dX9_foes_42 (by decide) ?_
    refine r_iload_n dX9_foes_43 rfl ?_
    refine r_ishl dX9_foes_44 ?_
    refine r_iand dX9_foes_45 ?_
    refine r_if_eq (tgt := 65) dX9_foes_46 (by decide) (fun hc => ?_) (fun hc => ?_)
    · have h := h.1 hc
      refine r_iinc (ls2 := [(18, th), (0, v1), (0, v2), (0, v3), (0, (w32 (v4 + 1))), (0, x0)]) dX9_foes_65 rfl (by decide) rfl ?_
      refine r_goto (tgt := 5) dX9_foes_68 (by decide) ?_
      exact r_fgt [true, true, true, true, true, false] rfl h
    · have h := h.2 hc
      refine r_iload_n dX9_foes_49 rfl ?_
      refine r_aload_n dX9_foes_50 rfl rfl ?_
      refine gf_X9_41 rfl dX9_foes_51 ?_
      refine r_iload dX9_foes_54 rfl ?_
      obtain ⟨hb, h⟩ := h
      refine r_iald (n := 10) rfl (by decide) dX9_foes_56 hb ?_
      refine r_iconst dX9_foes_57 (by decide) ?_
      refine r_iload_n dX9_foes_58 rfl ?_
      refine r_ishl dX9_foes_59 ?_
      refine r_iconst dX9_foes_60 (by decide) ?_
      refine r_ixor dX9_foes_61 ?_
      refine r_iand dX9_foes_62 ?_
      refine r_ior dX9_foes_63 ?_
      refine r_istore_n (ls2 := [(18, th), (0, v1), (0, v2), (0, (bOr v3 (bAnd (s (th + 13) v4) (bXor (bShl 1 v1) (-1))))), (0, v4), (0, x0)]) dX9_foes_64 (by decide) rfl ?_
      refine r_iinc (ls2 := [(18, th), (0, v1), (0, v2), (0, (bOr v3 (bAnd (s (th + 13) v4) (bXor (bShl 1 v1) (-1))))), (0, (w32 (v4 + 1))), (0, x0)]) dX9_foes_65 rfl (by decide) rfl ?_
      refine r_goto (tgt := 5) dX9_foes_68 (by decide) ?_
      exact r_fgt [true, true, true, true, true, false] rfl h
set_option maxRecDepth 20000 in
theorem S_X9_foes {g : GT} {e : Nat} {Q : Int → Sg → Prop} {s : Sg} {th : Int} {v1 : Int} {v2 : Int} (h : (gr g th ∧ tg th = 18) → inR v1 → inR v2 → P_X9_foes_5 g e Q s th v1 v2 0 0) : Mw g (e + 1) M_X9_foes [(18, th), (0, v1), (0, v2)] s Q := by
  refine Mw.of (ls := [(18, th), (0, v1), (0, v2), (9, 0), (9, 0), (9, 0)]) pn_X9_foes (Nat.le_of_ble_eq_true rfl) rfl (fun hv => ?_)
  have h := h (vld_o (by decide) (hv _ (List.Mem.head _))) (hv _ (List.Mem.tail _ (List.Mem.head _))) (hv _ (List.Mem.tail _ (List.Mem.tail _ (List.Mem.head _))))
  refine r_iconst dX9_foes_0 (by decide) ?_
  refine r_istore_n (ls2 := [(18, th), (0, v1), (0, v2), (0, 0), (9, 0), (9, 0)]) dX9_foes_1 (by decide) rfl ?_
  refine r_iconst dX9_foes_2 (by decide) ?_
  refine r_istore (ls2 := [(18, th), (0, v1), (0, v2), (0, 0), (0, 0), (9, 0)]) dX9_foes_3 (by decide) rfl ?_
  exact h
set_option maxRecDepth 20000 in
theorem S_X4_feudLine {g : GT} {e : Nat} {Q : Int → Sg → Prop} {s : Sg} (h : (Mw g e M_X4_limit [(13, 46), (0, (s (s 46 1) 13)), (0, 10)] s (fun _ s2 => (Mw g e M_X6_advance [(15, 47)] s2 (fun _ s4 => (Mw g e M_X4_known [(13, 46), (0, 1), (0, 0)] s4 (fun r5 s6 => (Mw g e M_X9_foes [(18, (s6 46 1)), (0, r5), (0, 0)] s6 (fun r7 s8 => (Mw g e M_X4_known [(13, 46), (0, 1), (0, (bOr r7 (bShl 1 r5)))] s8 (fun r9 s10 => ((r5 = (-1) → Q 0 s10) ∧ (¬ r5 = (-1) → ((r9 = (-1) → Q 0 s10) ∧ (¬ r9 = (-1) → ((10 ≤ (s10 (s10 46 1) 13) → Q 0 s10) ∧ (¬ 10 ≤ (s10 (s10 46 1) 13) → ((0 ≤ (s10 (s10 46 1) 13) ∧ (s10 (s10 46 1) 13) < 10) ∧ ∀ s11, s11 = ups s10 ((s10 46 1) + 13) (s10 (s10 46 1) 13) (bOr (bShl 1 r5) (bShl 1 r9)) → (∀ s12, s12 = ups s11 (s11 46 1) 13 (w32 ((s11 (s11 46 1) 13) + 1)) → Q 0 s12))))))))))))))))))) : Mw g (e + 1) M_X4_feudLine [(13, 46)] s Q := by
  refine Mw.of (ls := [(13, 46), (9, 0), (9, 0)]) pn_X4_feudLine (Nat.le_of_ble_eq_true rfl) rfl (fun hv => ?_)
  refine r_aload_n dX4_feudLine_0 rfl rfl ?_
  refine r_aload_n dX4_feudLine_1 rfl rfl ?_
  refine gf_X4_20 rfl dX4_feudLine_2 ?_
  refine gf_X4_175 rfl dX4_feudLine_5 ?_
  refine r_bipush dX4_feudLine_8 (by decide) rfl ?_
  refine r_callV (ci := 3) (As := [(0, (s (s 46 1) 13)), (0, 10)]) (st := []) (by decide) ok_X4_122 rfl rfl (Nat.le_of_ble_eq_true rfl) dX4_feudLine_10 h (fun r1 s2 hv h => ?_)
  refine r_aload_n dX4_feudLine_13 rfl rfl ?_
  refine gf_X4_14 rfl dX4_feudLine_14 ?_
  refine r_callV (ci := 5) (As := []) (st := []) (by decide) ok_X4_54 rfl rfl (Nat.le_of_ble_eq_true rfl) dX4_feudLine_17 h (fun r3 s4 hv h => ?_)
  refine r_aload_n dX4_feudLine_20 rfl rfl ?_
  refine r_iconst dX4_feudLine_21 (by decide) ?_
  refine r_iconst dX4_feudLine_22 (by decide) ?_
  refine r_callV (ci := 3) (As := [(0, 1), (0, 0)]) (st := []) (by decide) ok_X4_157 rfl rfl (Nat.le_of_ble_eq_true rfl) dX4_feudLine_23 h (fun r5 s6 hv h => ?_)
  refine r_istore_n (ls2 := [(13, 46), (0, r5), (9, 0)]) dX4_feudLine_26 (by decide) rfl ?_
  refine r_aload_n dX4_feudLine_27 rfl rfl ?_
  refine r_iconst dX4_feudLine_28 (by decide) ?_
  refine r_aload_n dX4_feudLine_29 rfl rfl ?_
  refine gf_X4_20 rfl dX4_feudLine_30 ?_
  refine r_iload_n dX4_feudLine_33 rfl ?_
  refine r_iconst dX4_feudLine_34 (by decide) ?_
  refine r_callV (ci := 8) (As := [(0, r5), (0, 0)]) (st := [(0, 1), (13, 46)]) (by decide) ok_X4_178 rfl rfl (Nat.le_of_ble_eq_true rfl) dX4_feudLine_35 h (fun r7 s8 hv h => ?_)
  refine r_iconst dX4_feudLine_38 (by decide) ?_
  refine r_iload_n dX4_feudLine_39 rfl ?_
  refine r_ishl dX4_feudLine_40 ?_
  refine r_ior dX4_feudLine_41 ?_
  refine r_callV (ci := 3) (As := [(0, 1), (0, (bOr r7 (bShl 1 r5)))]) (st := []) (by decide) ok_X4_157 rfl rfl (Nat.le_of_ble_eq_true rfl) dX4_feudLine_42 h (fun r9 s10 hv h => ?_)
  refine r_istore_n (ls2 := [(13, 46), (0, r5), (0, r9)]) dX4_feudLine_45 (by decide) rfl ?_
  refine r_iload_n dX4_feudLine_46 rfl ?_
  refine r_iconst dX4_feudLine_47 (by decide) ?_
  refine r_icmp_eq (tgt := 103) dX4_feudLine_48 (by decide) (fun hc => ?_) (fun hc => ?_)
  · have h := h.1 hc
    exact r_ret dX4_feudLine_103 rfl h
  · have h := h.2 hc
    refine r_iload_n dX4_feudLine_51 rfl ?_
    refine r_iconst dX4_feudLine_52 (by decide) ?_
    refine r_icmp_eq (tgt := 103) dX4_feudLine_53 (by decide) (fun hc => ?_) (fun hc => ?_)
    · have h := h.1 hc
      exact r_ret dX4_feudLine_103 rfl h
    · have h := h.2 hc
      refine r_aload_n dX4_feudLine_56 rfl rfl ?_
      refine gf_X4_20 rfl dX4_feudLine_57 ?_
      refine gf_X4_175 rfl dX4_feudLine_60 ?_
      refine r_bipush dX4_feudLine_63 (by decide) rfl ?_
      refine r_icmp_ge (tgt := 103) dX4_feudLine_65 (by decide) (fun hc => ?_) (fun hc => ?_)
      · have h := h.1 hc
        exact r_ret dX4_feudLine_103 rfl h
      · have h := h.2 hc
        refine r_aload_n dX4_feudLine_68 rfl rfl ?_
        refine gf_X4_20 rfl dX4_feudLine_69 ?_
        refine gf_X4_181 rfl dX4_feudLine_72 ?_
        refine r_aload_n dX4_feudLine_75 rfl rfl ?_
        refine gf_X4_20 rfl dX4_feudLine_76 ?_
        refine gf_X4_175 rfl dX4_feudLine_79 ?_
        refine r_iconst dX4_feudLine_82 (by decide) ?_
        refine r_iload_n dX4_feudLine_83 rfl ?_
        refine r_ishl dX4_feudLine_84 ?_
        refine r_iconst dX4_feudLine_85 (by decide) ?_
        refine r_iload_n dX4_feudLine_86 rfl ?_
        refine r_ishl dX4_feudLine_87 ?_
        refine r_ior dX4_feudLine_88 ?_
        obtain ⟨hb, h⟩ := h
        refine r_iast (n := 10) rfl (by decide) dX4_feudLine_89 hb ?_
        have h := h _ rfl
        generalize hs_s11 : ups s10 ((s10 46 1) + 13) (s10 (s10 46 1) 13) (bOr (bShl 1 r5) (bShl 1 r9)) = s11 at h ⊢
        refine r_aload_n dX4_feudLine_90 rfl rfl ?_
        refine gf_X4_20 rfl dX4_feudLine_91 ?_
        refine r_dup dX4_feudLine_94 (show (18 : Nat) ≠ 2 by decide) ?_
        refine gf_X4_175 rfl dX4_feudLine_95 ?_
        refine r_iconst dX4_feudLine_98 (by decide) ?_
        refine r_iadd dX4_feudLine_99 ?_
        refine pf_X4_175 rfl dX4_feudLine_100 ?_
        have h := h _ rfl
        generalize hs_s12 : ups s11 (s11 46 1) 13 (w32 ((s11 (s11 46 1) 13) + 1)) = s12 at h ⊢
        exact r_ret dX4_feudLine_103 rfl h
set_option maxRecDepth 20000 in
theorem S_X4_wallLine {g : GT} {e : Nat} {Q : Int → Sg → Prop} {s : Sg} (h : (Mw g e M_X9_wallCount [(18, (s 46 1))] s (fun r1 s2 => (Mw g e M_X4_limit [(13, 46), (0, r1), (0, 4)] s2 (fun _ s4 => (Mw g e M_X6_advance [(15, 47)] s4 (fun _ s6 => (Mw g e M_X4_newName [(13, 46)] s6 (fun r7 s8 => (Mw g e M_X4_own [(13, 46), (3, 9)] s8 (fun _ s10 => (Mw g e M_X4_number [(13, 46), (0, 1), (0, 4)] s10 (fun r11 s12 => (Mw g e M_X4_own [(13, 46), (3, 10)] s12 (fun _ s14 => (Mw g e M_X4_number [(13, 46), (0, 1), (0, 4)] s14 (fun r15 s16 => (Mw g e M_X9_wallCount [(18, (s16 46 1))] s16 (fun r17 s18 => (Mw g e M_X6_isGood [(15, 47)] s18 (fun r19 s20 => ((r19 = 0 → Q 0 s20) ∧ (¬ r19 = 0 → ((4 ≤ r17 → Q 0 s20) ∧ (¬ 4 ≤ r17 → ((0 ≤ r17 ∧ r17 < 4) ∧ ∀ s21, s21 = ups s20 ((s20 46 1) + 11) r17 r11 → ((0 ≤ r17 ∧ r17 < 4) ∧ ∀ s22, s22 = ups s21 ((s21 46 1) + 12) r17 r15 → (Mw g e M_X9_addName [(18, (s22 46 1)), (0, 2), (0, r7)] s22 (fun _ s24 => Q 0 s24))))))))))))))))))))))))))))) : Mw g (e + 1) M_X4_wallLine [(13, 46)] s Q := by
  refine Mw.of (ls := [(13, 46), (9, 0), (9, 0), (9, 0), (9, 0)]) pn_X4_wallLine (Nat.le_of_ble_eq_true rfl) rfl (fun hv => ?_)
  refine r_aload_n dX4_wallLine_0 rfl rfl ?_
  refine r_aload_n dX4_wallLine_1 rfl rfl ?_
  refine gf_X4_20 rfl dX4_wallLine_2 ?_
  refine r_callV (ci := 8) (As := []) (st := [(13, 46)]) (by decide) ok_X4_184 rfl rfl (Nat.le_of_ble_eq_true rfl) dX4_wallLine_5 h (fun r1 s2 hv h => ?_)
  refine r_iconst dX4_wallLine_8 (by decide) ?_
  refine r_callV (ci := 3) (As := [(0, r1), (0, 4)]) (st := []) (by decide) ok_X4_122 rfl rfl (Nat.le_of_ble_eq_true rfl) dX4_wallLine_9 h (fun r3 s4 hv h => ?_)
  refine r_aload_n dX4_wallLine_12 rfl rfl ?_
  refine gf_X4_14 rfl dX4_wallLine_13 ?_
  refine r_callV (ci := 5) (As := []) (st := []) (by decide) ok_X4_54 rfl rfl (Nat.le_of_ble_eq_true rfl) dX4_wallLine_16 h (fun r5 s6 hv h => ?_)
  refine r_aload_n dX4_wallLine_19 rfl rfl ?_
  refine r_callV (ci := 3) (As := []) (st := []) (by decide) ok_X4_125 rfl rfl (Nat.le_of_ble_eq_true rfl) dX4_wallLine_20 h (fun r7 s8 hv h => ?_)
  refine r_istore_n (ls2 := [(13, 46), (0, r7), (9, 0), (9, 0), (9, 0)]) dX4_wallLine_23 (by decide) rfl ?_
  refine r_aload_n dX4_wallLine_24 rfl rfl ?_
  refine r_getsE (i := 9) (v := 9) (by decide) rfl lk_X4_187 dX4_wallLine_25 ?_
  refine r_callV (ci := 3) (As := [(3, 9)]) (st := []) (by decide) ok_X4_131 rfl rfl (Nat.le_of_ble_eq_true rfl) dX4_wallLine_28 h (fun r9 s10 hv h => ?_)
  refine r_aload_n dX4_wallLine_31 rfl rfl ?_
  refine r_iconst dX4_wallLine_32 (by decide) ?_
  refine r_iconst dX4_wallLine_33 (by decide) ?_
  refine r_callV (ci := 3) (As := [(0, 1), (0, 4)]) (st := []) (by decide) ok_X4_135 rfl rfl (Nat.le_of_ble_eq_true rfl) dX4_wallLine_34 h (fun r11 s12 hv h => ?_)
  refine r_istore_n (ls2 := [(13, 46), (0, r7), (0, r11), (9, 0), (9, 0)]) dX4_wallLine_37 (by decide) rfl ?_
  refine r_aload_n dX4_wallLine_38 rfl rfl ?_
  refine r_getsE (i := 10) (v := 10) (by decide) rfl lk_X4_190 dX4_wallLine_39 ?_
  refine r_callV (ci := 3) (As := [(3, 10)]) (st := []) (by decide) ok_X4_131 rfl rfl (Nat.le_of_ble_eq_true rfl) dX4_wallLine_42 h (fun r13 s14 hv h => ?_)
  refine r_aload_n dX4_wallLine_45 rfl rfl ?_
  refine r_iconst dX4_wallLine_46 (by decide) ?_
  refine r_iconst dX4_wallLine_47 (by decide) ?_
  refine r_callV (ci := 3) (As := [(0, 1), (0, 4)]) (st := []) (by decide) ok_X4_135 rfl rfl (Nat.le_of_ble_eq_true rfl) dX4_wallLine_48 h (fun r15 s16 hv h => ?_)
  refine r_istore_n (ls2 := [(13, 46), (0, r7), (0, r11), (0, r15), (9, 0)]) dX4_wallLine_51 (by decide) rfl ?_
  refine r_aload_n dX4_wallLine_52 rfl rfl ?_
  refine gf_X4_20 rfl dX4_wallLine_53 ?_
  refine r_callV (ci := 8) (As := []) (st := []) (by decide) ok_X4_184 rfl rfl (Nat.le_of_ble_eq_true rfl) dX4_wallLine_56 h (fun r17 s18 hv h => ?_)
  refine r_istore (ls2 := [(13, 46), (0, r7), (0, r11), (0, r15), (0, r17)]) dX4_wallLine_59 (by decide) rfl ?_
  refine r_aload_n dX4_wallLine_61 rfl rfl ?_
  refine gf_X4_14 rfl dX4_wallLine_62 ?_
  refine r_callV (ci := 5) (As := []) (st := []) (by decide) ok_X4_39 rfl rfl (Nat.le_of_ble_eq_true rfl) dX4_wallLine_65 h (fun r19 s20 hv h => ?_)
  refine r_if_eq (tgt := 108) dX4_wallLine_68 (by decide) (fun hc => ?_) (fun hc => ?_)
  · have h := h.1 hc
    exact r_ret dX4_wallLine_108 rfl h
  · have h := h.2 hc
    refine r_iload dX4_wallLine_71 rfl ?_
    refine r_iconst dX4_wallLine_73 (by decide) ?_
    refine r_icmp_ge (tgt := 108) dX4_wallLine_74 (by decide) (fun hc => ?_) (fun hc => ?_)
    · have h := h.1 hc
      exact r_ret dX4_wallLine_108 rfl h
    · have h := h.2 hc
      refine r_aload_n dX4_wallLine_77 rfl rfl ?_
      refine gf_X4_20 rfl dX4_wallLine_78 ?_
      refine gf_X4_193 rfl dX4_wallLine_81 ?_
      refine r_iload dX4_wallLine_84 rfl ?_
      refine r_iload_n dX4_wallLine_86 rfl ?_
      obtain ⟨hb, h⟩ := h
      refine r_iast (n := 4) rfl (by decide) dX4_wallLine_87 hb ?_
      have h := h _ rfl
      generalize hs_s21 : ups s20 ((s20 46 1) + 11) r17 r11 = s21 at h ⊢
      refine r_aload_n dX4_wallLine_88 rfl rfl ?_
      refine gf_X4_20 rfl dX4_wallLine_89 ?_
      refine gf_X4_196 rfl dX4_wallLine_92 ?_
      refine r_iload dX4_wallLine_95 rfl ?_
      refine r_iload_n dX4_wallLine_97 rfl ?_
      obtain ⟨hb, h⟩ := h
      refine r_iast (n := 4) rfl (by decide) dX4_wallLine_98 hb ?_
      have h := h _ rfl
      generalize hs_s22 : ups s21 ((s21 46 1) + 12) r17 r15 = s22 at h ⊢
      refine r_aload_n dX4_wallLine_99 rfl rfl ?_
      refine gf_X4_20 rfl dX4_wallLine_100 ?_
      refine r_iconst dX4_wallLine_103 (by decide) ?_
      refine r_iload_n dX4_wallLine_104 rfl ?_
      refine r_callV (ci := 8) (As := [(0, 2), (0, r7)]) (st := []) (by decide) ok_X4_148 rfl rfl (Nat.le_of_ble_eq_true rfl) dX4_wallLine_105 h (fun r23 s24 hv h => ?_)
      exact r_ret dX4_wallLine_108 rfl h
abbrev P_X4_goDeeper_17 (g : GT) (e : Nat) (Q : Int → Sg → Prop) (s : Sg) : Prop := Wp g (e + 1) M_X4_goDeeper Q 17 [(13, 46)] [] s
set_option maxRecDepth 20000 in
theorem S_X4_goDeeper_17 {g : GT} {e : Nat} {Q : Int → Sg → Prop} {s : Sg} (h : (∀ s1, s1 = ups s 46 4 (w32 ((s 46 4) + 1)) → (Mw g e M_X6_advance [(15, 47)] s1 (fun _ s3 => Q 0 s3)))) : P_X4_goDeeper_17 g e Q s := by
  refine r_aload_n dX4_goDeeper_17 rfl rfl ?_
  refine r_dup dX4_goDeeper_18 (show (13 : Nat) ≠ 2 by decide) ?_
  refine gf_X4_217 rfl dX4_goDeeper_19 ?_
  refine r_iconst dX4_goDeeper_22 (by decide) ?_
  refine r_iadd dX4_goDeeper_23 ?_
  refine pf_X4_217 rfl dX4_goDeeper_24 ?_
  have h := h _ rfl
  generalize hs_s1 : ups s 46 4 (w32 ((s 46 4) + 1)) = s1 at h ⊢
  refine r_aload_n dX4_goDeeper_27 rfl rfl ?_
  refine gf_X4_14 rfl dX4_goDeeper_28 ?_
  refine r_callV (ci := 5) (As := []) (st := []) (by decide) ok_X4_54 rfl rfl (Nat.le_of_ble_eq_true rfl) dX4_goDeeper_31 h (fun r2 s3 hv h => ?_)
  exact r_ret dX4_goDeeper_34 rfl h
set_option maxRecDepth 20000 in
theorem S_X4_goDeeper {g : GT} {e : Nat} {Q : Int → Sg → Prop} {s : Sg} (h : (((s 46 4) < 7 → P_X4_goDeeper_17 g e Q s) ∧ (¬ (s 46 4) < 7 → (Mw g e M_X6_failHere [(15, 47), (0, 5)] s (fun _ s2 => P_X4_goDeeper_17 g e Q s2))))) : Mw g (e + 1) M_X4_goDeeper [(13, 46)] s Q := by
  refine Mw.of (ls := [(13, 46)]) pn_X4_goDeeper (Nat.le_of_ble_eq_true rfl) rfl (fun hv => ?_)
  refine r_aload_n dX4_goDeeper_0 rfl rfl ?_
  refine gf_X4_217 rfl dX4_goDeeper_1 ?_
  refine r_bipush dX4_goDeeper_4 (by decide) rfl ?_
  refine r_icmp_lt (tgt := 17) dX4_goDeeper_6 (by decide) (fun hc => ?_) (fun hc => ?_)
  · have h := h.1 hc
    exact h
  · have h := h.2 hc
    refine r_aload_n dX4_goDeeper_9 rfl rfl ?_
    refine gf_X4_14 rfl dX4_goDeeper_10 ?_
    refine r_iconst dX4_goDeeper_13 (by decide) ?_
    refine r_callV (ci := 5) (As := [(0, 5)]) (st := []) (by decide) ok_X4_111 rfl rfl (Nat.le_of_ble_eq_true rfl) dX4_goDeeper_14 h (fun r1 s2 hv h => ?_)
    exact h
abbrev P_X4_sign_19 (g : GT) (e : Nat) (Q : Int → Sg → Prop) (s : Sg) : Prop := Wp g (e + 1) M_X4_sign Q 19 [(13, 46), (9, 0)] [] s
set_option maxRecDepth 20000 in
theorem S_X4_sign_19 {g : GT} {e : Nat} {Q : Int → Sg → Prop} {s : Sg} (h : (Mw g e M_X6_advance [(15, 47)] s (fun _ s2 => Q 0 s2))) : P_X4_sign_19 g e Q s := by
  refine r_aload_n dX4_sign_19 rfl rfl ?_
  refine gf_X4_14 rfl dX4_sign_20 ?_
  refine r_callV (ci := 5) (As := []) (st := []) (by decide) ok_X4_54 rfl rfl (Nat.le_of_ble_eq_true rfl) dX4_sign_23 h (fun r1 s2 hv h => ?_)
  exact r_ret dX4_sign_26 rfl h
set_option maxRecDepth 20000 in
theorem S_X4_sign {g : GT} {e : Nat} {Q : Int → Sg → Prop} {s : Sg} {v1 : Int} (h : inR v1 → (Mw g e M_X6_isSign [(15, 47), (0, v1)] s (fun r1 s2 => ((¬ r1 = 0 → P_X4_sign_19 g e Q s2) ∧ (r1 = 0 → (Mw g e M_X6_failHere [(15, 47), (0, 1)] s2 (fun _ s4 => P_X4_sign_19 g e Q s4))))))) : Mw g (e + 1) M_X4_sign [(13, 46), (0, v1)] s Q := by
  refine Mw.of (ls := [(13, 46), (0, v1)]) pn_X4_sign (Nat.le_of_ble_eq_true rfl) rfl (fun hv => ?_)
  have h := h (hv _ (List.Mem.tail _ (List.Mem.head _)))
  refine r_aload_n dX4_sign_0 rfl rfl ?_
  refine gf_X4_14 rfl dX4_sign_1 ?_
  refine r_iload_n dX4_sign_4 rfl ?_
  refine r_callV (ci := 5) (As := [(0, v1)]) (st := []) (by decide) ok_X4_115 rfl rfl (Nat.le_of_ble_eq_true rfl) dX4_sign_5 h (fun r1 s2 hv h => ?_)
  refine r_if_ne (tgt := 19) dX4_sign_8 (by decide) (fun hc => ?_) (fun hc => ?_)
  · have h := h.1 hc
    exact r_fgt [true, false] rfl h
  · have h := h.2 hc
    refine r_aload_n dX4_sign_11 rfl rfl ?_
    refine gf_X4_14 rfl dX4_sign_12 ?_
    refine r_iconst dX4_sign_15 (by decide) ?_
    refine r_callV (ci := 5) (As := [(0, 1)]) (st := []) (by decide) ok_X4_111 rfl rfl (Nat.le_of_ble_eq_true rfl) dX4_sign_16 h (fun r3 s4 hv h => ?_)
    exact r_fgt [true, false] rfl h
abbrev P_X4_factWord_22 (g : GT) (e : Nat) (Q : Int → Sg → Prop) (s : Sg) : Prop := Wp g (e + 1) M_X4_factWord Q 22 [(13, 46), (9, 0)] [] s
abbrev P_X4_factWord_31 (g : GT) (e : Nat) (Q : Int → Sg → Prop) (s : Sg) (v1 : Int) : Prop := Wp g (e + 1) M_X4_factWord Q 31 [(13, 46), (0, v1)] [] s
set_option maxRecDepth 20000 in
theorem S_X4_factWord_22 {g : GT} {e : Nat} {Q : Int → Sg → Prop} {s : Sg} (h : (Mw g e M_X6_failHere [(15, 47), (0, 1)] s (fun _ s2 => Q 0 s2))) : P_X4_factWord_22 g e Q s := by
  refine r_aload_n dX4_factWord_22 rfl rfl ?_
  refine gf_X4_14 rfl dX4_factWord_23 ?_
  refine r_iconst dX4_factWord_26 (by decide) ?_
  refine r_callV (ci := 5) (As := [(0, 1)]) (st := []) (by decide) ok_X4_111 rfl rfl (Nat.le_of_ble_eq_true rfl) dX4_factWord_27 h (fun r1 s2 hv h => ?_)
  exact r_ret dX4_factWord_30 rfl h
set_option maxRecDepth 20000 in
theorem S_X4_factWord_31 {g : GT} {e : Nat} {Q : Int → Sg → Prop} {s : Sg} {v1 : Int} (h : (Mw g e M_X2_add [(11, (s 46 2)), (0, (w32 (20 + v1)))] s (fun _ s2 => (Mw g e M_X6_advance [(15, 47)] s2 (fun _ s4 => Q 0 s4))))) : P_X4_factWord_31 g e Q s v1 := by
  refine r_aload_n dX4_factWord_31 rfl rfl ?_
  refine gf_X4_30 rfl dX4_factWord_32 ?_
  refine r_bipush dX4_factWord_35 (by decide) rfl ?_
  refine r_iload_n dX4_factWord_37 rfl ?_
  refine r_iadd dX4_factWord_38 ?_
  refine r_callV (ci := 1) (As := [(0, (w32 (20 + v1)))]) (st := []) (by decide) ok_X4_246 rfl rfl (Nat.le_of_ble_eq_true rfl) dX4_factWord_39 h (fun r1 s2 hv h => ?_)
  refine r_aload_n dX4_factWord_42 rfl rfl ?_
  refine gf_X4_14 rfl dX4_factWord_43 ?_
  refine r_callV (ci := 5) (As := []) (st := []) (by decide) ok_X4_54 rfl rfl (Nat.le_of_ble_eq_true rfl) dX4_factWord_46 h (fun r3 s4 hv h => ?_)
  exact r_ret dX4_factWord_49 rfl h
set_option maxRecDepth 20000 in
theorem S_X4_factWord {g : GT} {e : Nat} {Q : Int → Sg → Prop} {s : Sg} {v1 : Int} (h : inR v1 → ((v1 = (-1) → P_X4_factWord_22 g e Q s) ∧ (¬ v1 = (-1) → ((¬ (s 46 3) = 0 → P_X4_factWord_31 g e Q s v1) ∧ ((s 46 3) = 0 → ((v1 < 5 → P_X4_factWord_31 g e Q s v1) ∧ (¬ v1 < 5 → P_X4_factWord_22 g e Q s))))))) : Mw g (e + 1) M_X4_factWord [(13, 46), (0, v1)] s Q := by
  refine Mw.of (ls := [(13, 46), (0, v1)]) pn_X4_factWord (Nat.le_of_ble_eq_true rfl) rfl (fun hv => ?_)
  have h := h (hv _ (List.Mem.tail _ (List.Mem.head _)))
  refine r_iload_n dX4_factWord_0 rfl ?_
  refine r_iconst dX4_factWord_1 (by decide) ?_
  refine r_icmp_eq (tgt := 22) dX4_factWord_2 (by decide) (fun hc => ?_) (fun hc => ?_)
  · have h := h.1 hc
    exact r_fgt [true, false] rfl h
  · have h := h.2 hc
    refine r_aload_n dX4_factWord_5 rfl rfl ?_
    refine gf_X4_213 rfl dX4_factWord_6 ?_
    refine r_if_ne (tgt := 31) dX4_factWord_9 (by decide) (fun hc => ?_) (fun hc => ?_)
    · have h := h.1 hc
      exact h
    · have h := h.2 hc
      refine r_iload_n dX4_factWord_12 rfl ?_
      refine r_getsE (i := 21) (v := 21) (by decide) rfl lk_X4_294 dX4_factWord_13 ?_
      refine r_getEf lk_X4_288 dX4_factWord_16 ?_
      show Wp g (e + 1) M_X4_factWord Q 19 [(13, 46), (0, v1)] [(0, 5), (0, v1)] s
      refine r_icmp_lt (tgt := 31) dX4_factWord_19 (by decide) (fun hc => ?_) (fun hc => ?_)
      · have h := h.1 hc
        exact h
      · have h := h.2 hc
        exact r_fgt [true, false] rfl h
abbrev P_X4_chosenPart_48 (g : GT) (e : Nat) (Q : Int → Sg → Prop) (s : Sg) (v1 : Int) : Prop := Wp g (e + 1) M_X4_chosenPart Q 48 [(13, 46), (0, v1)] [] s
set_option maxRecDepth 20000 in
theorem S_X4_chosenPart_48 {g : GT} {e : Nat} {Q : Int → Sg → Prop} {s : Sg} {v1 : Int} (h : (Mw g e M_X4_sumPart [(13, 46)] s (fun _ s2 => (Mw g e M_X4_sign [(13, 46), (0, 44)] s2 (fun _ s4 => (Mw g e M_X4_sumPart [(13, 46)] s4 (fun _ s6 => (∀ s7, s7 = ups s6 46 4 (w32 ((s6 46 4) - 1)) → (Mw g e M_X4_sign [(13, 46), (0, 41)] s7 (fun _ s9 => (Mw g e M_X2_add [(11, (s9 46 2)), (0, v1)] s9 (fun _ s11 => Q 0 s11)))))))))))) : P_X4_chosenPart_48 g e Q s v1 := by
  refine r_aload_n dX4_chosenPart_48 rfl rfl ?_
  refine r_callV (ci := 3) (As := []) (st := []) (by decide) ok_X4_222 rfl rfl (Nat.le_of_ble_eq_true rfl) dX4_chosenPart_49 h (fun r1 s2 hv h => ?_)
  refine r_aload_n dX4_chosenPart_52 rfl rfl ?_
  refine r_bipush dX4_chosenPart_53 (by decide) rfl ?_
  refine r_callV (ci := 3) (As := [(0, 44)]) (st := []) (by decide) ok_X4_261 rfl rfl (Nat.le_of_ble_eq_true rfl) dX4_chosenPart_55 h (fun r3 s4 hv h => ?_)
  refine r_aload_n dX4_chosenPart_58 rfl rfl ?_
  refine r_callV (ci := 3) (As := []) (st := []) (by decide) ok_X4_222 rfl rfl (Nat.le_of_ble_eq_true rfl) dX4_chosenPart_59 h (fun r5 s6 hv h => ?_)
  refine r_aload_n dX4_chosenPart_62 rfl rfl ?_
  refine r_dup dX4_chosenPart_63 (show (13 : Nat) ≠ 2 by decide) ?_
  refine gf_X4_217 rfl dX4_chosenPart_64 ?_
  refine r_iconst dX4_chosenPart_67 (by decide) ?_
  refine r_isub dX4_chosenPart_68 ?_
  refine pf_X4_217 rfl dX4_chosenPart_69 ?_
  have h := h _ rfl
  generalize hs_s7 : ups s6 46 4 (w32 ((s6 46 4) - 1)) = s7 at h ⊢
  refine r_aload_n dX4_chosenPart_72 rfl rfl ?_
  refine r_bipush dX4_chosenPart_73 (by decide) rfl ?_
  refine r_callV (ci := 3) (As := [(0, 41)]) (st := []) (by decide) ok_X4_261 rfl rfl (Nat.le_of_ble_eq_true rfl) dX4_chosenPart_75 h (fun r8 s9 hv h => ?_)
  refine r_aload_n dX4_chosenPart_78 rfl rfl ?_
  refine gf_X4_30 rfl dX4_chosenPart_79 ?_
  refine r_iload_n dX4_chosenPart_82 rfl ?_
  refine r_callV (ci := 1) (As := [(0, v1)]) (st := []) (by decide) ok_X4_246 rfl rfl (Nat.le_of_ble_eq_true rfl) dX4_chosenPart_83 h (fun r10 s11 hv h => ?_)
  exact r_ret dX4_chosenPart_86 rfl h
set_option maxRecDepth 20000 in
theorem S_X4_chosenPart {g : GT} {e : Nat} {Q : Int → Sg → Prop} {s : Sg} {v1 : Int} (h : inR v1 → (Mw g e M_X6_advance [(15, 47)] s (fun _ s2 => (Mw g e M_X6_isSign [(15, 47), (0, 40)] s2 (fun r3 s4 => ((¬ r3 = 0 → (Mw g e M_X4_goDeeper [(13, 46)] s4 (fun _ s6 => ((¬ v1 = 14 → P_X4_chosenPart_48 g e Q s6 v1) ∧ (v1 = 14 → (Mw g e M_X4_testPart [(13, 46)] s6 (fun _ s8 => (Mw g e M_X4_sign [(13, 46), (0, 44)] s8 (fun _ s10 => P_X4_chosenPart_48 g e Q s10 v1))))))))) ∧ (r3 = 0 → (Mw g e M_X6_failHere [(15, 47), (0, 1)] s4 (fun _ s12 => Q 0 s12))))))))) : Mw g (e + 1) M_X4_chosenPart [(13, 46), (0, v1)] s Q := by
  refine Mw.of (ls := [(13, 46), (0, v1)]) pn_X4_chosenPart (Nat.le_of_ble_eq_true rfl) rfl (fun hv => ?_)
  have h := h (hv _ (List.Mem.tail _ (List.Mem.head _)))
  refine r_aload_n dX4_chosenPart_0 rfl rfl ?_
  refine gf_X4_14 rfl dX4_chosenPart_1 ?_
  refine r_callV (ci := 5) (As := []) (st := []) (by decide) ok_X4_54 rfl rfl (Nat.le_of_ble_eq_true rfl) dX4_chosenPart_4 h (fun r1 s2 hv h => ?_)
  refine r_aload_n dX4_chosenPart_7 rfl rfl ?_
  refine gf_X4_14 rfl dX4_chosenPart_8 ?_
  refine r_bipush dX4_chosenPart_11 (by decide) rfl ?_
  refine r_callV (ci := 5) (As := [(0, 40)]) (st := []) (by decide) ok_X4_115 rfl rfl (Nat.le_of_ble_eq_true rfl) dX4_chosenPart_13 h (fun r3 s4 hv h => ?_)
  refine r_if_ne (tgt := 28) dX4_chosenPart_16 (by decide) (fun hc => ?_) (fun hc => ?_)
  · have h := h.1 hc
    refine r_aload_n dX4_chosenPart_28 rfl rfl ?_
    refine r_callV (ci := 3) (As := []) (st := []) (by decide) ok_X4_258 rfl rfl (Nat.le_of_ble_eq_true rfl) dX4_chosenPart_29 h (fun r5 s6 hv h => ?_)
    refine r_iload_n dX4_chosenPart_32 rfl ?_
    refine r_bipush dX4_chosenPart_33 (by decide) rfl ?_
    refine r_icmp_ne (tgt := 48) dX4_chosenPart_35 (by decide) (fun hc => ?_) (fun hc => ?_)
    · have h := h.1 hc
      exact h
    · have h := h.2 hc
      refine r_aload_n dX4_chosenPart_38 rfl rfl ?_
      refine r_callV (ci := 3) (As := []) (st := []) (by decide) ok_X4_219 rfl rfl (Nat.le_of_ble_eq_true rfl) dX4_chosenPart_39 h (fun r7 s8 hv h => ?_)
      refine r_aload_n dX4_chosenPart_42 rfl rfl ?_
      refine r_bipush dX4_chosenPart_43 (by decide) rfl ?_
      refine r_callV (ci := 3) (As := [(0, 44)]) (st := []) (by decide) ok_X4_261 rfl rfl (Nat.le_of_ble_eq_true rfl) dX4_chosenPart_45 h (fun r9 s10 hv h => ?_)
      exact h
  · have h := h.2 hc
    refine r_aload_n dX4_chosenPart_19 rfl rfl ?_
    refine gf_X4_14 rfl dX4_chosenPart_20 ?_
    refine r_iconst dX4_chosenPart_23 (by decide) ?_
    refine r_callV (ci := 5) (As := [(0, 1)]) (st := []) (by decide) ok_X4_111 rfl rfl (Nat.le_of_ble_eq_true rfl) dX4_chosenPart_24 h (fun r11 s12 hv h => ?_)
    exact r_ret dX4_chosenPart_27 rfl h
abbrev P_X4_comparePart_56 (g : GT) (e : Nat) (Q : Int → Sg → Prop) (s : Sg) (x0 : Int) : Prop := Wp g (e + 1) M_X4_comparePart Q 56 [(13, 46), (9, 0)] [(0, x0)] s
set_option maxRecDepth 20000 in
theorem S_X4_comparePart_56 {g : GT} {e : Nat} {Q : Int → Sg → Prop} {s : Sg} {x0 : Int} (h : ((¬ x0 = (-1) → (Mw g e M_X6_advance [(15, 47)] s (fun _ s2 => (Mw g e M_X4_sumPart [(13, 46)] s2 (fun _ s4 => (Mw g e M_X2_add [(11, (s4 46 2)), (0, x0)] s4 (fun _ s6 => Q 0 s6))))))) ∧ (x0 = (-1) → (Mw g e M_X6_failHere [(15, 47), (0, 1)] s (fun _ s8 => Q 0 s8))))) : P_X4_comparePart_56 g e Q s x0 := by
  refine r_istore_n (ls2 := [(13, 46), (0, x0)]) dX4_comparePart_56 (by decide) rfl ?_
  refine r_iload_n dX4_comparePart_57 rfl ?_
  refine r_iconst dX4_comparePart_58 (by decide) ?_
  refine r_icmp_ne (tgt := 71) dX4_comparePart_59 (by decide) (fun hc => ?_) (fun hc => ?_)
  · have h := h.1 hc
    refine r_aload_n dX4_comparePart_71 rfl rfl ?_
    refine gf_X4_14 rfl dX4_comparePart_72 ?_
    refine r_callV (ci := 5) (As := []) (st := []) (by decide) ok_X4_54 rfl rfl (Nat.le_of_ble_eq_true rfl) dX4_comparePart_75 h (fun r1 s2 hv h => ?_)
    refine r_aload_n dX4_comparePart_78 rfl rfl ?_
    refine r_callV (ci := 3) (As := []) (st := []) (by decide) ok_X4_222 rfl rfl (Nat.le_of_ble_eq_true rfl) dX4_comparePart_79 h (fun r3 s4 hv h => ?_)
    refine r_aload_n dX4_comparePart_82 rfl rfl ?_
    refine gf_X4_30 rfl dX4_comparePart_83 ?_
    refine r_iload_n dX4_comparePart_86 rfl ?_
    refine r_callV (ci := 1) (As := [(0, x0)]) (st := []) (by decide) ok_X4_246 rfl rfl (Nat.le_of_ble_eq_true rfl) dX4_comparePart_87 h (fun r5 s6 hv h => ?_)
    exact r_ret dX4_comparePart_90 rfl h
  · have h := h.2 hc
    refine r_aload_n dX4_comparePart_62 rfl rfl ?_
    refine gf_X4_14 rfl dX4_comparePart_63 ?_
    refine r_iconst dX4_comparePart_66 (by decide) ?_
    refine r_callV (ci := 5) (As := [(0, 1)]) (st := []) (by decide) ok_X4_111 rfl rfl (Nat.le_of_ble_eq_true rfl) dX4_comparePart_67 h (fun r7 s8 hv h => ?_)
    exact r_ret dX4_comparePart_70 rfl h
set_option maxRecDepth 20000 in
theorem S_X4_comparePart {g : GT} {e : Nat} {Q : Int → Sg → Prop} {s : Sg} (h : (Mw g e M_X4_sumPart [(13, 46)] s (fun _ s2 => (Mw g e M_X6_isSign [(15, 47), (0, 60)] s2 (fun r3 s4 => ((r3 = 0 → (Mw g e M_X6_isSign [(15, 47), (0, 62)] s4 (fun r5 s6 => ((r5 = 0 → (Mw g e M_X6_isSign [(15, 47), (0, 61)] s6 (fun r7 s8 => ((r7 = 0 → P_X4_comparePart_56 g e Q s8 (-1)) ∧ (¬ r7 = 0 → P_X4_comparePart_56 g e Q s8 10))))) ∧ (¬ r5 = 0 → P_X4_comparePart_56 g e Q s6 9))))) ∧ (¬ r3 = 0 → P_X4_comparePart_56 g e Q s4 8))))))) : Mw g (e + 1) M_X4_comparePart [(13, 46)] s Q := by
  refine Mw.of (ls := [(13, 46), (9, 0)]) pn_X4_comparePart (Nat.le_of_ble_eq_true rfl) rfl (fun hv => ?_)
  refine r_aload_n dX4_comparePart_0 rfl rfl ?_
  refine r_callV (ci := 3) (As := []) (st := []) (by decide) ok_X4_222 rfl rfl (Nat.le_of_ble_eq_true rfl) dX4_comparePart_1 h (fun r1 s2 hv h => ?_)
  refine r_aload_n dX4_comparePart_4 rfl rfl ?_
  refine gf_X4_14 rfl dX4_comparePart_5 ?_
  refine r_bipush dX4_comparePart_8 (by decide) rfl ?_
  refine r_callV (ci := 5) (As := [(0, 60)]) (st := []) (by decide) ok_X4_115 rfl rfl (Nat.le_of_ble_eq_true rfl) dX4_comparePart_10 h (fun r3 s4 hv h => ?_)
  refine r_if_eq (tgt := 21) dX4_comparePart_13 (by decide) (fun hc => ?_) (fun hc => ?_)
  · have h := h.1 hc
    refine r_aload_n dX4_comparePart_21 rfl rfl ?_
    refine gf_X4_14 rfl dX4_comparePart_22 ?_
    refine r_bipush dX4_comparePart_25 (by decide) rfl ?_
    refine r_callV (ci := 5) (As := [(0, 62)]) (st := []) (by decide) ok_X4_115 rfl rfl (Nat.le_of_ble_eq_true rfl) dX4_comparePart_27 h (fun r5 s6 hv h => ?_)
    refine r_if_eq (tgt := 38) dX4_comparePart_30 (by decide) (fun hc => ?_) (fun hc => ?_)
    · have h := h.1 hc
      refine r_aload_n dX4_comparePart_38 rfl rfl ?_
      refine gf_X4_14 rfl dX4_comparePart_39 ?_
      refine r_bipush dX4_comparePart_42 (by decide) rfl ?_
      refine r_callV (ci := 5) (As := [(0, 61)]) (st := []) (by decide) ok_X4_115 rfl rfl (Nat.le_of_ble_eq_true rfl) dX4_comparePart_44 h (fun r7 s8 hv h => ?_)
      refine r_if_eq (tgt := 55) dX4_comparePart_47 (by decide) (fun hc => ?_) (fun hc => ?_)
      · have h := h.1 hc
        refine r_iconst dX4_comparePart_55 (by decide) ?_
        exact h
      · have h := h.2 hc
        refine r_bipush dX4_comparePart_50 (by decide) rfl ?_
        refine r_goto (tgt := 56) dX4_comparePart_52 (by decide) ?_
        exact h
    · have h := h.2 hc
      refine r_bipush dX4_comparePart_33 (by decide) rfl ?_
      refine r_goto (tgt := 56) dX4_comparePart_35 (by decide) ?_
      exact h
  · have h := h.2 hc
    refine r_bipush dX4_comparePart_16 (by decide) rfl ?_
    refine r_goto (tgt := 56) dX4_comparePart_18 (by decide) ?_
    exact h
set_option maxRecDepth 20000 in
theorem S_X4_factPart {g : GT} {e : Nat} {Q : Int → Sg → Prop} {s : Sg} (h : ((¬ (s 47 3) = 27 → (Mw g e M_X6_isSign [(15, 47), (0, 91)] s (fun r1 s2 => ((r1 = 0 → ((¬ (s2 47 3) = 28 → (Mw g e M_X4_comparePart [(13, 46)] s2 (fun _ s4 => Q 0 s4))) ∧ ((s2 47 3) = 28 → (Mw g e M_X6_advance [(15, 47)] s2 (fun _ s6 => (Mw g e M_X2_add [(11, (s6 46 2)), (0, 41)] s6 (fun _ s8 => Q 0 s8))))))) ∧ (¬ r1 = 0 → (Mw g e M_X4_goDeeper [(13, 46)] s2 (fun _ s10 => (Mw g e M_X4_testPart [(13, 46)] s10 (fun _ s12 => (∀ s13, s13 = ups s12 46 4 (w32 ((s12 46 4) - 1)) → (Mw g e M_X4_sign [(13, 46), (0, 93)] s13 (fun _ s15 => Q 0 s15)))))))))))) ∧ ((s 47 3) = 27 → (Mw g e M_X4_goDeeper [(13, 46)] s (fun _ s17 => (Mw g e M_X4_factPart [(13, 46)] s17 (fun _ s19 => (∀ s20, s20 = ups s19 46 4 (w32 ((s19 46 4) - 1)) → (Mw g e M_X2_add [(11, (s20 46 2)), (0, 13)] s20 (fun _ s22 => Q 0 s22)))))))))) : Mw g (e + 1) M_X4_factPart [(13, 46)] s Q := by
  refine Mw.of (ls := [(13, 46)]) pn_X4_factPart (Nat.le_of_ble_eq_true rfl) rfl (fun hv => ?_)
  refine r_aload_n dX4_factPart_0 rfl rfl ?_
  refine gf_X4_14 rfl dX4_factPart_1 ?_
  refine gf_X4_63 rfl dX4_factPart_4 ?_
  refine r_getsE (i := 27) (v := 27) (by decide) rfl lk_X4_255 dX4_factPart_7 ?_
  refine r_acmp_ne (tgt := 43) dX4_factPart_10 (by decide) (fun hc => ?_) (fun hc => ?_)
  · have h := h.1 hc
    refine r_aload_n dX4_factPart_43 rfl rfl ?_
    refine gf_X4_14 rfl dX4_factPart_44 ?_
    refine r_bipush dX4_factPart_47 (by decide) rfl ?_
    refine r_callV (ci := 5) (As := [(0, 91)]) (st := []) (by decide) ok_X4_115 rfl rfl (Nat.le_of_ble_eq_true rfl) dX4_factPart_49 h (fun r1 s2 hv h => ?_)
    refine r_if_eq (tgt := 82) dX4_factPart_52 (by decide) (fun hc => ?_) (fun hc => ?_)
    · have h := h.1 hc
      refine r_aload_n dX4_factPart_82 rfl rfl ?_
      refine gf_X4_14 rfl dX4_factPart_83 ?_
      refine gf_X4_63 rfl dX4_factPart_86 ?_
      refine r_getsE (i := 28) (v := 28) (by decide) rfl lk_X4_264 dX4_factPart_89 ?_
      refine r_acmp_ne (tgt := 114) dX4_factPart_92 (by decide) (fun hc => ?_) (fun hc => ?_)
      · have h := h.1 hc
        refine r_aload_n dX4_factPart_114 rfl rfl ?_
        refine r_callV (ci := 3) (As := []) (st := []) (by decide) ok_X4_267 rfl rfl (Nat.le_of_ble_eq_true rfl) dX4_factPart_115 h (fun r3 s4 hv h => ?_)
        exact r_ret dX4_factPart_118 rfl h
      · have h := h.2 hc
        refine r_aload_n dX4_factPart_95 rfl rfl ?_
        refine gf_X4_14 rfl dX4_factPart_96 ?_
        refine r_callV (ci := 5) (As := []) (st := []) (by decide) ok_X4_54 rfl rfl (Nat.le_of_ble_eq_true rfl) dX4_factPart_99 h (fun r5 s6 hv h => ?_)
        refine r_aload_n dX4_factPart_102 rfl rfl ?_
        refine gf_X4_30 rfl dX4_factPart_103 ?_
        refine r_bipush dX4_factPart_106 (by decide) rfl ?_
        refine r_callV (ci := 1) (As := [(0, 41)]) (st := []) (by decide) ok_X4_246 rfl rfl (Nat.le_of_ble_eq_true rfl) dX4_factPart_108 h (fun r7 s8 hv h => ?_)
        refine r_goto (tgt := 118) dX4_factPart_111 (by decide) ?_
        exact r_ret dX4_factPart_118 rfl h
    · have h := h.2 hc
      refine r_aload_n dX4_factPart_55 rfl rfl ?_
      refine r_callV (ci := 3) (As := []) (st := []) (by decide) ok_X4_258 rfl rfl (Nat.le_of_ble_eq_true rfl) dX4_factPart_56 h (fun r9 s10 hv h => ?_)
      refine r_aload_n dX4_factPart_59 rfl rfl ?_
      refine r_callV (ci := 3) (As := []) (st := []) (by decide) ok_X4_219 rfl rfl (Nat.le_of_ble_eq_true rfl) dX4_factPart_60 h (fun r11 s12 hv h => ?_)
      refine r_aload_n dX4_factPart_63 rfl rfl ?_
      refine r_dup dX4_factPart_64 (show (13 : Nat) ≠ 2 by decide) ?_
      refine gf_X4_217 rfl dX4_factPart_65 ?_
      refine r_iconst dX4_factPart_68 (by decide) ?_
      refine r_isub dX4_factPart_69 ?_
      refine pf_X4_217 rfl dX4_factPart_70 ?_
      have h := h _ rfl
      generalize hs_s13 : ups s12 46 4 (w32 ((s12 46 4) - 1)) = s13 at h ⊢
      refine r_aload_n dX4_factPart_73 rfl rfl ?_
      refine r_bipush dX4_factPart_74 (by decide) rfl ?_
      refine r_callV (ci := 3) (As := [(0, 93)]) (st := []) (by decide) ok_X4_261 rfl rfl (Nat.le_of_ble_eq_true rfl) dX4_factPart_76 h (fun r14 s15 hv h => ?_)
      refine r_goto (tgt := 118) dX4_factPart_79 (by decide) ?_
      exact r_ret dX4_factPart_118 rfl h
  · have h := h.2 hc
    refine r_aload_n dX4_factPart_13 rfl rfl ?_
    refine r_callV (ci := 3) (As := []) (st := []) (by decide) ok_X4_258 rfl rfl (Nat.le_of_ble_eq_true rfl) dX4_factPart_14 h (fun r16 s17 hv h => ?_)
    refine r_aload_n dX4_factPart_17 rfl rfl ?_
    refine r_callV (ci := 3) (As := []) (st := []) (by decide) ok_X4_249 rfl rfl (Nat.le_of_ble_eq_true rfl) dX4_factPart_18 h (fun r18 s19 hv h => ?_)
    refine r_aload_n dX4_factPart_21 rfl rfl ?_
    refine r_dup dX4_factPart_22 (show (13 : Nat) ≠ 2 by decide) ?_
    refine gf_X4_217 rfl dX4_factPart_23 ?_
    refine r_iconst dX4_factPart_26 (by decide) ?_
    refine r_isub dX4_factPart_27 ?_
    refine pf_X4_217 rfl dX4_factPart_28 ?_
    have h := h _ rfl
    generalize hs_s20 : ups s19 46 4 (w32 ((s19 46 4) - 1)) = s20 at h ⊢
    refine r_aload_n dX4_factPart_31 rfl rfl ?_
    refine gf_X4_30 rfl dX4_factPart_32 ?_
    refine r_bipush dX4_factPart_35 (by decide) rfl ?_
    refine r_callV (ci := 1) (As := [(0, 13)]) (st := []) (by decide) ok_X4_246 rfl rfl (Nat.le_of_ble_eq_true rfl) dX4_factPart_37 h (fun r21 s22 hv h => ?_)
    refine r_goto (tgt := 118) dX4_factPart_40 (by decide) ?_
    exact r_ret dX4_factPart_118 rfl h
abbrev P_X4_productPart_6 (g : GT) (e : Nat) (Q : Int → Sg → Prop) (s : Sg) (v1 : Int) : Prop := Wp g (e + 1) M_X4_productPart Q 6 [(13, 46), (0, v1), (9, 0)] [] s
abbrev P_X4_productPart_62 (g : GT) (e : Nat) (Q : Int → Sg → Prop) (s : Sg) (v1 : Int) (x0 : Int) : Prop := Wp g (e + 1) M_X4_productPart Q 62 [(13, 46), (0, v1), (9, 0)] [(0, x0)] s
set_option maxRecDepth 20000 in
theorem S_X4_productPart_6 {g : GT} {e : Nat} {Q : Int → Sg → Prop} {s : Sg} {v1 : Int} (h : ((1600 ≤ v1 → Q 0 s) ∧ (¬ 1600 ≤ v1 → (Mw g e M_X6_isSign [(15, 47), (0, 42)] s (fun r1 s2 => ((r1 = 0 → (Mw g e M_X6_isSign [(15, 47), (0, 47)] s2 (fun r3 s4 => ((r3 = 0 → (Mw g e M_X6_isSign [(15, 47), (0, 37)] s4 (fun r5 s6 => ((r5 = 0 → P_X4_productPart_62 g e Q s6 v1 (-1)) ∧ (¬ r5 = 0 → P_X4_productPart_62 g e Q s6 v1 5))))) ∧ (¬ r3 = 0 → P_X4_productPart_62 g e Q s4 v1 4))))) ∧ (¬ r1 = 0 → P_X4_productPart_62 g e Q s2 v1 3))))))) : P_X4_productPart_6 g e Q s v1 := by
  refine r_iload_n dX4_productPart_6 rfl ?_
  refine r_sipush dX4_productPart_7 (by decide) rfl ?_
  refine r_icmp_ge (tgt := 94) dX4_productPart_10 (by decide) (fun hc => ?_) (fun hc => ?_)
  · have h := h.1 hc
    exact r_ret dX4_productPart_94 rfl h
  · have h := h.2 hc
    refine r_aload_n dX4_productPart_13 rfl rfl ?_
    refine gf_X4_14 rfl dX4_productPart_14 ?_
    refine r_bipush dX4_productPart_17 (by decide) rfl ?_
    refine r_callV (ci := 5) (As := [(0, 42)]) (st := []) (by decide) ok_X4_115 rfl rfl (Nat.le_of_ble_eq_true rfl) dX4_productPart_19 h (fun r1 s2 hv h => ?_)
    refine r_if_eq (tgt := 29) dX4_productPart_22 (by decide) (fun hc => ?_) (fun hc => ?_)
    · have h := h.1 hc
      refine r_aload_n dX4_productPart_29 rfl rfl ?_
      refine gf_X4_14 rfl dX4_productPart_30 ?_
      refine r_bipush dX4_productPart_33 (by decide) rfl ?_
      refine r_callV (ci := 5) (As := [(0, 47)]) (st := []) (by decide) ok_X4_115 rfl rfl (Nat.le_of_ble_eq_true rfl) dX4_productPart_35 h (fun r3 s4 hv h => ?_)
      refine r_if_eq (tgt := 45) dX4_productPart_38 (by decide) (fun hc => ?_) (fun hc => ?_)
      · have h := h.1 hc
        refine r_aload_n dX4_productPart_45 rfl rfl ?_
        refine gf_X4_14 rfl dX4_productPart_46 ?_
        refine r_bipush dX4_productPart_49 (by decide) rfl ?_
        refine r_callV (ci := 5) (As := [(0, 37)]) (st := []) (by decide) ok_X4_115 rfl rfl (Nat.le_of_ble_eq_true rfl) dX4_productPart_51 h (fun r5 s6 hv h => ?_)
        refine r_if_eq (tgt := 61) dX4_productPart_54 (by decide) (fun hc => ?_) (fun hc => ?_)
        · have h := h.1 hc
          refine r_iconst dX4_productPart_61 (by decide) ?_
          exact h
        · have h := h.2 hc
          refine r_iconst dX4_productPart_57 (by decide) ?_
          refine r_goto (tgt := 62) dX4_productPart_58 (by decide) ?_
          exact h
      · have h := h.2 hc
        refine r_iconst dX4_productPart_41 (by decide) ?_
        refine r_goto (tgt := 62) dX4_productPart_42 (by decide) ?_
        exact h
    · have h := h.2 hc
      refine r_iconst dX4_productPart_25 (by decide) ?_
      refine r_goto (tgt := 62) dX4_productPart_26 (by decide) ?_
      exact h
set_option maxRecDepth 20000 in
theorem S_X4_productPart_62 {g : GT} {e : Nat} {Q : Int → Sg → Prop} {s : Sg} {v1 : Int} {x0 : Int} (h : ((¬ x0 = (-1) → (Mw g e M_X6_advance [(15, 47)] s (fun _ s2 => (Mw g e M_X4_singlePart [(13, 46)] s2 (fun _ s4 => (Mw g e M_X2_add [(11, (s4 46 2)), (0, x0)] s4 (fun _ s6 => P_X4_productPart_6 g e Q s6 (w32 (v1 + 1))))))))) ∧ (x0 = (-1) → Q 0 s))) : P_X4_productPart_62 g e Q s v1 x0 := by
  refine r_istore_n (ls2 := [(13, 46), (0, v1), (0, x0)]) dX4_productPart_62 (by decide) rfl ?_
  refine r_iload_n dX4_productPart_63 rfl ?_
  refine r_iconst dX4_productPart_64 (by decide) ?_
  refine r_icmp_ne (tgt := 69) dX4_productPart_65 (by decide) (fun hc => ?_) (fun hc => ?_)
  · have h := h.1 hc
    refine r_aload_n dX4_productPart_69 rfl rfl ?_
    refine gf_X4_14 rfl dX4_productPart_70 ?_
    refine r_callV (ci := 5) (As := []) (st := []) (by decide) ok_X4_54 rfl rfl (Nat.le_of_ble_eq_true rfl) dX4_productPart_73 h (fun r1 s2 hv h => ?_)
    refine r_aload_n dX4_productPart_76 rfl rfl ?_
    refine r_callV (ci := 3) (As := []) (st := []) (by decide) ok_X4_273 rfl rfl (Nat.le_of_ble_eq_true rfl) dX4_productPart_77 h (fun r3 s4 hv h => ?_)
    refine r_aload_n dX4_productPart_80 rfl rfl ?_
    refine gf_X4_30 rfl dX4_productPart_81 ?_
    refine r_iload_n dX4_productPart_84 rfl ?_
    refine r_callV (ci := 1) (As := [(0, x0)]) (st := []) (by decide) ok_X4_246 rfl rfl (Nat.le_of_ble_eq_true rfl) dX4_productPart_85 h (fun r5 s6 hv h => ?_)
    refine r_iinc (ls2 := [(13, 46), (0, (w32 (v1 + 1))), (0, x0)]) dX4_productPart_88 rfl (by decide) rfl ?_
    refine r_goto (tgt := 6) dX4_productPart_91 (by decide) ?_
    exact r_fgt [true, true, false] rfl h
  · have h := h.2 hc
    exact r_ret dX4_productPart_68 rfl h
set_option maxRecDepth 20000 in
theorem S_X4_productPart {g : GT} {e : Nat} {Q : Int → Sg → Prop} {s : Sg} (h : (Mw g e M_X4_singlePart [(13, 46)] s (fun _ s2 => P_X4_productPart_6 g e Q s2 0))) : Mw g (e + 1) M_X4_productPart [(13, 46)] s Q := by
  refine Mw.of (ls := [(13, 46), (9, 0), (9, 0)]) pn_X4_productPart (Nat.le_of_ble_eq_true rfl) rfl (fun hv => ?_)
  refine r_aload_n dX4_productPart_0 rfl rfl ?_
  refine r_callV (ci := 3) (As := []) (st := []) (by decide) ok_X4_273 rfl rfl (Nat.le_of_ble_eq_true rfl) dX4_productPart_1 h (fun r1 s2 hv h => ?_)
  refine r_iconst dX4_productPart_4 (by decide) ?_
  refine r_istore_n (ls2 := [(13, 46), (0, 0), (9, 0)]) dX4_productPart_5 (by decide) rfl ?_
  exact h
set_option maxRecDepth 20000 in
theorem S_X4_singlePart {g : GT} {e : Nat} {Q : Int → Sg → Prop} {s : Sg} (h : ((¬ (s 47 1) = 2 → (Mw g e M_X6_isSign [(15, 47), (0, 40)] s (fun r1 s2 => ((r1 = 0 → ((¬ (s2 47 3) = 29 → ((¬ (s2 47 3) = 30 → ((¬ (s2 47 3) = 24 → (Mw g e M_X4_factWord [(13, 46), (0, (enF.getD ((s2 47 3)).toNat 0))] s2 (fun _ s4 => Q 0 s4))) ∧ ((s2 47 3) = 24 → (Mw g e M_X4_chosenPart [(13, 46), (0, 14)] s2 (fun _ s6 => Q 0 s6))))) ∧ ((s2 47 3) = 30 → (Mw g e M_X4_chosenPart [(13, 46), (0, 7)] s2 (fun _ s8 => Q 0 s8))))) ∧ ((s2 47 3) = 29 → (Mw g e M_X4_chosenPart [(13, 46), (0, 6)] s2 (fun _ s10 => Q 0 s10))))) ∧ (¬ r1 = 0 → (Mw g e M_X4_goDeeper [(13, 46)] s2 (fun _ s12 => (Mw g e M_X4_sumPart [(13, 46)] s12 (fun _ s14 => (∀ s15, s15 = ups s14 46 4 (w32 ((s14 46 4) - 1)) → (Mw g e M_X4_sign [(13, 46), (0, 41)] s15 (fun _ s17 => Q 0 s17)))))))))))) ∧ ((s 47 1) = 2 → (Mw g e M_X2_add [(11, (s 46 2)), (0, (w32 (40 + (s 47 2))))] s (fun _ s19 => (Mw g e M_X6_advance [(15, 47)] s19 (fun _ s21 => Q 0 s21))))))) : Mw g (e + 1) M_X4_singlePart [(13, 46)] s Q := by
  refine Mw.of (ls := [(13, 46)]) pn_X4_singlePart (Nat.le_of_ble_eq_true rfl) rfl (fun hv => ?_)
  refine r_aload_n dX4_singlePart_0 rfl rfl ?_
  refine gf_X4_14 rfl dX4_singlePart_1 ?_
  refine gf_X4_228 rfl dX4_singlePart_4 ?_
  refine r_iconst dX4_singlePart_7 (by decide) ?_
  refine r_icmp_ne (tgt := 38) dX4_singlePart_8 (by decide) (fun hc => ?_) (fun hc => ?_)
  · have h := h.1 hc
    refine r_aload_n dX4_singlePart_38 rfl rfl ?_
    refine gf_X4_14 rfl dX4_singlePart_39 ?_
    refine r_bipush dX4_singlePart_42 (by decide) rfl ?_
    refine r_callV (ci := 5) (As := [(0, 40)]) (st := []) (by decide) ok_X4_115 rfl rfl (Nat.le_of_ble_eq_true rfl) dX4_singlePart_44 h (fun r1 s2 hv h => ?_)
    refine r_if_eq (tgt := 77) dX4_singlePart_47 (by decide) (fun hc => ?_) (fun hc => ?_)
    · have h := h.1 hc
      refine r_aload_n dX4_singlePart_77 rfl rfl ?_
      refine gf_X4_14 rfl dX4_singlePart_78 ?_
      refine gf_X4_63 rfl dX4_singlePart_81 ?_
      refine r_getsE (i := 29) (v := 29) (by decide) rfl lk_X4_276 dX4_singlePart_84 ?_
      refine r_acmp_ne (tgt := 99) dX4_singlePart_87 (by decide) (fun hc => ?_) (fun hc => ?_)
      · have h := h.1 hc
        refine r_aload_n dX4_singlePart_99 rfl rfl ?_
        refine gf_X4_14 rfl dX4_singlePart_100 ?_
        refine gf_X4_63 rfl dX4_singlePart_103 ?_
        refine r_getsE (i := 30) (v := 30) (by decide) rfl lk_X4_282 dX4_singlePart_106 ?_
        refine r_acmp_ne (tgt := 121) dX4_singlePart_109 (by decide) (fun hc => ?_) (fun hc => ?_)
        · have h := h.1 hc
          refine r_aload_n dX4_singlePart_121 rfl rfl ?_
          refine gf_X4_14 rfl dX4_singlePart_122 ?_
          refine gf_X4_63 rfl dX4_singlePart_125 ?_
          refine r_getsE (i := 24) (v := 24) (by decide) rfl lk_X4_285 dX4_singlePart_128 ?_
          refine r_acmp_ne (tgt := 143) dX4_singlePart_131 (by decide) (fun hc => ?_) (fun hc => ?_)
          · have h := h.1 hc
            refine r_aload_n dX4_singlePart_143 rfl rfl ?_
            refine r_aload_n dX4_singlePart_144 rfl rfl ?_
            refine gf_X4_14 rfl dX4_singlePart_145 ?_
            refine gf_X4_63 rfl dX4_singlePart_148 ?_
            refine r_getEf lk_X4_288 dX4_singlePart_151 ?_
            refine r_callV (ci := 3) (As := [(0, (enF.getD ((s2 47 3)).toNat 0))]) (st := []) (by decide) ok_X4_291 rfl rfl (Nat.le_of_ble_eq_true rfl) dX4_singlePart_154 h (fun r3 s4 hv h => ?_)
            exact r_ret dX4_singlePart_157 rfl h
          · have h := h.2 hc
            refine r_aload_n dX4_singlePart_134 rfl rfl ?_
            refine r_bipush dX4_singlePart_135 (by decide) rfl ?_
            refine r_callV (ci := 3) (As := [(0, 14)]) (st := []) (by decide) ok_X4_279 rfl rfl (Nat.le_of_ble_eq_true rfl) dX4_singlePart_137 h (fun r5 s6 hv h => ?_)
            refine r_goto (tgt := 157) dX4_singlePart_140 (by decide) ?_
            exact r_ret dX4_singlePart_157 rfl h
        · have h := h.2 hc
          refine r_aload_n dX4_singlePart_112 rfl rfl ?_
          refine r_bipush dX4_singlePart_113 (by decide) rfl ?_
          refine r_callV (ci := 3) (As := [(0, 7)]) (st := []) (by decide) ok_X4_279 rfl rfl (Nat.le_of_ble_eq_true rfl) dX4_singlePart_115 h (fun r7 s8 hv h => ?_)
          refine r_goto (tgt := 157) dX4_singlePart_118 (by decide) ?_
          exact r_ret dX4_singlePart_157 rfl h
      · have h := h.2 hc
        refine r_aload_n dX4_singlePart_90 rfl rfl ?_
        refine r_bipush dX4_singlePart_91 (by decide) rfl ?_
        refine r_callV (ci := 3) (As := [(0, 6)]) (st := []) (by decide) ok_X4_279 rfl rfl (Nat.le_of_ble_eq_true rfl) dX4_singlePart_93 h (fun r9 s10 hv h => ?_)
        refine r_goto (tgt := 157) dX4_singlePart_96 (by decide) ?_
        exact r_ret dX4_singlePart_157 rfl h
    · have h := h.2 hc
      refine r_aload_n dX4_singlePart_50 rfl rfl ?_
      refine r_callV (ci := 3) (As := []) (st := []) (by decide) ok_X4_258 rfl rfl (Nat.le_of_ble_eq_true rfl) dX4_singlePart_51 h (fun r11 s12 hv h => ?_)
      refine r_aload_n dX4_singlePart_54 rfl rfl ?_
      refine r_callV (ci := 3) (As := []) (st := []) (by decide) ok_X4_222 rfl rfl (Nat.le_of_ble_eq_true rfl) dX4_singlePart_55 h (fun r13 s14 hv h => ?_)
      refine r_aload_n dX4_singlePart_58 rfl rfl ?_
      refine r_dup dX4_singlePart_59 (show (13 : Nat) ≠ 2 by decide) ?_
      refine gf_X4_217 rfl dX4_singlePart_60 ?_
      refine r_iconst dX4_singlePart_63 (by decide) ?_
      refine r_isub dX4_singlePart_64 ?_
      refine pf_X4_217 rfl dX4_singlePart_65 ?_
      have h := h _ rfl
      generalize hs_s15 : ups s14 46 4 (w32 ((s14 46 4) - 1)) = s15 at h ⊢
      refine r_aload_n dX4_singlePart_68 rfl rfl ?_
      refine r_bipush dX4_singlePart_69 (by decide) rfl ?_
      refine r_callV (ci := 3) (As := [(0, 41)]) (st := []) (by decide) ok_X4_261 rfl rfl (Nat.le_of_ble_eq_true rfl) dX4_singlePart_71 h (fun r16 s17 hv h => ?_)
      refine r_goto (tgt := 157) dX4_singlePart_74 (by decide) ?_
      exact r_ret dX4_singlePart_157 rfl h
  · have h := h.2 hc
    refine r_aload_n dX4_singlePart_11 rfl rfl ?_
    refine gf_X4_30 rfl dX4_singlePart_12 ?_
    refine r_bipush dX4_singlePart_15 (by decide) rfl ?_
    refine r_aload_n dX4_singlePart_17 rfl rfl ?_
    refine gf_X4_14 rfl dX4_singlePart_18 ?_
    refine gf_X4_225 rfl dX4_singlePart_21 ?_
    refine r_iadd dX4_singlePart_24 ?_
    refine r_callV (ci := 1) (As := [(0, (w32 (40 + (s 47 2))))]) (st := []) (by decide) ok_X4_246 rfl rfl (Nat.le_of_ble_eq_true rfl) dX4_singlePart_25 h (fun r18 s19 hv h => ?_)
    refine r_aload_n dX4_singlePart_28 rfl rfl ?_
    refine gf_X4_14 rfl dX4_singlePart_29 ?_
    refine r_callV (ci := 5) (As := []) (st := []) (by decide) ok_X4_54 rfl rfl (Nat.le_of_ble_eq_true rfl) dX4_singlePart_32 h (fun r20 s21 hv h => ?_)
    refine r_goto (tgt := 157) dX4_singlePart_35 (by decide) ?_
    exact r_ret dX4_singlePart_157 rfl h
abbrev P_X4_sumPart_6 (g : GT) (e : Nat) (Q : Int → Sg → Prop) (s : Sg) (v1 : Int) : Prop := Wp g (e + 1) M_X4_sumPart Q 6 [(13, 46), (0, v1), (9, 0)] [] s
abbrev P_X4_sumPart_37 (g : GT) (e : Nat) (Q : Int → Sg → Prop) (s : Sg) (v1 : Int) : Prop := Wp g (e + 1) M_X4_sumPart Q 37 [(13, 46), (0, v1), (9, 0)] [] s
abbrev P_X4_sumPart_54 (g : GT) (e : Nat) (Q : Int → Sg → Prop) (s : Sg) (v1 : Int) (x0 : Int) : Prop := Wp g (e + 1) M_X4_sumPart Q 54 [(13, 46), (0, v1), (9, 0)] [(0, x0)] s
set_option maxRecDepth 20000 in
theorem S_X4_sumPart_6 {g : GT} {e : Nat} {Q : Int → Sg → Prop} {s : Sg} {v1 : Int} (h : ((1600 ≤ v1 → Q 0 s) ∧ (¬ 1600 ≤ v1 → (Mw g e M_X6_isSign [(15, 47), (0, 43)] s (fun r1 s2 => ((¬ r1 = 0 → P_X4_sumPart_37 g e Q s2 v1) ∧ (r1 = 0 → (Mw g e M_X6_isSign [(15, 47), (0, 45)] s2 (fun r3 s4 => ((r3 = 0 → Q 0 s4) ∧ (¬ r3 = 0 → P_X4_sumPart_37 g e Q s4 v1))))))))))) : P_X4_sumPart_6 g e Q s v1 := by
  refine r_iload_n dX4_sumPart_6 rfl ?_
  refine r_sipush dX4_sumPart_7 (by decide) rfl ?_
  refine r_icmp_ge (tgt := 80) dX4_sumPart_10 (by decide) (fun hc => ?_) (fun hc => ?_)
  · have h := h.1 hc
    exact r_ret dX4_sumPart_80 rfl h
  · have h := h.2 hc
    refine r_aload_n dX4_sumPart_13 rfl rfl ?_
    refine gf_X4_14 rfl dX4_sumPart_14 ?_
    refine r_bipush dX4_sumPart_17 (by decide) rfl ?_
    refine r_callV (ci := 5) (As := [(0, 43)]) (st := []) (by decide) ok_X4_115 rfl rfl (Nat.le_of_ble_eq_true rfl) dX4_sumPart_19 h (fun r1 s2 hv h => ?_)
    refine r_if_ne (tgt := 37) dX4_sumPart_22 (by decide) (fun hc => ?_) (fun hc => ?_)
    · have h := h.1 hc
      exact h
    · have h := h.2 hc
      refine r_aload_n dX4_sumPart_25 rfl rfl ?_
      refine gf_X4_14 rfl dX4_sumPart_26 ?_
      refine r_bipush dX4_sumPart_29 (by decide) rfl ?_
      refine r_callV (ci := 5) (As := [(0, 45)]) (st := []) (by decide) ok_X4_115 rfl rfl (Nat.le_of_ble_eq_true rfl) dX4_sumPart_31 h (fun r3 s4 hv h => ?_)
      refine r_if_eq (tgt := 80) dX4_sumPart_34 (by decide) (fun hc => ?_) (fun hc => ?_)
      · have h := h.1 hc
        exact r_ret dX4_sumPart_80 rfl h
      · have h := h.2 hc
        exact h
set_option maxRecDepth 20000 in
theorem S_X4_sumPart_37 {g : GT} {e : Nat} {Q : Int → Sg → Prop} {s : Sg} {v1 : Int} (h : (Mw g e M_X6_isSign [(15, 47), (0, 43)] s (fun r1 s2 => ((r1 = 0 → P_X4_sumPart_54 g e Q s2 v1 2) ∧ (¬ r1 = 0 → P_X4_sumPart_54 g e Q s2 v1 1))))) : P_X4_sumPart_37 g e Q s v1 := by
  refine r_aload_n dX4_sumPart_37 rfl rfl ?_
  refine gf_X4_14 rfl dX4_sumPart_38 ?_
  refine r_bipush dX4_sumPart_41 (by decide) rfl ?_
  refine r_callV (ci := 5) (As := [(0, 43)]) (st := []) (by decide) ok_X4_115 rfl rfl (Nat.le_of_ble_eq_true rfl) dX4_sumPart_43 h (fun r1 s2 hv h => ?_)
  refine r_if_eq (tgt := 53) dX4_sumPart_46 (by decide) (fun hc => ?_) (fun hc => ?_)
  · have h := h.1 hc
    refine r_iconst dX4_sumPart_53 (by decide) ?_
    exact h
  · have h := h.2 hc
    refine r_iconst dX4_sumPart_49 (by decide) ?_
    refine r_goto (tgt := 54) dX4_sumPart_50 (by decide) ?_
    exact h
set_option maxRecDepth 20000 in
theorem S_X4_sumPart_54 {g : GT} {e : Nat} {Q : Int → Sg → Prop} {s : Sg} {v1 : Int} {x0 : Int} (h : (Mw g e M_X6_advance [(15, 47)] s (fun _ s2 => (Mw g e M_X4_productPart [(13, 46)] s2 (fun _ s4 => (Mw g e M_X2_add [(11, (s4 46 2)), (0, x0)] s4 (fun _ s6 => P_X4_sumPart_6 g e Q s6 (w32 (v1 + 1))))))))) : P_X4_sumPart_54 g e Q s v1 x0 := by
  refine r_istore_n (ls2 := [(13, 46), (0, v1), (0, x0)]) dX4_sumPart_54 (by decide) rfl ?_
  refine r_aload_n dX4_sumPart_55 rfl rfl ?_
  refine gf_X4_14 rfl dX4_sumPart_56 ?_
  refine r_callV (ci := 5) (As := []) (st := []) (by decide) ok_X4_54 rfl rfl (Nat.le_of_ble_eq_true rfl) dX4_sumPart_59 h (fun r1 s2 hv h => ?_)
  refine r_aload_n dX4_sumPart_62 rfl rfl ?_
  refine r_callV (ci := 3) (As := []) (st := []) (by decide) ok_X4_270 rfl rfl (Nat.le_of_ble_eq_true rfl) dX4_sumPart_63 h (fun r3 s4 hv h => ?_)
  refine r_aload_n dX4_sumPart_66 rfl rfl ?_
  refine gf_X4_30 rfl dX4_sumPart_67 ?_
  refine r_iload_n dX4_sumPart_70 rfl ?_
  refine r_callV (ci := 1) (As := [(0, x0)]) (st := []) (by decide) ok_X4_246 rfl rfl (Nat.le_of_ble_eq_true rfl) dX4_sumPart_71 h (fun r5 s6 hv h => ?_)
  refine r_iinc (ls2 := [(13, 46), (0, (w32 (v1 + 1))), (0, x0)]) dX4_sumPart_74 rfl (by decide) rfl ?_
  refine r_goto (tgt := 6) dX4_sumPart_77 (by decide) ?_
  exact r_fgt [true, true, false] rfl h
set_option maxRecDepth 20000 in
theorem S_X4_sumPart {g : GT} {e : Nat} {Q : Int → Sg → Prop} {s : Sg} (h : (Mw g e M_X4_productPart [(13, 46)] s (fun _ s2 => P_X4_sumPart_6 g e Q s2 0))) : Mw g (e + 1) M_X4_sumPart [(13, 46)] s Q := by
  refine Mw.of (ls := [(13, 46), (9, 0), (9, 0)]) pn_X4_sumPart (Nat.le_of_ble_eq_true rfl) rfl (fun hv => ?_)
  refine r_aload_n dX4_sumPart_0 rfl rfl ?_
  refine r_callV (ci := 3) (As := []) (st := []) (by decide) ok_X4_270 rfl rfl (Nat.le_of_ble_eq_true rfl) dX4_sumPart_1 h (fun r1 s2 hv h => ?_)
  refine r_iconst dX4_sumPart_4 (by decide) ?_
  refine r_istore_n (ls2 := [(13, 46), (0, 0), (9, 0)]) dX4_sumPart_5 (by decide) rfl ?_
  exact h
abbrev P_X4_testPart_6 (g : GT) (e : Nat) (Q : Int → Sg → Prop) (s : Sg) (v1 : Int) : Prop := Wp g (e + 1) M_X4_testPart Q 6 [(13, 46), (0, v1)] [] s
set_option maxRecDepth 20000 in
theorem S_X4_testPart_6 {g : GT} {e : Nat} {Q : Int → Sg → Prop} {s : Sg} {v1 : Int} (h : ((1600 ≤ v1 → Q 0 s) ∧ (¬ 1600 ≤ v1 → ((¬ (s 47 3) = 25 → Q 0 s) ∧ ((s 47 3) = 25 → (Mw g e M_X6_advance [(15, 47)] s (fun _ s2 => (Mw g e M_X4_bothPart [(13, 46)] s2 (fun _ s4 => (Mw g e M_X2_add [(11, (s4 46 2)), (0, 12)] s4 (fun _ s6 => P_X4_testPart_6 g e Q s6 (w32 (v1 + 1))))))))))))) : P_X4_testPart_6 g e Q s v1 := by
  refine r_iload_n dX4_testPart_6 rfl ?_
  refine r_sipush dX4_testPart_7 (by decide) rfl ?_
  refine r_icmp_ge (tgt := 52) dX4_testPart_10 (by decide) (fun hc => ?_) (fun hc => ?_)
  · have h := h.1 hc
    exact r_ret dX4_testPart_52 rfl h
  · have h := h.2 hc
    refine r_aload_n dX4_testPart_13 rfl rfl ?_
    refine gf_X4_14 rfl dX4_testPart_14 ?_
    refine gf_X4_63 rfl dX4_testPart_17 ?_
    refine r_getsE (i := 25) (v := 25) (by decide) rfl lk_X4_243 dX4_testPart_20 ?_
    refine r_acmp_ne (tgt := 52) dX4_testPart_23 (by decide) (fun hc => ?_) (fun hc => ?_)
    · have h := h.1 hc
      exact r_ret dX4_testPart_52 rfl h
    · have h := h.2 hc
      refine r_aload_n dX4_testPart_26 rfl rfl ?_
      refine gf_X4_14 rfl dX4_testPart_27 ?_
      refine r_callV (ci := 5) (As := []) (st := []) (by decide) ok_X4_54 rfl rfl (Nat.le_of_ble_eq_true rfl) dX4_testPart_30 h (fun r1 s2 hv h => ?_)
      refine r_aload_n dX4_testPart_33 rfl rfl ?_
      refine r_callV (ci := 3) (As := []) (st := []) (by decide) ok_X4_240 rfl rfl (Nat.le_of_ble_eq_true rfl) dX4_testPart_34 h (fun r3 s4 hv h => ?_)
      refine r_aload_n dX4_testPart_37 rfl rfl ?_
      refine gf_X4_30 rfl dX4_testPart_38 ?_
      refine r_bipush dX4_testPart_41 (by decide) rfl ?_
      refine r_callV (ci := 1) (As := [(0, 12)]) (st := []) (by decide) ok_X4_246 rfl rfl (Nat.le_of_ble_eq_true rfl) dX4_testPart_43 h (fun r5 s6 hv h => ?_)
      refine r_iinc (ls2 := [(13, 46), (0, (w32 (v1 + 1)))]) dX4_testPart_46 rfl (by decide) rfl ?_
      refine r_goto (tgt := 6) dX4_testPart_49 (by decide) ?_
      exact h
set_option maxRecDepth 20000 in
theorem S_X4_testPart {g : GT} {e : Nat} {Q : Int → Sg → Prop} {s : Sg} (h : (Mw g e M_X4_bothPart [(13, 46)] s (fun _ s2 => P_X4_testPart_6 g e Q s2 0))) : Mw g (e + 1) M_X4_testPart [(13, 46)] s Q := by
  refine Mw.of (ls := [(13, 46), (9, 0)]) pn_X4_testPart (Nat.le_of_ble_eq_true rfl) rfl (fun hv => ?_)
  refine r_aload_n dX4_testPart_0 rfl rfl ?_
  refine r_callV (ci := 3) (As := []) (st := []) (by decide) ok_X4_240 rfl rfl (Nat.le_of_ble_eq_true rfl) dX4_testPart_1 h (fun r1 s2 hv h => ?_)
  refine r_iconst dX4_testPart_4 (by decide) ?_
  refine r_istore_n (ls2 := [(13, 46), (0, 0)]) dX4_testPart_5 (by decide) rfl ?_
  exact h
abbrev P_X4_bothPart_6 (g : GT) (e : Nat) (Q : Int → Sg → Prop) (s : Sg) (v1 : Int) : Prop := Wp g (e + 1) M_X4_bothPart Q 6 [(13, 46), (0, v1)] [] s
set_option maxRecDepth 20000 in
theorem S_X4_bothPart_6 {g : GT} {e : Nat} {Q : Int → Sg → Prop} {s : Sg} {v1 : Int} (h : ((1600 ≤ v1 → Q 0 s) ∧ (¬ 1600 ≤ v1 → ((¬ (s 47 3) = 26 → Q 0 s) ∧ ((s 47 3) = 26 → (Mw g e M_X6_advance [(15, 47)] s (fun _ s2 => (Mw g e M_X4_factPart [(13, 46)] s2 (fun _ s4 => (Mw g e M_X2_add [(11, (s4 46 2)), (0, 11)] s4 (fun _ s6 => P_X4_bothPart_6 g e Q s6 (w32 (v1 + 1))))))))))))) : P_X4_bothPart_6 g e Q s v1 := by
  refine r_iload_n dX4_bothPart_6 rfl ?_
  refine r_sipush dX4_bothPart_7 (by decide) rfl ?_
  refine r_icmp_ge (tgt := 52) dX4_bothPart_10 (by decide) (fun hc => ?_) (fun hc => ?_)
  · have h := h.1 hc
    exact r_ret dX4_bothPart_52 rfl h
  · have h := h.2 hc
    refine r_aload_n dX4_bothPart_13 rfl rfl ?_
    refine gf_X4_14 rfl dX4_bothPart_14 ?_
    refine gf_X4_63 rfl dX4_bothPart_17 ?_
    refine r_getsE (i := 26) (v := 26) (by decide) rfl lk_X4_252 dX4_bothPart_20 ?_
    refine r_acmp_ne (tgt := 52) dX4_bothPart_23 (by decide) (fun hc => ?_) (fun hc => ?_)
    · have h := h.1 hc
      exact r_ret dX4_bothPart_52 rfl h
    · have h := h.2 hc
      refine r_aload_n dX4_bothPart_26 rfl rfl ?_
      refine gf_X4_14 rfl dX4_bothPart_27 ?_
      refine r_callV (ci := 5) (As := []) (st := []) (by decide) ok_X4_54 rfl rfl (Nat.le_of_ble_eq_true rfl) dX4_bothPart_30 h (fun r1 s2 hv h => ?_)
      refine r_aload_n dX4_bothPart_33 rfl rfl ?_
      refine r_callV (ci := 3) (As := []) (st := []) (by decide) ok_X4_249 rfl rfl (Nat.le_of_ble_eq_true rfl) dX4_bothPart_34 h (fun r3 s4 hv h => ?_)
      refine r_aload_n dX4_bothPart_37 rfl rfl ?_
      refine gf_X4_30 rfl dX4_bothPart_38 ?_
      refine r_bipush dX4_bothPart_41 (by decide) rfl ?_
      refine r_callV (ci := 1) (As := [(0, 11)]) (st := []) (by decide) ok_X4_246 rfl rfl (Nat.le_of_ble_eq_true rfl) dX4_bothPart_43 h (fun r5 s6 hv h => ?_)
      refine r_iinc (ls2 := [(13, 46), (0, (w32 (v1 + 1)))]) dX4_bothPart_46 rfl (by decide) rfl ?_
      refine r_goto (tgt := 6) dX4_bothPart_49 (by decide) ?_
      exact h
set_option maxRecDepth 20000 in
theorem S_X4_bothPart {g : GT} {e : Nat} {Q : Int → Sg → Prop} {s : Sg} (h : (Mw g e M_X4_factPart [(13, 46)] s (fun _ s2 => P_X4_bothPart_6 g e Q s2 0))) : Mw g (e + 1) M_X4_bothPart [(13, 46)] s Q := by
  refine Mw.of (ls := [(13, 46), (9, 0)]) pn_X4_bothPart (Nat.le_of_ble_eq_true rfl) rfl (fun hv => ?_)
  refine r_aload_n dX4_bothPart_0 rfl rfl ?_
  refine r_callV (ci := 3) (As := []) (st := []) (by decide) ok_X4_249 rfl rfl (Nat.le_of_ble_eq_true rfl) dX4_bothPart_1 h (fun r1 s2 hv h => ?_)
  refine r_iconst dX4_bothPart_4 (by decide) ?_
  refine r_istore_n (ls2 := [(13, 46), (0, 0)]) dX4_bothPart_5 (by decide) rfl ?_
  exact h
set_option maxRecDepth 20000 in
theorem S_X4_formulaLine {g : GT} {e : Nat} {Q : Int → Sg → Prop} {s : Sg} {v1 : Int} {v2 : Int} (h : (gr g v1 ∧ tg v1 = 11) → inR v2 → (Mw g e M_X4_limit [(13, 46), (0, (s v1 2)), (0, 1)] s (fun _ s2 => (∀ s3, s3 = ups s2 46 2 v1 → ((v2 = 0 ∨ v2 = 1) ∧ ∀ s4, s4 = ups s3 46 3 v2 → (∀ s5, s5 = ups s4 46 4 0 → (Mw g e M_X6_advance [(15, 47)] s5 (fun _ s7 => ((v2 = 0 → (Mw g e M_X4_sumPart [(13, 46)] s7 (fun _ s9 => Q 0 s9))) ∧ (¬ v2 = 0 → (Mw g e M_X4_testPart [(13, 46)] s7 (fun _ s11 => Q 0 s11)))))))))))) : Mw g (e + 1) M_X4_formulaLine [(13, 46), (11, v1), (0, v2)] s Q := by
  refine Mw.of (ls := [(13, 46), (11, v1), (0, v2)]) pn_X4_formulaLine (Nat.le_of_ble_eq_true rfl) rfl (fun hv => ?_)
  have h := h (vld_o (by decide) (hv _ (List.Mem.tail _ (List.Mem.head _)))) (hv _ (List.Mem.tail _ (List.Mem.tail _ (List.Mem.head _))))
  refine r_aload_n dX4_formulaLine_0 rfl rfl ?_
  refine r_aload_n dX4_formulaLine_1 rfl rfl ?_
  refine gf_X4_208 rfl dX4_formulaLine_2 ?_
  refine r_iconst dX4_formulaLine_5 (by decide) ?_
  refine r_callV (ci := 3) (As := [(0, (s v1 2)), (0, 1)]) (st := []) (by decide) ok_X4_122 rfl rfl (Nat.le_of_ble_eq_true rfl) dX4_formulaLine_6 h (fun r1 s2 hv h => ?_)
  refine r_aload_n dX4_formulaLine_9 rfl rfl ?_
  refine r_aload_n dX4_formulaLine_10 rfl rfl ?_
  refine pf_X4_30 rfl dX4_formulaLine_11 ?_
  have h := h _ rfl
  generalize hs_s3 : ups s2 46 2 v1 = s3 at h ⊢
  refine r_aload_n dX4_formulaLine_14 rfl rfl ?_
  refine r_iload_n dX4_formulaLine_15 rfl ?_
  obtain ⟨hz, h⟩ := h
  refine pf_X4_213 rfl hz dX4_formulaLine_16 ?_
  have h := h _ rfl
  generalize hs_s4 : ups s3 46 3 v2 = s4 at h ⊢
  refine r_aload_n dX4_formulaLine_19 rfl rfl ?_
  refine r_iconst dX4_formulaLine_20 (by decide) ?_
  refine pf_X4_217 rfl dX4_formulaLine_21 ?_
  have h := h _ rfl
  generalize hs_s5 : ups s4 46 4 0 = s5 at h ⊢
  refine r_aload_n dX4_formulaLine_24 rfl rfl ?_
  refine gf_X4_14 rfl dX4_formulaLine_25 ?_
  refine r_callV (ci := 5) (As := []) (st := []) (by decide) ok_X4_54 rfl rfl (Nat.le_of_ble_eq_true rfl) dX4_formulaLine_28 h (fun r6 s7 hv h => ?_)
  refine r_iload_n dX4_formulaLine_31 rfl ?_
  refine r_if_eq (tgt := 42) dX4_formulaLine_32 (by decide) (fun hc => ?_) (fun hc => ?_)
  · have h := h.1 hc
    refine r_aload_n dX4_formulaLine_42 rfl rfl ?_
    refine r_callV (ci := 3) (As := []) (st := []) (by decide) ok_X4_222 rfl rfl (Nat.le_of_ble_eq_true rfl) dX4_formulaLine_43 h (fun r8 s9 hv h => ?_)
    exact r_ret dX4_formulaLine_46 rfl h
  · have h := h.2 hc
    refine r_aload_n dX4_formulaLine_35 rfl rfl ?_
    refine r_callV (ci := 3) (As := []) (st := []) (by decide) ok_X4_219 rfl rfl (Nat.le_of_ble_eq_true rfl) dX4_formulaLine_36 h (fun r10 s11 hv h => ?_)
    refine r_goto (tgt := 46) dX4_formulaLine_39 (by decide) ?_
    exact r_ret dX4_formulaLine_46 rfl h
set_option maxRecDepth 20000 in
theorem S_X4_raisedLine {g : GT} {e : Nat} {Q : Int → Sg → Prop} {s : Sg} (h : (Mw g e M_X6_advance [(15, 47)] s (fun _ s2 => (Mw g e M_X4_number [(13, 46), (0, 1), (0, 30)] s2 (fun r3 s4 => (∀ s5, s5 = ups s4 (s2 46 1) 14 r3 → (Mw g e M_X4_own [(13, 46), (3, 14)] s5 (fun _ s7 => (Mw g e M_X4_number [(13, 46), (0, (w32 ((s7 (s7 46 1) 14) + 1))), (0, 30)] s7 (fun r8 s9 => (∀ s10, s10 = ups s9 (s7 46 1) 15 r8 → Q 0 s10))))))))))) : Mw g (e + 1) M_X4_raisedLine [(13, 46)] s Q := by
  refine Mw.of (ls := [(13, 46)]) pn_X4_raisedLine (Nat.le_of_ble_eq_true rfl) rfl (fun hv => ?_)
  refine r_aload_n dX4_raisedLine_0 rfl rfl ?_
  refine gf_X4_14 rfl dX4_raisedLine_1 ?_
  refine r_callV (ci := 5) (As := []) (st := []) (by decide) ok_X4_54 rfl rfl (Nat.le_of_ble_eq_true rfl) dX4_raisedLine_4 h (fun r1 s2 hv h => ?_)
  refine r_aload_n dX4_raisedLine_7 rfl rfl ?_
  refine gf_X4_20 rfl dX4_raisedLine_8 ?_
  refine r_aload_n dX4_raisedLine_11 rfl rfl ?_
  refine r_iconst dX4_raisedLine_12 (by decide) ?_
  refine r_bipush dX4_raisedLine_13 (by decide) rfl ?_
  refine r_callV (ci := 3) (As := [(0, 1), (0, 30)]) (st := [(18, (s2 46 1))]) (by decide) ok_X4_135 rfl rfl (Nat.le_of_ble_eq_true rfl) dX4_raisedLine_15 h (fun r3 s4 hv h => ?_)
  refine pf_X4_199 rfl dX4_raisedLine_18 ?_
  have h := h _ rfl
  generalize hs_s5 : ups s4 (s2 46 1) 14 r3 = s5 at h ⊢
  refine r_aload_n dX4_raisedLine_21 rfl rfl ?_
  refine r_getsE (i := 14) (v := 14) (by decide) rfl lk_X4_202 dX4_raisedLine_22 ?_
  refine r_callV (ci := 3) (As := [(3, 14)]) (st := []) (by decide) ok_X4_131 rfl rfl (Nat.le_of_ble_eq_true rfl) dX4_raisedLine_25 h (fun r6 s7 hv h => ?_)
  refine r_aload_n dX4_raisedLine_28 rfl rfl ?_
  refine gf_X4_20 rfl dX4_raisedLine_29 ?_
  refine r_aload_n dX4_raisedLine_32 rfl rfl ?_
  refine r_aload_n dX4_raisedLine_33 rfl rfl ?_
  refine gf_X4_20 rfl dX4_raisedLine_34 ?_
  refine gf_X4_199 rfl dX4_raisedLine_37 ?_
  refine r_iconst dX4_raisedLine_40 (by decide) ?_
  refine r_iadd dX4_raisedLine_41 ?_
  refine r_bipush dX4_raisedLine_42 (by decide) rfl ?_
  refine r_callV (ci := 3) (As := [(0, (w32 ((s7 (s7 46 1) 14) + 1))), (0, 30)]) (st := [(18, (s7 46 1))]) (by decide) ok_X4_135 rfl rfl (Nat.le_of_ble_eq_true rfl) dX4_raisedLine_44 h (fun r8 s9 hv h => ?_)
  refine pf_X4_205 rfl dX4_raisedLine_47 ?_
  have h := h _ rfl
  generalize hs_s10 : ups s9 (s7 46 1) 15 r8 = s10 at h ⊢
  exact r_ret dX4_raisedLine_50 rfl h
set_option maxRecDepth 20000 in
theorem S_X4_setting {g : GT} {e : Nat} {Q : Int → Sg → Prop} {s : Sg} {v1 : Int} (h : inR v1 → (Mw g e M_X6_advance [(15, 47)] s (fun _ s2 => (Mw g e M_X4_number [(13, 46), (0, 0), (0, v1)] s2 (fun r3 s4 => Q r3 s4))))) : Mw g (e + 1) M_X4_setting [(13, 46), (0, v1)] s Q := by
  refine Mw.of (ls := [(13, 46), (0, v1)]) pn_X4_setting (Nat.le_of_ble_eq_true rfl) rfl (fun hv => ?_)
  have h := h (hv _ (List.Mem.tail _ (List.Mem.head _)))
  refine r_aload_n dX4_setting_0 rfl rfl ?_
  refine gf_X4_14 rfl dX4_setting_1 ?_
  refine r_callV (ci := 5) (As := []) (st := []) (by decide) ok_X4_54 rfl rfl (Nat.le_of_ble_eq_true rfl) dX4_setting_4 h (fun r1 s2 hv h => ?_)
  refine r_aload_n dX4_setting_7 rfl rfl ?_
  refine r_iconst dX4_setting_8 (by decide) ?_
  refine r_iload_n dX4_setting_9 rfl ?_
  refine r_callV (ci := 3) (As := [(0, 0), (0, v1)]) (st := []) (by decide) ok_X4_135 rfl rfl (Nat.le_of_ble_eq_true rfl) dX4_setting_10 h (fun r3 s4 hv h => ?_)
  exact r_iret dX4_setting_13 rfl h
abbrev P_X4_statement_232 (g : GT) (e : Nat) (Q : Int → Sg → Prop) (s : Sg) : Prop := Wp g (e + 1) M_X4_statement Q 232 [(13, 46), (9, 0)] [] s
set_option maxRecDepth 20000 in
theorem S_X4_statement_232 {g : GT} {e : Nat} {Q : Int → Sg → Prop} {s : Sg} (h : (Mw g e M_X6_isSign [(15, 47), (0, 59)] s (fun r1 s2 => ((¬ r1 = 0 → Q 0 s2) ∧ (r1 = 0 → (Mw g e M_X6_failHere [(15, 47), (0, 1)] s2 (fun _ s4 => Q 0 s4))))))) : P_X4_statement_232 g e Q s := by
  refine r_aload_n dX4_statement_232 rfl rfl ?_
  refine gf_X4_14 rfl dX4_statement_233 ?_
  refine r_bipush dX4_statement_236 (by decide) rfl ?_
  refine r_callV (ci := 5) (As := [(0, 59)]) (st := []) (by decide) ok_X4_115 rfl rfl (Nat.le_of_ble_eq_true rfl) dX4_statement_238 h (fun r1 s2 hv h => ?_)
  refine r_if_ne (tgt := 252) dX4_statement_241 (by decide) (fun hc => ?_) (fun hc => ?_)
  · have h := h.1 hc
    exact r_ret dX4_statement_252 rfl h
  · have h := h.2 hc
    refine r_aload_n dX4_statement_244 rfl rfl ?_
    refine gf_X4_14 rfl dX4_statement_245 ?_
    refine r_iconst dX4_statement_248 (by decide) ?_
    refine r_callV (ci := 5) (As := [(0, 1)]) (st := []) (by decide) ok_X4_111 rfl rfl (Nat.le_of_ble_eq_true rfl) dX4_statement_249 h (fun r3 s4 hv h => ?_)
    exact r_ret dX4_statement_252 rfl h
set_option maxRecDepth 20000 in
theorem S_X4_statement {g : GT} {e : Nat} {Q : Int → Sg → Prop} {s : Sg} {v1 : Int} (h : inR v1 → ((v1 < 80 → (Mw g e M_X6_advance [(15, 47)] s (fun _ s2 => ((0 ≤ (s2 47 3) ∧ (s2 47 3) < 32) ∧ (((enS.getD ((s2 47 3)).toNat 0) = 1 → (Mw g e M_X4_homeLine [(13, 46)] s2 (fun _ s6 => P_X4_statement_232 g e Q s6))) ∧ ((enS.getD ((s2 47 3)).toNat 0) = 2 → (Mw g e M_X4_childLine [(13, 46)] s2 (fun _ s8 => P_X4_statement_232 g e Q s8))) ∧ ((enS.getD ((s2 47 3)).toNat 0) = 3 → (Mw g e M_X4_twinsLine [(13, 46)] s2 (fun _ s10 => P_X4_statement_232 g e Q s10))) ∧ ((enS.getD ((s2 47 3)).toNat 0) = 4 → (Mw g e M_X4_feudLine [(13, 46)] s2 (fun _ s12 => P_X4_statement_232 g e Q s12))) ∧ ((enS.getD ((s2 47 3)).toNat 0) = 5 → (Mw g e M_X4_wallLine [(13, 46)] s2 (fun _ s14 => P_X4_statement_232 g e Q s14))) ∧ ((enS.getD ((s2 47 3)).toNat 0) = 6 → (Mw g e M_X4_formulaLine [(13, 46), (11, ((s2 46 1) + 14)), (0, 0)] s2 (fun _ s16 => P_X4_statement_232 g e Q s16))) ∧ ((enS.getD ((s2 47 3)).toNat 0) = 7 → (Mw g e M_X4_formulaLine [(13, 46), (11, ((s2 46 1) + 17)), (0, 1)] s2 (fun _ s18 => P_X4_statement_232 g e Q s18))) ∧ ((enS.getD ((s2 47 3)).toNat 0) = 8 → (Mw g e M_X4_raisedLine [(13, 46)] s2 (fun _ s20 => P_X4_statement_232 g e Q s20))) ∧ ((enS.getD ((s2 47 3)).toNat 0) = 9 → (Mw g e M_X4_setting [(13, 46), (0, 99)] s2 (fun r21 s22 => (∀ s23, s23 = ups s22 (s2 46 1) 16 r21 → P_X4_statement_232 g e Q s23)))) ∧ ((enS.getD ((s2 47 3)).toNat 0) = 10 → (Mw g e M_X4_setting [(13, 46), (0, 100)] s2 (fun r24 s25 => (∀ s26, s26 = ups s25 (s2 46 1) 17 r24 → P_X4_statement_232 g e Q s26)))) ∧ ((enS.getD ((s2 47 3)).toNat 0) = 11 → (Mw g e M_X4_setting [(13, 46), (0, 99)] s2 (fun r27 s28 => (∀ s29, s29 = ups s28 (s2 46 1) 18 r27 → P_X4_statement_232 g e Q s29)))) ∧ (((enS.getD ((s2 47 3)).toNat 0) < 1 ∨ 11 < (enS.getD ((s2 47 3)).toNat 0)) → (Mw g e M_X6_failHere [(15, 47), (0, 1)] s2 (fun _ s4 => P_X4_statement_232 g e Q s4)))))))) ∧ (¬ v1 < 80 → (Mw g e M_X6_fail [(15, 47), (0, 6), (0, (s 47 5))] s (fun _ s31 => Q 0 s31))))) : Mw g (e + 1) M_X4_statement [(13, 46), (0, v1)] s Q := by
  refine Mw.of (ls := [(13, 46), (0, v1)]) pn_X4_statement (Nat.le_of_ble_eq_true rfl) rfl (fun hv => ?_)
  have h := h (hv _ (List.Mem.tail _ (List.Mem.head _)))
  refine r_iload_n dX4_statement_0 rfl ?_
  refine r_bipush dX4_statement_1 (by decide) rfl ?_
  refine r_icmp_lt (tgt := 23) dX4_statement_3 (by decide) (fun hc => ?_) (fun hc => ?_)
  · have h := h.1 hc
    refine r_aload_n dX4_statement_23 rfl rfl ?_
    refine gf_X4_14 rfl dX4_statement_24 ?_
    refine r_callV (ci := 5) (As := []) (st := []) (by decide) ok_X4_54 rfl rfl (Nat.le_of_ble_eq_true rfl) dX4_statement_27 h (fun r1 s2 hv h => ?_)
    refine r_getsS lk_X4_57 dX4_statement_30 ?_
    refine r_aload_n dX4_statement_33 rfl rfl ?_
    refine gf_X4_14 rfl dX4_statement_34 ?_
    refine gf_X4_63 rfl dX4_statement_37 ?_
    refine r_ord rfl (Nat.le_of_ble_eq_true rfl) dX4_statement_40 ?_
    obtain ⟨hb, h⟩ := h
    refine r_ialdS dX4_statement_43 hb ?_
    obtain ⟨h_0, h_1, h_2, h_3, h_4, h_5, h_6, h_7, h_8, h_9, h_10, h_d⟩ := h
    rcases (show ((enS.getD ((s2 47 3)).toNat 0) < 1 ∨ 11 < (enS.getD ((s2 47 3)).toNat 0)) ∨ (enS.getD ((s2 47 3)).toNat 0) = 1 ∨ (enS.getD ((s2 47 3)).toNat 0) = 2 ∨ (enS.getD ((s2 47 3)).toNat 0) = 3 ∨ (enS.getD ((s2 47 3)).toNat 0) = 4 ∨ (enS.getD ((s2 47 3)).toNat 0) = 5 ∨ (enS.getD ((s2 47 3)).toNat 0) = 6 ∨ (enS.getD ((s2 47 3)).toNat 0) = 7 ∨ (enS.getD ((s2 47 3)).toNat 0) = 8 ∨ (enS.getD ((s2 47 3)).toNat 0) = 9 ∨ (enS.getD ((s2 47 3)).toNat 0) = 10 ∨ (enS.getD ((s2 47 3)).toNat 0) = 11 by omega) with hk | hk | hk | hk | hk | hk | hk | hk | hk | hk | hk | hk
    · have h := h_d hk
      refine r_tableOut (tgt := 224) dX4_statement_44 hk (by decide) ?_
      refine r_aload_n dX4_statement_224 rfl rfl ?_
      refine gf_X4_14 rfl dX4_statement_225 ?_
      refine r_iconst dX4_statement_228 (by decide) ?_
      refine r_callV (ci := 5) (As := [(0, 1)]) (st := []) (by decide) ok_X4_111 rfl rfl (Nat.le_of_ble_eq_true rfl) dX4_statement_229 h (fun r3 s4 hv h => ?_)
      exact r_fgt [true, false] rfl h
    · have h := h_0 hk
      refine r_tableIn (tgt := 104) dX4_statement_44 (by omega) (by omega) (by rw [hk]; rfl) (by decide) ?_
      refine r_aload_n dX4_statement_104 rfl rfl ?_
      refine r_callV (ci := 3) (As := []) (st := []) (by decide) ok_X4_73 rfl rfl (Nat.le_of_ble_eq_true rfl) dX4_statement_105 h (fun r5 s6 hv h => ?_)
      refine r_goto (tgt := 232) dX4_statement_108 (by decide) ?_
      exact r_fgt [true, false] rfl h
    · have h := h_1 hk
      refine r_tableIn (tgt := 111) dX4_statement_44 (by omega) (by omega) (by rw [hk]; rfl) (by decide) ?_
      refine r_aload_n dX4_statement_111 rfl rfl ?_
      refine r_callV (ci := 3) (As := []) (st := []) (by decide) ok_X4_76 rfl rfl (Nat.le_of_ble_eq_true rfl) dX4_statement_112 h (fun r7 s8 hv h => ?_)
      refine r_goto (tgt := 232) dX4_statement_115 (by decide) ?_
      exact r_fgt [true, false] rfl h
    · have h := h_2 hk
      refine r_tableIn (tgt := 118) dX4_statement_44 (by omega) (by omega) (by rw [hk]; rfl) (by decide) ?_
      refine r_aload_n dX4_statement_118 rfl rfl ?_
      refine r_callV (ci := 3) (As := []) (st := []) (by decide) ok_X4_79 rfl rfl (Nat.le_of_ble_eq_true rfl) dX4_statement_119 h (fun r9 s10 hv h => ?_)
      refine r_goto (tgt := 232) dX4_statement_122 (by decide) ?_
      exact r_fgt [true, false] rfl h
    · have h := h_3 hk
      refine r_tableIn (tgt := 125) dX4_statement_44 (by omega) (by omega) (by rw [hk]; rfl) (by decide) ?_
      refine r_aload_n dX4_statement_125 rfl rfl ?_
      refine r_callV (ci := 3) (As := []) (st := []) (by decide) ok_X4_82 rfl rfl (Nat.le_of_ble_eq_true rfl) dX4_statement_126 h (fun r11 s12 hv h => ?_)
      refine r_goto (tgt := 232) dX4_statement_129 (by decide) ?_
      exact r_fgt [true, false] rfl h
    · have h := h_4 hk
      refine r_tableIn (tgt := 132) dX4_statement_44 (by omega) (by omega) (by rw [hk]; rfl) (by decide) ?_
      refine r_aload_n dX4_statement_132 rfl rfl ?_
      refine r_callV (ci := 3) (As := []) (st := []) (by decide) ok_X4_85 rfl rfl (Nat.le_of_ble_eq_true rfl) dX4_statement_133 h (fun r13 s14 hv h => ?_)
      refine r_goto (tgt := 232) dX4_statement_136 (by decide) ?_
      exact r_fgt [true, false] rfl h
    · have h := h_5 hk
      refine r_tableIn (tgt := 139) dX4_statement_44 (by omega) (by omega) (by rw [hk]; rfl) (by decide) ?_
      refine r_aload_n dX4_statement_139 rfl rfl ?_
      refine r_aload_n dX4_statement_140 rfl rfl ?_
      refine gf_X4_20 rfl dX4_statement_141 ?_
      refine gf_X4_24 rfl dX4_statement_144 ?_
      refine r_iconst dX4_statement_147 (by decide) ?_
      refine r_callV (ci := 3) (As := [(11, ((s2 46 1) + 14)), (0, 0)]) (st := []) (by decide) ok_X4_88 rfl rfl (Nat.le_of_ble_eq_true rfl) dX4_statement_148 h (fun r15 s16 hv h => ?_)
      refine r_goto (tgt := 232) dX4_statement_151 (by decide) ?_
      exact r_fgt [true, false] rfl h
    · have h := h_6 hk
      refine r_tableIn (tgt := 154) dX4_statement_44 (by omega) (by omega) (by rw [hk]; rfl) (by decide) ?_
      refine r_aload_n dX4_statement_154 rfl rfl ?_
      refine r_aload_n dX4_statement_155 rfl rfl ?_
      refine gf_X4_20 rfl dX4_statement_156 ?_
      refine gf_X4_92 rfl dX4_statement_159 ?_
      refine r_iconst dX4_statement_162 (by decide) ?_
      refine r_callV (ci := 3) (As := [(11, ((s2 46 1) + 17)), (0, 1)]) (st := []) (by decide) ok_X4_88 rfl rfl (Nat.le_of_ble_eq_true rfl) dX4_statement_163 h (fun r17 s18 hv h => ?_)
      refine r_goto (tgt := 232) dX4_statement_166 (by decide) ?_
      exact r_fgt [true, false] rfl h
    · have h := h_7 hk
      refine r_tableIn (tgt := 169) dX4_statement_44 (by omega) (by omega) (by rw [hk]; rfl) (by decide) ?_
      refine r_aload_n dX4_statement_169 rfl rfl ?_
      refine r_callV (ci := 3) (As := []) (st := []) (by decide) ok_X4_95 rfl rfl (Nat.le_of_ble_eq_true rfl) dX4_statement_170 h (fun r19 s20 hv h => ?_)
      refine r_goto (tgt := 232) dX4_statement_173 (by decide) ?_
      exact r_fgt [true, false] rfl h
    · have h := h_8 hk
      refine r_tableIn (tgt := 176) dX4_statement_44 (by omega) (by omega) (by rw [hk]; rfl) (by decide) ?_
      refine r_aload_n dX4_statement_176 rfl rfl ?_
      refine gf_X4_20 rfl dX4_statement_177 ?_
      refine r_aload_n dX4_statement_180 rfl rfl ?_
      refine r_bipush dX4_statement_181 (by decide) rfl ?_
      refine r_callV (ci := 3) (As := [(0, 99)]) (st := [(18, (s2 46 1))]) (by decide) ok_X4_98 rfl rfl (Nat.le_of_ble_eq_true rfl) dX4_statement_183 h (fun r21 s22 hv h => ?_)
      refine pf_X4_102 rfl dX4_statement_186 ?_
      have h := h _ rfl
      generalize hs_s23 : ups s22 (s2 46 1) 16 r21 = s23 at h ⊢
      refine r_goto (tgt := 232) dX4_statement_189 (by decide) ?_
      exact r_fgt [true, false] rfl h
    · have h := h_9 hk
      refine r_tableIn (tgt := 192) dX4_statement_44 (by omega) (by omega) (by rw [hk]; rfl) (by decide) ?_
      refine r_aload_n dX4_statement_192 rfl rfl ?_
      refine gf_X4_20 rfl dX4_statement_193 ?_
      refine r_aload_n dX4_statement_196 rfl rfl ?_
      refine r_bipush dX4_statement_197 (by decide) rfl ?_
      refine r_callV (ci := 3) (As := [(0, 100)]) (st := [(18, (s2 46 1))]) (by decide) ok_X4_98 rfl rfl (Nat.le_of_ble_eq_true rfl) dX4_statement_199 h (fun r24 s25 hv h => ?_)
      refine pf_X4_105 rfl dX4_statement_202 ?_
      have h := h _ rfl
      generalize hs_s26 : ups s25 (s2 46 1) 17 r24 = s26 at h ⊢
      refine r_goto (tgt := 232) dX4_statement_205 (by decide) ?_
      exact r_fgt [true, false] rfl h
    · have h := h_10 hk
      refine r_tableIn (tgt := 208) dX4_statement_44 (by omega) (by omega) (by rw [hk]; rfl) (by decide) ?_
      refine r_aload_n dX4_statement_208 rfl rfl ?_
      refine gf_X4_20 rfl dX4_statement_209 ?_
      refine r_aload_n dX4_statement_212 rfl rfl ?_
      refine r_bipush dX4_statement_213 (by decide) rfl ?_
      refine r_callV (ci := 3) (As := [(0, 99)]) (st := [(18, (s2 46 1))]) (by decide) ok_X4_98 rfl rfl (Nat.le_of_ble_eq_true rfl) dX4_statement_215 h (fun r27 s28 hv h => ?_)
      refine pf_X4_108 rfl dX4_statement_218 ?_
      have h := h _ rfl
      generalize hs_s29 : ups s28 (s2 46 1) 18 r27 = s29 at h ⊢
      refine r_goto (tgt := 232) dX4_statement_221 (by decide) ?_
      exact r_fgt [true, false] rfl h
  · have h := h.2 hc
    refine r_aload_n dX4_statement_6 rfl rfl ?_
    refine gf_X4_14 rfl dX4_statement_7 ?_
    refine r_bipush dX4_statement_10 (by decide) rfl ?_
    refine r_aload_n dX4_statement_12 rfl rfl ?_
    refine gf_X4_14 rfl dX4_statement_13 ?_
    refine gf_X4_46 rfl dX4_statement_16 ?_
    refine r_callV (ci := 5) (As := [(0, 6), (0, (s 47 5))]) (st := []) (by decide) ok_X4_50 rfl rfl (Nat.le_of_ble_eq_true rfl) dX4_statement_19 h (fun r30 s31 hv h => ?_)
    exact r_ret dX4_statement_22 rfl h
set_option maxRecDepth 20000 in
theorem S_X9_setFacts {g : GT} {e : Nat} {Q : Int → Sg → Prop} {s : Sg} {th : Int} {v1 : Int} {v2 : Int} {v3 : Int} {v4 : Int} (h : (gr g th ∧ tg th = 18) → inR v1 → inR v2 → inR v3 → inR v4 → ((0 ≤ v1 ∧ v1 < 6) ∧ (∀ s1, s1 = ups s (th + 20) 0 (s (th + 6) v1) → ((0 ≤ v1 ∧ v1 < 6) ∧ (∀ s2, s2 = ups s1 (th + 20) 1 (s1 (th + 7) v1) → (∀ s3, s3 = ups s2 (th + 20) 2 v2 → (∀ s4, s4 = ups s3 (th + 20) 3 v3 → (∀ s5, s5 = ups s4 (th + 20) 4 v4 → Q 0 s5)))))))) : Mw g (e + 1) M_X9_setFacts [(18, th), (0, v1), (0, v2), (0, v3), (0, v4)] s Q := by
  refine Mw.of (ls := [(18, th), (0, v1), (0, v2), (0, v3), (0, v4)]) pn_X9_setFacts (Nat.le_of_ble_eq_true rfl) rfl (fun hv => ?_)
  have h := h (vld_o (by decide) (hv _ (List.Mem.head _))) (hv _ (List.Mem.tail _ (List.Mem.head _))) (hv _ (List.Mem.tail _ (List.Mem.tail _ (List.Mem.head _)))) (hv _ (List.Mem.tail _ (List.Mem.tail _ (List.Mem.tail _ (List.Mem.head _))))) (hv _ (List.Mem.tail _ (List.Mem.tail _ (List.Mem.tail _ (List.Mem.tail _ (List.Mem.head _))))))
  refine r_aload_n dX9_setFacts_0 rfl rfl ?_
  refine gf_X9_54 rfl dX9_setFacts_1 ?_
  refine r_getsE (i := 1) (v := 1) (by decide) rfl lk_X9_96 dX9_setFacts_4 ?_
  refine r_getEf lk_X9_102 dX9_setFacts_7 ?_
  show Wp g (e + 1) M_X9_setFacts Q 10 [(18, th), (0, v1), (0, v2), (0, v3), (0, v4)] [(0, 0), (33, (th + 20))] s
  refine r_aload_n dX9_setFacts_10 rfl rfl ?_
  refine gf_X9_20 rfl dX9_setFacts_11 ?_
  refine r_iload_n dX9_setFacts_14 rfl ?_
  obtain ⟨hb, h⟩ := h
  refine r_iald (n := 6) rfl (by decide) dX9_setFacts_15 hb ?_
  refine r_iast (n := 8) rfl (by decide) dX9_setFacts_16 (by decide) ?_
  have h := h _ rfl
  generalize hs_s1 : ups s (th + 20) 0 (s (th + 6) v1) = s1 at h ⊢
  refine r_aload_n dX9_setFacts_17 rfl rfl ?_
  refine gf_X9_54 rfl dX9_setFacts_18 ?_
  refine r_getsE (i := 2) (v := 2) (by decide) rfl lk_X9_105 dX9_setFacts_21 ?_
  refine r_getEf lk_X9_102 dX9_setFacts_24 ?_
  show Wp g (e + 1) M_X9_setFacts Q 27 [(18, th), (0, v1), (0, v2), (0, v3), (0, v4)] [(0, 1), (33, (th + 20))] s1
  refine r_aload_n dX9_setFacts_27 rfl rfl ?_
  refine gf_X9_23 rfl dX9_setFacts_28 ?_
  refine r_iload_n dX9_setFacts_31 rfl ?_
  obtain ⟨hb, h⟩ := h
  refine r_iald (n := 6) rfl (by decide) dX9_setFacts_32 hb ?_
  refine r_iast (n := 8) rfl (by decide) dX9_setFacts_33 (by decide) ?_
  have h := h _ rfl
  generalize hs_s2 : ups s1 (th + 20) 1 (s1 (th + 7) v1) = s2 at h ⊢
  refine r_aload_n dX9_setFacts_34 rfl rfl ?_
  refine gf_X9_54 rfl dX9_setFacts_35 ?_
  refine r_getsE (i := 18) (v := 18) (by decide) rfl lk_X9_108 dX9_setFacts_38 ?_
  refine r_getEf lk_X9_102 dX9_setFacts_41 ?_
  show Wp g (e + 1) M_X9_setFacts Q 44 [(18, th), (0, v1), (0, v2), (0, v3), (0, v4)] [(0, 2), (33, (th + 20))] s2
  refine r_iload_n dX9_setFacts_44 rfl ?_
  refine r_iast (n := 8) rfl (by decide) dX9_setFacts_45 (by decide) ?_
  have h := h _ rfl
  generalize hs_s3 : ups s2 (th + 20) 2 v2 = s3 at h ⊢
  refine r_aload_n dX9_setFacts_46 rfl rfl ?_
  refine gf_X9_54 rfl dX9_setFacts_47 ?_
  refine r_getsE (i := 19) (v := 19) (by decide) rfl lk_X9_111 dX9_setFacts_50 ?_
  refine r_getEf lk_X9_102 dX9_setFacts_53 ?_
  show Wp g (e + 1) M_X9_setFacts Q 56 [(18, th), (0, v1), (0, v2), (0, v3), (0, v4)] [(0, 3), (33, (th + 20))] s3
  refine r_iload_n dX9_setFacts_56 rfl ?_
  refine r_iast (n := 8) rfl (by decide) dX9_setFacts_57 (by decide) ?_
  have h := h _ rfl
  generalize hs_s4 : ups s3 (th + 20) 3 v3 = s4 at h ⊢
  refine r_aload_n dX9_setFacts_58 rfl rfl ?_
  refine gf_X9_54 rfl dX9_setFacts_59 ?_
  refine r_getsE (i := 20) (v := 20) (by decide) rfl lk_X9_114 dX9_setFacts_62 ?_
  refine r_getEf lk_X9_102 dX9_setFacts_65 ?_
  show Wp g (e + 1) M_X9_setFacts Q 68 [(18, th), (0, v1), (0, v2), (0, v3), (0, v4)] [(0, 4), (33, (th + 20))] s4
  refine r_iload dX9_setFacts_68 rfl ?_
  refine r_iast (n := 8) rfl (by decide) dX9_setFacts_70 (by decide) ?_
  have h := h _ rfl
  generalize hs_s5 : ups s4 (th + 20) 4 v4 = s5 at h ⊢
  exact r_ret dX9_setFacts_71 rfl h
abbrev P_X9_grown_40 (g : GT) (e : Nat) (Q : Int → Sg → Prop) (s : Sg) (v3 : Int) (v5 : Int) : Prop := Wp g (e + 1) M_X9_grown Q 40 [(9, 0), (9, 0), (9, 0), (0, v3), (9, 0), (0, v5)] [] s
set_option maxRecDepth 20000 in
theorem S_X9_grown_40 {g : GT} {e : Nat} {Q : Int → Sg → Prop} {s : Sg} {v3 : Int} {v5 : Int} (h : Q (min 999 (w32 (v3 + (max 0 (min 99 v5))))) s) : P_X9_grown_40 g e Q s v3 v5 := by
  refine r_iconst dX9_grown_40 (by decide) ?_
  refine r_bipush dX9_grown_41 (by decide) rfl ?_
  refine r_iload dX9_grown_43 rfl ?_
  refine r_minI lm_X9_125 (Nat.le_of_ble_eq_true rfl) dX9_grown_45 ?_
  refine r_maxI lm_X9_130 (Nat.le_of_ble_eq_true rfl) dX9_grown_48 ?_
  refine r_istore (ls2 := [(9, 0), (9, 0), (9, 0), (0, v3), (9, 0), (0, (max 0 (min 99 v5)))]) dX9_grown_51 (by decide) rfl ?_
  refine r_sipush dX9_grown_53 (by decide) rfl ?_
  refine r_iload_n dX9_grown_56 rfl ?_
  refine r_iload dX9_grown_57 rfl ?_
  refine r_iadd dX9_grown_59 ?_
  refine r_minI lm_X9_125 (Nat.le_of_ble_eq_true rfl) dX9_grown_60 ?_
  exact r_iret dX9_grown_63 rfl h
set_option maxRecDepth 20000 in
theorem S_X9_grown {g : GT} {e : Nat} {Q : Int → Sg → Prop} {s : Sg} {th : Int} {v1 : Int} {v2 : Int} {v3 : Int} {v4 : Int} (h : (gr g th ∧ tg th = 18) → inR v1 → inR v2 → inR v3 → inR v4 → ((0 ≤ v1 ∧ v1 < 6) ∧ (((s (th + 14) 2) ≤ 0 → P_X9_grown_40 g e Q s v3 (s (th + 6) v1)) ∧ (¬ (s (th + 14) 2) ≤ 0 → (Mw g e M_X9_setFacts [(18, th), (0, v1), (0, v2), (0, v3), (0, v4)] s (fun _ s2 => (Mw g e M_X2_value [(11, (th + 14)), (33, (th + 20))] s2 (fun r3 s4 => P_X9_grown_40 g e Q s4 v3 r3)))))))) : Mw g (e + 1) M_X9_grown [(18, th), (0, v1), (0, v2), (0, v3), (0, v4)] s Q := by
  refine Mw.of (ls := [(18, th), (0, v1), (0, v2), (0, v3), (0, v4), (9, 0)]) pn_X9_grown (Nat.le_of_ble_eq_true rfl) rfl (fun hv => ?_)
  have h := h (vld_o (by decide) (hv _ (List.Mem.head _))) (hv _ (List.Mem.tail _ (List.Mem.head _))) (hv _ (List.Mem.tail _ (List.Mem.tail _ (List.Mem.head _)))) (hv _ (List.Mem.tail _ (List.Mem.tail _ (List.Mem.tail _ (List.Mem.head _))))) (hv _ (List.Mem.tail _ (List.Mem.tail _ (List.Mem.tail _ (List.Mem.tail _ (List.Mem.head _))))))
  refine r_aload_n dX9_grown_0 rfl rfl ?_
  refine gf_X9_20 rfl dX9_grown_1 ?_
  refine r_iload_n dX9_grown_4 rfl ?_
  obtain ⟨hb, h⟩ := h
  refine r_iald (n := 6) rfl (by decide) dX9_grown_5 hb ?_
  refine r_istore (ls2 := [(18, th), (0, v1), (0, v2), (0, v3), (0, v4), (0, (s (th + 6) v1))]) dX9_grown_6 (by decide) rfl ?_
  refine r_aload_n dX9_grown_8 rfl rfl ?_
  refine gf_X9_47 rfl dX9_grown_9 ?_
  refine gf_X9_66 rfl dX9_grown_12 ?_
  refine r_if_le (tgt := 40) dX9_grown_15 (by decide) (fun hc => ?_) (fun hc => ?_)
  · have h := h.1 hc
    exact r_fgt [false, false, false, true, false, true] rfl h
  · have h := h.2 hc
    refine r_aload_n dX9_grown_18 rfl rfl ?_
    refine r_iload_n dX9_grown_19 rfl ?_
    refine r_iload_n dX9_grown_20 rfl ?_
    refine r_iload_n dX9_grown_21 rfl ?_
    refine r_iload dX9_grown_22 rfl ?_
    refine r_callV (ci := 8) (As := [(0, v1), (0, v2), (0, v3), (0, v4)]) (st := []) (by decide) ok_X9_117 rfl rfl (Nat.le_of_ble_eq_true rfl) dX9_grown_24 h (fun r1 s2 hv h => ?_)
    refine r_aload_n dX9_grown_27 rfl rfl ?_
    refine gf_X9_47 rfl dX9_grown_28 ?_
    refine r_aload_n dX9_grown_31 rfl rfl ?_
    refine gf_X9_54 rfl dX9_grown_32 ?_
    refine r_callV (ci := 1) (As := [(33, (th + 20))]) (st := []) (by decide) ok_X9_121 rfl rfl (Nat.le_of_ble_eq_true rfl) dX9_grown_35 h (fun r3 s4 hv h => ?_)
    refine r_istore (ls2 := [(18, th), (0, v1), (0, v2), (0, v3), (0, v4), (0, r3)]) dX9_grown_38 (by decide) rfl ?_
    exact r_fgt [false, false, false, true, false, true] rfl h
set_option maxRecDepth 20000 in
theorem S_X9_span {g : GT} {e : Nat} {Q : Int → Sg → Prop} {s : Sg} {th : Int} (h : (gr g th ∧ tg th = 18) → Q (w32 ((s th 15) - (s th 14))) s) : Mw g (e + 1) M_X9_span [(18, th)] s Q := by
  refine Mw.of (ls := [(18, th)]) pn_X9_span (Nat.le_of_ble_eq_true rfl) rfl (fun hv => ?_)
  have h := h (vld_o (by decide) (hv _ (List.Mem.head _)))
  refine r_aload_n dX9_span_0 rfl rfl ?_
  refine gf_X9_76 rfl dX9_span_1 ?_
  refine r_aload_n dX9_span_4 rfl rfl ?_
  refine gf_X9_73 rfl dX9_span_5 ?_
  refine r_isub dX9_span_8 ?_
  exact r_iret dX9_span_9 rfl h
