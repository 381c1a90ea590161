set_option maxRecDepth 20000 in
theorem S_X11_clearWalls {g : GT} {e : Nat} {Q : Int → Sg → Prop} {s : Sg} {th : Int} (h : (gr g th ∧ tg th = 19) → (Mw g e M_J7_fill_53178 [(33, (th + 3)), (0, (-1))] s (fun _ s2 => (Mw g e M_J7_fill_53178 [(39, (th + 4)), (0, (-1))] s2 (fun _ s4 => (Mw g e M_J7_fill_53178 [(40, (th + 5)), (0, 0)] s4 (fun _ s6 => Q 0 s6))))))) : Mw g (e + 1) M_X11_clearWalls [(19, th)] s Q := by
  refine Mw.of (ls := [(19, th)]) pn_X11_clearWalls (Nat.le_of_ble_eq_true rfl) rfl (fun hv => ?_)
  have h := h (vld_o (by decide) (hv _ (List.Mem.head _)))
  refine r_aload_n dX11_clearWalls_0 rfl rfl ?_
  refine gf_X11_18 rfl dX11_clearWalls_1 ?_
  refine r_iconst dX11_clearWalls_4 (by decide) ?_
  refine r_callS (As := [(33, (th + 3)), (0, (-1))]) (st := []) ok_X11_56 rfl rfl (Nat.le_of_ble_eq_true rfl) dX11_clearWalls_5 h (fun r1 s2 hv h => ?_)
  refine r_aload_n dX11_clearWalls_8 rfl rfl ?_
  refine gf_X11_21 rfl dX11_clearWalls_9 ?_
  refine r_iconst dX11_clearWalls_12 (by decide) ?_
  refine r_callS (As := [(39, (th + 4)), (0, (-1))]) (st := []) ok_X11_56 rfl rfl (Nat.le_of_ble_eq_true rfl) dX11_clearWalls_13 h (fun r3 s4 hv h => ?_)
  refine r_aload_n dX11_clearWalls_16 rfl rfl ?_
  refine gf_X11_24 rfl dX11_clearWalls_17 ?_
  refine r_iconst dX11_clearWalls_20 (by decide) ?_
  refine r_callS (As := [(40, (th + 5)), (0, 0)]) (st := []) ok_X11_56 rfl rfl (Nat.le_of_ble_eq_true rfl) dX11_clearWalls_21 h (fun r5 s6 hv h => ?_)
  exact r_ret dX11_clearWalls_24 rfl h
set_option maxRecDepth 20000 in
theorem S_X11_put {g : GT} {e : Nat} {Q : Int → Sg → Prop} {s : Sg} {th : Int} {v1 : Int} {v2 : Int} (h : (gr g th ∧ tg th = 19) → inR v1 → inR v2 → ((0 ≤ v1 ∧ v1 < 8) ∧ ∀ s1, s1 = ups s (th + 3) v1 v2 → ((0 ≤ v2 ∧ v2 < 64) ∧ ∀ s2, s2 = ups s1 (th + 4) v2 v1 → ((0 ≤ (w32 (Int.tdiv v2 4)) ∧ (w32 (Int.tdiv v2 4)) < 16) ∧ ((0 ≤ (w32 (Int.tdiv v2 4)) ∧ (w32 (Int.tdiv v2 4)) < 16) ∧ ∀ s3, s3 = ups s2 (th + 5) (w32 (Int.tdiv v2 4)) (w32 ((s2 (th + 5) (w32 (Int.tdiv v2 4))) + 1)) → Q 0 s3))))) : Mw g (e + 1) M_X11_put [(19, th), (0, v1), (0, v2)] s Q := by
  refine Mw.of (ls := [(19, th), (0, v1), (0, v2)]) pn_X11_put (Nat.le_of_ble_eq_true rfl) rfl (fun hv => ?_)
  have h := h (vld_o (by decide) (hv _ (List.Mem.head _))) (hv _ (List.Mem.tail _ (List.Mem.head _))) (hv _ (List.Mem.tail _ (List.Mem.tail _ (List.Mem.head _))))
  refine r_aload_n dX11_put_0 rfl rfl ?_
  refine gf_X11_18 rfl dX11_put_1 ?_
  refine r_iload_n dX11_put_4 rfl ?_
  refine r_iload_n dX11_put_5 rfl ?_
  obtain ⟨hb, h⟩ := h
  refine r_iast (n := 8) rfl (by decide) dX11_put_6 hb ?_
  have h := h _ rfl
  generalize hs_s1 : ups s (th + 3) v1 v2 = s1 at h ⊢
  refine r_aload_n dX11_put_7 rfl rfl ?_
  refine gf_X11_21 rfl dX11_put_8 ?_
  refine r_iload_n dX11_put_11 rfl ?_
  refine r_iload_n dX11_put_12 rfl ?_
  obtain ⟨hb, h⟩ := h
  refine r_iast (n := 64) rfl (by decide) dX11_put_13 hb ?_
  have h := h _ rfl
  generalize hs_s2 : ups s1 (th + 4) v2 v1 = s2 at h ⊢
  refine r_aload_n dX11_put_14 rfl rfl ?_
  refine gf_X11_24 rfl dX11_put_15 ?_
  refine r_iload_n dX11_put_18 rfl ?_
  refine r_iconst dX11_put_19 (by decide) ?_
  refine r_idiv dX11_put_20 (by decide) ?_
  refine r_dup2 dX11_put_21 (show (0 : Nat) ≠ 2 by decide) (show (40 : Nat) ≠ 2 by decide) ?_
  obtain ⟨hb, h⟩ := h
  refine r_iald (n := 16) rfl (by decide) dX11_put_22 hb ?_
  refine r_iconst dX11_put_23 (by decide) ?_
  refine r_iadd dX11_put_24 ?_
  obtain ⟨hb, h⟩ := h
  refine r_iast (n := 16) rfl (by decide) dX11_put_25 hb ?_
  have h := h _ rfl
  generalize hs_s3 : ups s2 (th + 5) (w32 (Int.tdiv v2 4)) (w32 ((s2 (th + 5) (w32 (Int.tdiv v2 4))) + 1)) = s3 at h ⊢
  exact r_ret dX11_put_26 rfl h
set_option maxRecDepth 20000 in
theorem S_X11_wallAt {g : GT} {e : Nat} {Q : Int → Sg → Prop} {s : Sg} {v0 : Int} (h : inR v0 → Q (w32 (Int.tdiv v0 16)) s) : Mw g (e + 1) M_X11_wallAt [(0, v0)] s Q := by
  refine Mw.of (ls := [(0, v0)]) pn_X11_wallAt (Nat.le_of_ble_eq_true rfl) rfl (fun hv => ?_)
  have h := h (hv _ (List.Mem.head _))
  refine r_iload_n dX11_wallAt_0 rfl ?_
  refine r_bipush dX11_wallAt_1 (by decide) rfl ?_
  refine r_idiv dX11_wallAt_3 (by decide) ?_
  exact r_iret dX11_wallAt_4 rfl h
set_option maxRecDepth 20000 in
theorem S_X11_clearCounts {g : GT} {e : Nat} {Q : Int → Sg → Prop} {s : Sg} {th : Int} (h : (gr g th ∧ tg th = 19) → (∀ s1, s1 = ups s th 9 0 → (∀ s2, s2 = ups s1 th 10 0 → (∀ s3, s3 = ups s2 th 11 0 → (∀ s4, s4 = ups s3 th 12 0 → Q 0 s4))))) : Mw g (e + 1) M_X11_clearCounts [(19, th)] s Q := by
  refine Mw.of (ls := [(19, th)]) pn_X11_clearCounts (Nat.le_of_ble_eq_true rfl) rfl (fun hv => ?_)
  have h := h (vld_o (by decide) (hv _ (List.Mem.head _)))
  refine r_aload_n dX11_clearCounts_0 rfl rfl ?_
  refine r_iconst dX11_clearCounts_1 (by decide) ?_
  refine pf_X11_68 rfl dX11_clearCounts_2 ?_
  have h := h _ rfl
  generalize hs_s1 : ups s th 9 0 = s1 at h ⊢
  refine r_aload_n dX11_clearCounts_5 rfl rfl ?_
  refine r_iconst dX11_clearCounts_6 (by decide) ?_
  refine pf_X11_71 rfl dX11_clearCounts_7 ?_
  have h := h _ rfl
  generalize hs_s2 : ups s1 th 10 0 = s2 at h ⊢
  refine r_aload_n dX11_clearCounts_10 rfl rfl ?_
  refine r_iconst dX11_clearCounts_11 (by decide) ?_
  refine pf_X11_74 rfl dX11_clearCounts_12 ?_
  have h := h _ rfl
  generalize hs_s3 : ups s2 th 11 0 = s3 at h ⊢
  refine r_aload_n dX11_clearCounts_15 rfl rfl ?_
  refine r_iconst dX11_clearCounts_16 (by decide) ?_
  refine pf_X11_77 rfl dX11_clearCounts_17 ?_
  have h := h _ rfl
  generalize hs_s4 : ups s3 th 12 0 = s4 at h ⊢
  exact r_ret dX11_clearCounts_20 rfl h
set_option maxRecDepth 20000 in
theorem S_X11_begin {g : GT} {e : Nat} {Q : Int → Sg → Prop} {s : Sg} {th : Int} {v1 : Int} (h : (gr g th ∧ tg th = 19) → (gr g v1 ∧ tg v1 = 18) → (∀ s1, s1 = ups s th 0 v1 → (∀ s2, s2 = ups s1 th 1 0 → (∀ s3, s3 = ups s2 th 2 0 → (∀ s4, s4 = cpy s3 (v1 + 8) 0 (th + 1) 0 8 → (Mw g e M_J7_fill_53178 [(33, (th + 2)), (0, 0)] s4 (fun _ s6 => (Mw g e M_X11_clearWalls [(19, th)] s6 (fun _ s8 => (Mw g e M_X11_clearCounts [(19, th)] s8 (fun _ s10 => Q 0 s10))))))))))) : Mw g (e + 1) M_X11_begin [(19, th), (18, v1)] s Q := by
  refine Mw.of (ls := [(19, th), (18, v1)]) pn_X11_begin (Nat.le_of_ble_eq_true rfl) rfl (fun hv => ?_)
  have h := h (vld_o (by decide) (hv _ (List.Mem.head _))) (vld_o (by decide) (hv _ (List.Mem.tail _ (List.Mem.head _))))
  refine r_aload_n dX11_begin_0 rfl rfl ?_
  refine r_aload_n dX11_begin_1 rfl rfl ?_
  refine pf_X11_34 rfl dX11_begin_2 ?_
  have h := h _ rfl
  generalize hs_s1 : ups s th 0 v1 = s1 at h ⊢
  refine r_aload_n dX11_begin_5 rfl rfl ?_
  refine r_iconst dX11_begin_6 (by decide) ?_
  refine pf_X11_38 rfl dX11_begin_7 ?_
  have h := h _ rfl
  generalize hs_s2 : ups s1 th 1 0 = s2 at h ⊢
  refine r_aload_n dX11_begin_10 rfl rfl ?_
  refine r_iconst dX11_begin_11 (by decide) ?_
  refine pf_X11_42 rfl dX11_begin_12 ?_
  have h := h _ rfl
  generalize hs_s3 : ups s2 th 2 0 = s3 at h ⊢
  refine r_aload_n dX11_begin_15 rfl rfl ?_
  refine gf_X11_45 rfl dX11_begin_16 ?_
  refine r_iconst dX11_begin_19 (by decide) ?_
  refine r_aload_n dX11_begin_20 rfl rfl ?_
  refine gf_X11_9 rfl dX11_begin_21 ?_
  refine r_iconst dX11_begin_24 (by decide) ?_
  refine r_bipush dX11_begin_25 (by decide) rfl ?_
  refine r_copy (n0 := 8) (n1 := 8) lm_X11_50 (Nat.le_of_ble_eq_true rfl) rfl (by decide) rfl (by decide) dX11_begin_27 (by decide) ?_
  have h := h _ rfl
  generalize hs_s4 : cpy s3 (v1 + 8) 0 (th + 1) 0 8 = s4 at h ⊢
  refine r_aload_n dX11_begin_30 rfl rfl ?_
  refine gf_X11_15 rfl dX11_begin_31 ?_
  refine r_iconst dX11_begin_34 (by decide) ?_
  refine r_callS (As := [(33, (th + 2)), (0, 0)]) (st := []) ok_X11_56 rfl rfl (Nat.le_of_ble_eq_true rfl) dX11_begin_35 h (fun r5 s6 hv h => ?_)
  refine r_aload_n dX11_begin_38 rfl rfl ?_
  refine r_callV (ci := 9) (As := []) (st := []) (by decide) ok_X11_62 rfl rfl (Nat.le_of_ble_eq_true rfl) dX11_begin_39 h (fun r7 s8 hv h => ?_)
  refine r_aload_n dX11_begin_42 rfl rfl ?_
  refine r_callV (ci := 9) (As := []) (st := []) (by decide) ok_X11_65 rfl rfl (Nat.le_of_ble_eq_true rfl) dX11_begin_43 h (fun r9 s10 hv h => ?_)
  exact r_ret dX11_begin_46 rfl h
set_option maxRecDepth 20000 in
theorem S_X11_age {g : GT} {e : Nat} {Q : Int → Sg → Prop} {s : Sg} {th : Int} {v1 : Int} (h : (gr g th ∧ tg th = 19) → inR v1 → ((0 ≤ v1 ∧ v1 < 8) ∧ Q (w32 ((s th 1) - (s ((s th 0) + 9) v1))) s)) : Mw g (e + 1) M_X11_age [(19, th), (0, v1)] s Q := by
  refine Mw.of (ls := [(19, th), (0, v1)]) pn_X11_age (Nat.le_of_ble_eq_true rfl) rfl (fun hv => ?_)
  have h := h (vld_o (by decide) (hv _ (List.Mem.head _))) (hv _ (List.Mem.tail _ (List.Mem.head _)))
  refine r_aload_n dX11_age_0 rfl rfl ?_
  refine gf_X11_38 rfl dX11_age_1 ?_
  refine r_aload_n dX11_age_4 rfl rfl ?_
  refine gf_X11_34 rfl dX11_age_5 ?_
  refine gf_X11_80 rfl dX11_age_8 ?_
  refine r_iload_n dX11_age_11 rfl ?_
  obtain ⟨hb, h⟩ := h
  refine r_iald (n := 8) rfl (by decide) dX11_age_12 hb ?_
  refine r_isub dX11_age_13 ?_
  exact r_iret dX11_age_14 rfl h
set_option maxRecDepth 20000 in
theorem S_X11_isDone {g : GT} {e : Nat} {Q : Int → Sg → Prop} {s : Sg} {th : Int} {v1 : Int} (h : (gr g th ∧ tg th = 19) → inR v1 → (Mw g e M_X11_age [(19, th), (0, v1)] s (fun r1 s2 => ((r1 < (s2 (s2 th 0) 15) → Q 0 s2) ∧ (¬ r1 < (s2 (s2 th 0) 15) → Q 1 s2))))) : Mw g (e + 1) M_X11_isDone [(19, th), (0, v1)] s Q := by
  refine Mw.of (ls := [(19, th), (0, v1)]) pn_X11_isDone (Nat.le_of_ble_eq_true rfl) rfl (fun hv => ?_)
  have h := h (vld_o (by decide) (hv _ (List.Mem.head _))) (hv _ (List.Mem.tail _ (List.Mem.head _)))
  refine r_aload_n dX11_isDone_0 rfl rfl ?_
  refine r_iload_n dX11_isDone_1 rfl ?_
  refine r_callV (ci := 9) (As := [(0, v1)]) (st := []) (by decide) ok_X11_83 rfl rfl (Nat.le_of_ble_eq_true rfl) dX11_isDone_2 h (fun r1 s2 hv h => ?_)
  refine r_aload_n dX11_isDone_5 rfl rfl ?_
  refine gf_X11_34 rfl dX11_isDone_6 ?_
  refine gf_X11_87 rfl dX11_isDone_9 ?_
  refine r_icmp_lt (tgt := 19) dX11_isDone_12 (by decide) (fun hc => ?_) (fun hc => ?_)
  · have h := h.1 hc
    refine r_iconst dX11_isDone_19 (by decide) ?_
    exact r_zret dX11_isDone_20 rfl (by decide) h
  · have h := h.2 hc
    refine r_iconst dX11_isDone_15 (by decide) ?_
    refine r_goto (tgt := 20) dX11_isDone_16 (by decide) ?_
    exact r_zret dX11_isDone_20 rfl (by decide) h
set_option maxRecDepth 20000 in
theorem S_X11_spot {g : GT} {e : Nat} {Q : Int → Sg → Prop} {s : Sg} {v0 : Int} {v1 : Int} {v2 : Int} (h : inR v0 → inR v1 → inR v2 → Q (w32 ((w32 ((w32 ((w32 (v0 * 4)) + v1)) * 4)) + v2)) s) : Mw g (e + 1) M_X11_spot [(0, v0), (0, v1), (0, v2)] s Q := by
  refine Mw.of (ls := [(0, v0), (0, v1), (0, v2)]) pn_X11_spot (Nat.le_of_ble_eq_true rfl) rfl (fun hv => ?_)
  have h := h (hv _ (List.Mem.head _)) (hv _ (List.Mem.tail _ (List.Mem.head _))) (hv _ (List.Mem.tail _ (List.Mem.tail _ (List.Mem.head _))))
  refine r_iload_n dX11_spot_0 rfl ?_
  refine r_iconst dX11_spot_1 (by decide) ?_
  refine r_imul dX11_spot_2 ?_
  refine r_iload_n dX11_spot_3 rfl ?_
  refine r_iadd dX11_spot_4 ?_
  refine r_iconst dX11_spot_5 (by decide) ?_
  refine r_imul dX11_spot_6 ?_
  refine r_iload_n dX11_spot_7 rfl ?_
  refine r_iadd dX11_spot_8 ?_
  exact r_iret dX11_spot_9 rfl h
set_option maxRecDepth 20000 in
theorem S_X11_copy {g : GT} {e : Nat} {Q : Int → Sg → Prop} {s : Sg} {th : Int} {v1 : Int} (h : (gr g th ∧ tg th = 19) → (gr g v1 ∧ tg v1 = 19) → (∀ s1, s1 = ups s th 0 (s v1 0) → (∀ s2, s2 = ups s1 th 1 (s1 v1 1) → (∀ s3, s3 = ups s2 th 2 (s2 v1 2) → (∀ s4, s4 = cpy s3 (v1 + 1) 0 (th + 1) 0 8 → (∀ s5, s5 = cpy s4 (v1 + 2) 0 (th + 2) 0 8 → (∀ s6, s6 = cpy s5 (v1 + 3) 0 (th + 3) 0 8 → (∀ s7, s7 = cpy s6 (v1 + 4) 0 (th + 4) 0 64 → (∀ s8, s8 = cpy s7 (v1 + 5) 0 (th + 5) 0 16 → (Mw g e M_X11_clearCounts [(19, th)] s8 (fun _ s10 => Q 0 s10))))))))))) : Mw g (e + 1) M_X11_copy [(19, th), (19, v1)] s Q := by
  refine Mw.of (ls := [(19, th), (19, v1)]) pn_X11_copy (Nat.le_of_ble_eq_true rfl) rfl (fun hv => ?_)
  have h := h (vld_o (by decide) (hv _ (List.Mem.head _))) (vld_o (by decide) (hv _ (List.Mem.tail _ (List.Mem.head _))))
  refine r_aload_n dX11_copy_0 rfl rfl ?_
  refine r_aload_n dX11_copy_1 rfl rfl ?_
  refine gf_X11_34 rfl dX11_copy_2 ?_
  refine pf_X11_34 rfl dX11_copy_5 ?_
  have h := h _ rfl
  generalize hs_s1 : ups s th 0 (s v1 0) = s1 at h ⊢
  refine r_aload_n dX11_copy_8 rfl rfl ?_
  refine r_aload_n dX11_copy_9 rfl rfl ?_
  refine gf_X11_38 rfl dX11_copy_10 ?_
  refine pf_X11_38 rfl dX11_copy_13 ?_
  have h := h _ rfl
  generalize hs_s2 : ups s1 th 1 (s1 v1 1) = s2 at h ⊢
  refine r_aload_n dX11_copy_16 rfl rfl ?_
  refine r_aload_n dX11_copy_17 rfl rfl ?_
  refine gf_X11_42 rfl dX11_copy_18 ?_
  refine pf_X11_42 rfl dX11_copy_21 ?_
  have h := h _ rfl
  generalize hs_s3 : ups s2 th 2 (s2 v1 2) = s3 at h ⊢
  refine r_aload_n dX11_copy_24 rfl rfl ?_
  refine gf_X11_9 rfl dX11_copy_25 ?_
  refine r_iconst dX11_copy_28 (by decide) ?_
  refine r_aload_n dX11_copy_29 rfl rfl ?_
  refine gf_X11_9 rfl dX11_copy_30 ?_
  refine r_iconst dX11_copy_33 (by decide) ?_
  refine r_bipush dX11_copy_34 (by decide) rfl ?_
  refine r_copy (n0 := 8) (n1 := 8) lm_X11_50 (Nat.le_of_ble_eq_true rfl) rfl (by decide) rfl (by decide) dX11_copy_36 (by decide) ?_
  have h := h _ rfl
  generalize hs_s4 : cpy s3 (v1 + 1) 0 (th + 1) 0 8 = s4 at h ⊢
  refine r_aload_n dX11_copy_39 rfl rfl ?_
  refine gf_X11_15 rfl dX11_copy_40 ?_
  refine r_iconst dX11_copy_43 (by decide) ?_
  refine r_aload_n dX11_copy_44 rfl rfl ?_
  refine gf_X11_15 rfl dX11_copy_45 ?_
  refine r_iconst dX11_copy_48 (by decide) ?_
  refine r_bipush dX11_copy_49 (by decide) rfl ?_
  refine r_copy (n0 := 8) (n1 := 8) lm_X11_50 (Nat.le_of_ble_eq_true rfl) rfl (by decide) rfl (by decide) dX11_copy_51 (by decide) ?_
  have h := h _ rfl
  generalize hs_s5 : cpy s4 (v1 + 2) 0 (th + 2) 0 8 = s5 at h ⊢
  refine r_aload_n dX11_copy_54 rfl rfl ?_
  refine gf_X11_18 rfl dX11_copy_55 ?_
  refine r_iconst dX11_copy_58 (by decide) ?_
  refine r_aload_n dX11_copy_59 rfl rfl ?_
  refine gf_X11_18 rfl dX11_copy_60 ?_
  refine r_iconst dX11_copy_63 (by decide) ?_
  refine r_bipush dX11_copy_64 (by decide) rfl ?_
  refine r_copy (n0 := 8) (n1 := 8) lm_X11_50 (Nat.le_of_ble_eq_true rfl) rfl (by decide) rfl (by decide) dX11_copy_66 (by decide) ?_
  have h := h _ rfl
  generalize hs_s6 : cpy s5 (v1 + 3) 0 (th + 3) 0 8 = s6 at h ⊢
  refine r_aload_n dX11_copy_69 rfl rfl ?_
  refine gf_X11_21 rfl dX11_copy_70 ?_
  refine r_iconst dX11_copy_73 (by decide) ?_
  refine r_aload_n dX11_copy_74 rfl rfl ?_
  refine gf_X11_21 rfl dX11_copy_75 ?_
  refine r_iconst dX11_copy_78 (by decide) ?_
  refine r_aload_n dX11_copy_79 rfl rfl ?_
  refine gf_X11_21 rfl dX11_copy_80 ?_
  refine r_alen (n := 64) rfl (by decide) (by decide) dX11_copy_83 ?_
  refine r_copy (n0 := 64) (n1 := 64) lm_X11_50 (Nat.le_of_ble_eq_true rfl) rfl (by decide) rfl (by decide) dX11_copy_84 (by decide) ?_
  have h := h _ rfl
  generalize hs_s7 : cpy s6 (v1 + 4) 0 (th + 4) 0 64 = s7 at h ⊢
  refine r_aload_n dX11_copy_87 rfl rfl ?_
  refine gf_X11_24 rfl dX11_copy_88 ?_
  refine r_iconst dX11_copy_91 (by decide) ?_
  refine r_aload_n dX11_copy_92 rfl rfl ?_
  refine gf_X11_24 rfl dX11_copy_93 ?_
  refine r_iconst dX11_copy_96 (by decide) ?_
  refine r_aload_n dX11_copy_97 rfl rfl ?_
  refine gf_X11_24 rfl dX11_copy_98 ?_
  refine r_alen (n := 16) rfl (by decide) (by decide) dX11_copy_101 ?_
  refine r_copy (n0 := 16) (n1 := 16) lm_X11_50 (Nat.le_of_ble_eq_true rfl) rfl (by decide) rfl (by decide) dX11_copy_102 (by decide) ?_
  have h := h _ rfl
  generalize hs_s8 : cpy s7 (v1 + 5) 0 (th + 5) 0 16 = s8 at h ⊢
  refine r_aload_n dX11_copy_105 rfl rfl ?_
  refine r_callV (ci := 9) (As := []) (st := []) (by decide) ok_X11_65 rfl rfl (Nat.le_of_ble_eq_true rfl) dX11_copy_106 h (fun r9 s10 hv h => ?_)
  exact r_ret dX11_copy_109 rfl h
set_option maxRecDepth 20000 in
theorem S_X11_where {g : GT} {e : Nat} {Q : Int → Sg → Prop} {s : Sg} {th : Int} {v1 : Int} (h : (gr g th ∧ tg th = 19) → inR v1 → ((0 ≤ v1 ∧ v1 < 8) ∧ (((s (th + 3) v1) = (-1) → (Mw g e M_X11_isDone [(19, th), (0, v1)] s (fun r1 s2 => ((r1 = 0 → (Mw g e M_X11_age [(19, th), (0, v1)] s2 (fun r3 s4 => ((r3 < (s4 (s4 th 0) 14) → Q 0 s4) ∧ (¬ r3 < (s4 (s4 th 0) 14) → Q 1 s4))))) ∧ (¬ r1 = 0 → Q 2 s2))))) ∧ (¬ (s (th + 3) v1) = (-1) → Q 3 s)))) : Mw g (e + 1) M_X11_where [(19, th), (0, v1)] s Q := by
  refine Mw.of (ls := [(19, th), (0, v1)]) pn_X11_where (Nat.le_of_ble_eq_true rfl) rfl (fun hv => ?_)
  have h := h (vld_o (by decide) (hv _ (List.Mem.head _))) (hv _ (List.Mem.tail _ (List.Mem.head _)))
  refine r_aload_n dX11_where_0 rfl rfl ?_
  refine gf_X11_18 rfl dX11_where_1 ?_
  refine r_iload_n dX11_where_4 rfl ?_
  obtain ⟨hb, h⟩ := h
  refine r_iald (n := 8) rfl (by decide) dX11_where_5 hb ?_
  refine r_iconst dX11_where_6 (by decide) ?_
  refine r_icmp_eq (tgt := 12) dX11_where_7 (by decide) (fun hc => ?_) (fun hc => ?_)
  · have h := h.1 hc
    refine r_aload_n dX11_where_12 rfl rfl ?_
    refine r_iload_n dX11_where_13 rfl ?_
    refine r_callV (ci := 9) (As := [(0, v1)]) (st := []) (by decide) ok_X11_90 rfl rfl (Nat.le_of_ble_eq_true rfl) dX11_where_14 h (fun r1 s2 hv h => ?_)
    refine r_if_eq (tgt := 22) dX11_where_17 (by decide) (fun hc => ?_) (fun hc => ?_)
    · have h := h.1 hc
      refine r_aload_n dX11_where_22 rfl rfl ?_
      refine r_iload_n dX11_where_23 rfl ?_
      refine r_callV (ci := 9) (As := [(0, v1)]) (st := []) (by decide) ok_X11_83 rfl rfl (Nat.le_of_ble_eq_true rfl) dX11_where_24 h (fun r3 s4 hv h => ?_)
      refine r_aload_n dX11_where_27 rfl rfl ?_
      refine gf_X11_34 rfl dX11_where_28 ?_
      refine gf_X11_94 rfl dX11_where_31 ?_
      refine r_icmp_lt (tgt := 41) dX11_where_34 (by decide) (fun hc => ?_) (fun hc => ?_)
      · have h := h.1 hc
        refine r_iconst dX11_where_41 (by decide) ?_
        exact r_iret dX11_where_42 rfl h
      · have h := h.2 hc
        refine r_iconst dX11_where_37 (by decide) ?_
        refine r_goto (tgt := 42) dX11_where_38 (by decide) ?_
        exact r_iret dX11_where_42 rfl h
    · have h := h.2 hc
      refine r_iconst dX11_where_20 (by decide) ?_
      exact r_iret dX11_where_21 rfl h
  · have h := h.2 hc
    refine r_iconst dX11_where_10 (by decide) ?_
    exact r_iret dX11_where_11 rfl h
abbrev P_X11_raise_2 (g : GT) (e : Nat) (Q : Int → Sg → Prop) (s : Sg) (th : Int) (v1 : Int) : Prop := Wp g (e + 1) M_X11_raise Q 2 [(19, th), (0, v1)] [] s
set_option maxRecDepth 20000 in
theorem S_X11_raise_2 {g : GT} {e : Nat} {Q : Int → Sg → Prop} {s : Sg} {th : Int} {v1 : Int} (h : (Mw g e M_X9_childCount [(18, (s th 0))] s (fun r1 s2 => ((r1 ≤ v1 → Q 0 s2) ∧ (¬ r1 ≤ v1 → (Mw g e M_X11_where [(19, th), (0, v1)] s2 (fun r3 s4 => ((¬ r3 = 1 → P_X11_raise_2 g e Q s4 th (w32 (v1 + 1))) ∧ (r3 = 1 → ((0 ≤ v1 ∧ v1 < 8) ∧ (Mw g e M_X11_age [(19, th), (0, v1)] s4 (fun r5 s6 => ((0 ≤ v1 ∧ v1 < 8) ∧ (Mw g e M_X9_grown [(18, (s4 th 0)), (0, (s4 (th + 1) v1)), (0, r5), (0, (s6 (th + 2) v1)), (0, (s6 th 1))] s6 (fun r7 s8 => ((0 ≤ v1 ∧ v1 < 8) ∧ ∀ s9, s9 = ups s8 (th + 2) v1 r7 → P_X11_raise_2 g e Q s9 th (w32 (v1 + 1)))))))))))))))))) : P_X11_raise_2 g e Q s th v1 := by
  refine r_iload_n dX11_raise_2 rfl ?_
  refine r_aload_n dX11_raise_3 rfl rfl ?_
  refine gf_X11_34 rfl dX11_raise_4 ?_
  refine r_callV (ci := 8) (As := []) (st := [(0, v1)]) (by decide) ok_X11_97 rfl rfl (Nat.le_of_ble_eq_true rfl) dX11_raise_7 h (fun r1 s2 hv h => ?_)
  refine r_icmp_ge (tgt := 62) dX11_raise_10 (by decide) (fun hc => ?_) (fun hc => ?_)
  · have h := h.1 hc
    exact r_ret dX11_raise_62 rfl h
  · have h := h.2 hc
    refine r_aload_n dX11_raise_13 rfl rfl ?_
    refine r_iload_n dX11_raise_14 rfl ?_
    refine r_callV (ci := 9) (As := [(0, v1)]) (st := []) (by decide) ok_X11_101 rfl rfl (Nat.le_of_ble_eq_true rfl) dX11_raise_15 h (fun r3 s4 hv h => ?_)
    refine r_iconst dX11_raise_18 (by decide) ?_
    refine r_icmp_ne (tgt := 56) dX11_raise_19 (by decide) (fun hc => ?_) (fun hc => ?_)
    · have h := h.1 hc
      refine r_iinc (ls2 := [(19, th), (0, (w32 (v1 + 1)))]) dX11_raise_56 rfl (by decide) rfl ?_
      refine r_goto (tgt := 2) dX11_raise_59 (by decide) ?_
      exact h
    · have h := h.2 hc
      refine r_aload_n dX11_raise_22 rfl rfl ?_
      refine gf_X11_15 rfl dX11_raise_23 ?_
      refine r_iload_n dX11_raise_26 rfl ?_
      refine r_aload_n dX11_raise_27 rfl rfl ?_
      refine gf_X11_34 rfl dX11_raise_28 ?_
      refine r_aload_n dX11_raise_31 rfl rfl ?_
      refine gf_X11_9 rfl dX11_raise_32 ?_
      refine r_iload_n dX11_raise_35 rfl ?_
      obtain ⟨hb, h⟩ := h
      refine r_iald (n := 8) rfl (by decide) dX11_raise_36 hb ?_
      refine r_aload_n dX11_raise_37 rfl rfl ?_
      refine r_iload_n dX11_raise_38 rfl ?_
      refine r_callV (ci := 9) (As := [(0, v1)]) (st := [(0, (s4 (th + 1) v1)), (18, (s4 th 0)), (0, v1), (33, (th + 2))]) (by decide) ok_X11_83 rfl rfl (Nat.le_of_ble_eq_true rfl) dX11_raise_39 h (fun r5 s6 hv h => ?_)
      refine r_aload_n dX11_raise_42 rfl rfl ?_
      refine gf_X11_15 rfl dX11_raise_43 ?_
      refine r_iload_n dX11_raise_46 rfl ?_
      obtain ⟨hb, h⟩ := h
      refine r_iald (n := 8) rfl (by decide) dX11_raise_47 hb ?_
      refine r_aload_n dX11_raise_48 rfl rfl ?_
      refine gf_X11_38 rfl dX11_raise_49 ?_
      refine r_callV (ci := 8) (As := [(0, (s4 (th + 1) v1)), (0, r5), (0, (s6 (th + 2) v1)), (0, (s6 th 1))]) (st := [(0, v1), (33, (th + 2))]) (by decide) ok_X11_152 rfl rfl (Nat.le_of_ble_eq_true rfl) dX11_raise_52 h (fun r7 s8 hv h => ?_)
      obtain ⟨hb, h⟩ := h
      refine r_iast (n := 8) rfl (by decide) dX11_raise_55 hb ?_
      have h := h _ rfl
      generalize hs_s9 : ups s8 (th + 2) v1 r7 = s9 at h ⊢
      refine r_iinc (ls2 := [(19, th), (0, (w32 (v1 + 1)))]) dX11_raise_56 rfl (by decide) rfl ?_
      refine r_goto (tgt := 2) dX11_raise_59 (by decide) ?_
      exact h
set_option maxRecDepth 20000 in
theorem S_X11_raise {g : GT} {e : Nat} {Q : Int → Sg → Prop} {s : Sg} {th : Int} (h : (gr g th ∧ tg th = 19) → P_X11_raise_2 g e Q s th 0) : Mw g (e + 1) M_X11_raise [(19, th)] s Q := by
  refine Mw.of (ls := [(19, th), (9, 0)]) pn_X11_raise (Nat.le_of_ble_eq_true rfl) rfl (fun hv => ?_)
  have h := h (vld_o (by decide) (hv _ (List.Mem.head _)))
  refine r_iconst dX11_raise_0 (by decide) ?_
  refine r_istore_n (ls2 := [(19, th), (0, 0)]) dX11_raise_1 (by decide) rfl ?_
  exact h
abbrev P_X11_freeze_2 (g : GT) (e : Nat) (Q : Int → Sg → Prop) (s : Sg) (th : Int) (v1 : Int) : Prop := Wp g (e + 1) M_X11_freeze Q 2 [(19, th), (0, v1)] [] s
set_option maxRecDepth 20000 in
theorem S_X11_freeze_2 {g : GT} {e : Nat} {Q : Int → Sg → Prop} {s : Sg} {th : Int} {v1 : Int} (h : (Mw g e M_X9_childCount [(18, (s th 0))] s (fun r1 s2 => ((r1 ≤ v1 → Q 0 s2) ∧ (¬ r1 ≤ v1 → ((0 ≤ v1 ∧ v1 < 8) ∧ (((s2 (th + 3) v1) = (-1) → P_X11_freeze_2 g e Q s2 th (w32 (v1 + 1))) ∧ (¬ (s2 (th + 3) v1) = (-1) → ((0 ≤ v1 ∧ v1 < 8) ∧ ((0 ≤ v1 ∧ v1 < 8) ∧ ∀ s3, s3 = ups s2 (th + 2) v1 (max 0 (w32 ((s2 (th + 2) v1) - (s2 (s2 th 0) 18)))) → P_X11_freeze_2 g e Q s3 th (w32 (v1 + 1)))))))))))) : P_X11_freeze_2 g e Q s th v1 := by
  refine r_iload_n dX11_freeze_2 rfl ?_
  refine r_aload_n dX11_freeze_3 rfl rfl ?_
  refine gf_X11_34 rfl dX11_freeze_4 ?_
  refine r_callV (ci := 8) (As := []) (st := [(0, v1)]) (by decide) ok_X11_97 rfl rfl (Nat.le_of_ble_eq_true rfl) dX11_freeze_7 h (fun r1 s2 hv h => ?_)
  refine r_icmp_ge (tgt := 53) dX11_freeze_10 (by decide) (fun hc => ?_) (fun hc => ?_)
  · have h := h.1 hc
    exact r_ret dX11_freeze_53 rfl h
  · have h := h.2 hc
    refine r_aload_n dX11_freeze_13 rfl rfl ?_
    refine gf_X11_18 rfl dX11_freeze_14 ?_
    refine r_iload_n dX11_freeze_17 rfl ?_
    obtain ⟨hb, h⟩ := h
    refine r_iald (n := 8) rfl (by decide) dX11_freeze_18 hb ?_
    refine r_iconst dX11_freeze_19 (by decide) ?_
    refine r_icmp_eq (tgt := 47) dX11_freeze_20 (by decide) (fun hc => ?_) (fun hc => ?_)
    · have h := h.1 hc
      refine r_iinc (ls2 := [(19, th), (0, (w32 (v1 + 1)))]) dX11_freeze_47 rfl (by decide) rfl ?_
      refine r_goto (tgt := 2) dX11_freeze_50 (by decide) ?_
      exact h
    · have h := h.2 hc
      refine r_aload_n dX11_freeze_23 rfl rfl ?_
      refine gf_X11_15 rfl dX11_freeze_24 ?_
      refine r_iload_n dX11_freeze_27 rfl ?_
      refine r_iconst dX11_freeze_28 (by decide) ?_
      refine r_aload_n dX11_freeze_29 rfl rfl ?_
      refine gf_X11_15 rfl dX11_freeze_30 ?_
      refine r_iload_n dX11_freeze_33 rfl ?_
      obtain ⟨hb, h⟩ := h
      refine r_iald (n := 8) rfl (by decide) dX11_freeze_34 hb ?_
      refine r_aload_n dX11_freeze_35 rfl rfl ?_
      refine gf_X11_34 rfl dX11_freeze_36 ?_
      refine gf_X11_156 rfl dX11_freeze_39 ?_
      refine r_isub dX11_freeze_42 ?_
      refine r_maxI lm_X11_129 (Nat.le_of_ble_eq_true rfl) dX11_freeze_43 ?_
      obtain ⟨hb, h⟩ := h
      refine r_iast (n := 8) rfl (by decide) dX11_freeze_46 hb ?_
      have h := h _ rfl
      generalize hs_s3 : ups s2 (th + 2) v1 (max 0 (w32 ((s2 (th + 2) v1) - (s2 (s2 th 0) 18)))) = s3 at h ⊢
      refine r_iinc (ls2 := [(19, th), (0, (w32 (v1 + 1)))]) dX11_freeze_47 rfl (by decide) rfl ?_
      refine r_goto (tgt := 2) dX11_freeze_50 (by decide) ?_
      exact h
set_option maxRecDepth 20000 in
theorem S_X11_freeze {g : GT} {e : Nat} {Q : Int → Sg → Prop} {s : Sg} {th : Int} (h : (gr g th ∧ tg th = 19) → P_X11_freeze_2 g e Q s th 0) : Mw g (e + 1) M_X11_freeze [(19, th)] s Q := by
  refine Mw.of (ls := [(19, th), (9, 0)]) pn_X11_freeze (Nat.le_of_ble_eq_true rfl) rfl (fun hv => ?_)
  have h := h (vld_o (by decide) (hv _ (List.Mem.head _)))
  refine r_iconst dX11_freeze_0 (by decide) ?_
  refine r_istore_n (ls2 := [(19, th), (0, 0)]) dX11_freeze_1 (by decide) rfl ?_
  exact h
abbrev P_X11_bears_69 (g : GT) (e : Nat) (Q : Int → Sg → Prop) (s : Sg) (v3 : Int) : Prop := Wp g (e + 1) M_X11_bears Q 69 [(9, 0), (9, 0), (9, 0), (0, v3), (9, 0), (9, 0)] [] s
abbrev P_X11_bears_70 (g : GT) (e : Nat) (Q : Int → Sg → Prop) (s : Sg) (v3 : Int) (x0 : Int) : Prop := Wp g (e + 1) M_X11_bears Q 70 [(9, 0), (9, 0), (9, 0), (0, v3), (9, 0), (9, 0)] [(0, x0)] s
set_option maxRecDepth 20000 in
theorem S_X11_bears_69 {g : GT} {e : Nat} {Q : Int → Sg → Prop} {s : Sg} {v3 : Int} (h : P_X11_bears_70 g e Q s v3 0) : P_X11_bears_69 g e Q s v3 := by
  refine r_iconst dX11_bears_69 (by decide) ?_
  exact h
set_option maxRecDepth 20000 in
theorem S_X11_bears_70 {g : GT} {e : Nat} {Q : Int → Sg → Prop} {s : Sg} {v3 : Int} {x0 : Int} (h : ((x0 = 0 → Q (w32 (Int.tdiv v3 2)) s) ∧ (¬ x0 = 0 → Q v3 s))) : P_X11_bears_70 g e Q s v3 x0 := by
  refine r_istore (ls2 := [(9, 0), (9, 0), (9, 0), (0, v3), (9, 0), (0, x0)]) dX11_bears_70 (by decide) rfl ?_
  refine r_iload dX11_bears_72 rfl ?_
  refine r_if_eq (tgt := 81) dX11_bears_74 (by decide) (fun hc => ?_) (fun hc => ?_)
  · have h := h.1 hc
    refine r_iload_n dX11_bears_81 rfl ?_
    refine r_iconst dX11_bears_82 (by decide) ?_
    refine r_idiv dX11_bears_83 (by decide) ?_
    exact r_iret dX11_bears_84 rfl h
  · have h := h.2 hc
    refine r_iload_n dX11_bears_77 rfl ?_
    refine r_goto (tgt := 84) dX11_bears_78 (by decide) ?_
    exact r_iret dX11_bears_84 rfl h
set_option maxRecDepth 20000 in
theorem S_X11_bears {g : GT} {e : Nat} {Q : Int → Sg → Prop} {s : Sg} {th : Int} {v1 : Int} {v2 : Int} (h : (gr g th ∧ tg th = 19) → inR v1 → inR v2 → ((0 ≤ v1 ∧ v1 < 8) ∧ ((0 ≤ v1 ∧ v1 < 8) ∧ ((¬ (s ((s th 0) + 10) v1) = (-1) → ((0 ≤ (s ((s th 0) + 10) v1) ∧ (s ((s th 0) + 10) v1) < 8) ∧ (((s (th + 3) (s ((s th 0) + 10) v1)) = (-1) → P_X11_bears_69 g e Q s (max 0 (w32 ((s (th + 2) v1) - v2)))) ∧ (¬ (s (th + 3) (s ((s th 0) + 10) v1)) = (-1) → ((0 ≤ (s ((s th 0) + 10) v1) ∧ (s ((s th 0) + 10) v1) < 8) ∧ (Mw g e M_X11_wallAt [(0, (s (th + 3) (s ((s th 0) + 10) v1)))] s (fun r1 s2 => ((0 ≤ v1 ∧ v1 < 8) ∧ (Mw g e M_X11_wallAt [(0, (s2 (th + 3) v1))] s2 (fun r3 s4 => ((¬ r1 = r3 → P_X11_bears_69 g e Q s4 (max 0 (w32 ((s (th + 2) v1) - v2)))) ∧ (r1 = r3 → P_X11_bears_70 g e Q s4 (max 0 (w32 ((s (th + 2) v1) - v2))) 1)))))))))))) ∧ ((s ((s th 0) + 10) v1) = (-1) → Q (max 0 (w32 ((s (th + 2) v1) - v2))) s))))) : Mw g (e + 1) M_X11_bears [(19, th), (0, v1), (0, v2)] s Q := by
  refine Mw.of (ls := [(19, th), (0, v1), (0, v2), (9, 0), (9, 0), (9, 0)]) pn_X11_bears (Nat.le_of_ble_eq_true rfl) rfl (fun hv => ?_)
  have h := h (vld_o (by decide) (hv _ (List.Mem.head _))) (hv _ (List.Mem.tail _ (List.Mem.head _))) (hv _ (List.Mem.tail _ (List.Mem.tail _ (List.Mem.head _))))
  refine r_iconst dX11_bears_0 (by decide) ?_
  refine r_aload_n dX11_bears_1 rfl rfl ?_
  refine gf_X11_15 rfl dX11_bears_2 ?_
  refine r_iload_n dX11_bears_5 rfl ?_
  obtain ⟨hb, h⟩ := h
  refine r_iald (n := 8) rfl (by decide) dX11_bears_6 hb ?_
  refine r_iload_n dX11_bears_7 rfl ?_
  refine r_isub dX11_bears_8 ?_
  refine r_maxI lm_X11_129 (Nat.le_of_ble_eq_true rfl) dX11_bears_9 ?_
  refine r_istore_n (ls2 := [(19, th), (0, v1), (0, v2), (0, (max 0 (w32 ((s (th + 2) v1) - v2)))), (9, 0), (9, 0)]) dX11_bears_12 (by decide) rfl ?_
  refine r_aload_n dX11_bears_13 rfl rfl ?_
  refine gf_X11_34 rfl dX11_bears_14 ?_
  refine gf_X11_134 rfl dX11_bears_17 ?_
  refine r_iload_n dX11_bears_20 rfl ?_
  obtain ⟨hb, h⟩ := h
  refine r_iald (n := 8) rfl (by decide) dX11_bears_21 hb ?_
  refine r_istore (ls2 := [(19, th), (0, v1), (0, v2), (0, (max 0 (w32 ((s (th + 2) v1) - v2)))), (0, (s ((s th 0) + 10) v1)), (9, 0)]) dX11_bears_22 (by decide) rfl ?_
  refine r_iload dX11_bears_24 rfl ?_
  refine r_iconst dX11_bears_26 (by decide) ?_
  refine r_icmp_ne (tgt := 32) dX11_bears_27 (by decide) (fun hc => ?_) (fun hc => ?_)
  · have h := h.1 hc
    refine r_aload_n dX11_bears_32 rfl rfl ?_
    refine gf_X11_18 rfl dX11_bears_33 ?_
    refine r_iload dX11_bears_36 rfl ?_
    obtain ⟨hb, h⟩ := h
    refine r_iald (n := 8) rfl (by decide) dX11_bears_38 hb ?_
    refine r_iconst dX11_bears_39 (by decide) ?_
    refine r_icmp_eq (tgt := 69) dX11_bears_40 (by decide) (fun hc => ?_) (fun hc => ?_)
    · have h := h.1 hc
      exact r_fgt [false, false, false, true, false, false] rfl h
    · have h := h.2 hc
      refine r_aload_n dX11_bears_43 rfl rfl ?_
      refine gf_X11_18 rfl dX11_bears_44 ?_
      refine r_iload dX11_bears_47 rfl ?_
      obtain ⟨hb, h⟩ := h
      refine r_iald (n := 8) rfl (by decide) dX11_bears_49 hb ?_
      refine r_callS (As := [(0, (s (th + 3) (s ((s th 0) + 10) v1)))]) (st := []) ok_X11_116 rfl rfl (Nat.le_of_ble_eq_true rfl) dX11_bears_50 h (fun r1 s2 hv h => ?_)
      refine r_aload_n dX11_bears_53 rfl rfl ?_
      refine gf_X11_18 rfl dX11_bears_54 ?_
      refine r_iload_n dX11_bears_57 rfl ?_
      obtain ⟨hb, h⟩ := h
      refine r_iald (n := 8) rfl (by decide) dX11_bears_58 hb ?_
      refine r_callS (As := [(0, (s2 (th + 3) v1))]) (st := [(0, r1)]) ok_X11_116 rfl rfl (Nat.le_of_ble_eq_true rfl) dX11_bears_59 h (fun r3 s4 hv h => ?_)
      refine r_icmp_ne (tgt := 69) dX11_bears_62 (by decide) (fun hc => ?_) (fun hc => ?_)
      · have h := h.1 hc
        exact r_fgt [false, false, false, true, false, false] rfl h
      · have h := h.2 hc
        refine r_iconst dX11_bears_65 (by decide) ?_
        refine r_goto (tgt := 70) dX11_bears_66 (by decide) ?_
        exact r_fgt [false, false, false, true, false, false] rfl h
  · have h := h.2 hc
    refine r_iload_n dX11_bears_30 rfl ?_
    exact r_iret dX11_bears_31 rfl h
set_option maxRecDepth 20000 in
theorem S_X11_loadAt {g : GT} {e : Nat} {Q : Int → Sg → Prop} {s : Sg} {th : Int} {v1 : Int} (h : (gr g th ∧ tg th = 19) → inR v1 → ((0 ≤ (w32 (Int.tdiv v1 4)) ∧ (w32 (Int.tdiv v1 4)) < 16) ∧ Q (w32 ((w32 ((w32 ((s (th + 5) (w32 (Int.tdiv v1 4))) - 1)) - (Int.tmod v1 4))) * (s (s th 0) 16))) s)) : Mw g (e + 1) M_X11_loadAt [(19, th), (0, v1)] s Q := by
  refine Mw.of (ls := [(19, th), (0, v1)]) pn_X11_loadAt (Nat.le_of_ble_eq_true rfl) rfl (fun hv => ?_)
  have h := h (vld_o (by decide) (hv _ (List.Mem.head _))) (hv _ (List.Mem.tail _ (List.Mem.head _)))
  refine r_aload_n dX11_loadAt_0 rfl rfl ?_
  refine gf_X11_24 rfl dX11_loadAt_1 ?_
  refine r_iload_n dX11_loadAt_4 rfl ?_
  refine r_iconst dX11_loadAt_5 (by decide) ?_
  refine r_idiv dX11_loadAt_6 (by decide) ?_
  obtain ⟨hb, h⟩ := h
  refine r_iald (n := 16) rfl (by decide) dX11_loadAt_7 hb ?_
  refine r_iconst dX11_loadAt_8 (by decide) ?_
  refine r_isub dX11_loadAt_9 ?_
  refine r_iload_n dX11_loadAt_10 rfl ?_
  refine r_iconst dX11_loadAt_11 (by decide) ?_
  refine r_irem dX11_loadAt_12 (by decide) ?_
  refine r_isub dX11_loadAt_13 ?_
  refine r_aload_n dX11_loadAt_14 rfl rfl ?_
  refine gf_X11_34 rfl dX11_loadAt_15 ?_
  refine gf_X11_126 rfl dX11_loadAt_18 ?_
  refine r_imul dX11_loadAt_21 ?_
  exact r_iret dX11_loadAt_22 rfl h
abbrev P_X11_weakSpot_7 (g : GT) (e : Nat) (Q : Int → Sg → Prop) (s : Sg) (th : Int) (v2 : Int) (v3 : Int) : Prop := Wp g (e + 1) M_X11_weakSpot Q 7 [(19, th), (9, 0), (0, v2), (0, v3), (9, 0)] [] s
set_option maxRecDepth 20000 in
theorem S_X11_weakSpot_7 {g : GT} {e : Nat} {Q : Int → Sg → Prop} {s : Sg} {th : Int} {v2 : Int} {v3 : Int} (h : (((w32 (v2 + 16)) ≤ v3 → Q (-1) s) ∧ (¬ (w32 (v2 + 16)) ≤ v3 → ((0 ≤ v3 ∧ v3 < 64) ∧ (((s (th + 4) v3) = (-1) → P_X11_weakSpot_7 g e Q s th v2 (w32 (v3 + 1))) ∧ (¬ (s (th + 4) v3) = (-1) → (Mw g e M_X11_bears [(19, th), (0, (s (th + 4) v3)), (0, 0)] s (fun r1 s2 => (Mw g e M_X11_loadAt [(19, th), (0, v3)] s2 (fun r3 s4 => ((r3 ≤ r1 → P_X11_weakSpot_7 g e Q s4 th v2 (w32 (v3 + 1))) ∧ (¬ r3 ≤ r1 → Q v3 s4)))))))))))) : P_X11_weakSpot_7 g e Q s th v2 v3 := by
  refine r_iload_n dX11_weakSpot_7 rfl ?_
  refine r_iload_n dX11_weakSpot_8 rfl ?_
  refine r_bipush dX11_weakSpot_9 (by decide) rfl ?_
  refine r_iadd dX11_weakSpot_11 ?_
  refine r_icmp_ge (tgt := 52) dX11_weakSpot_12 (by decide) (fun hc => ?_) (fun hc => ?_)
  · have h := h.1 hc
    refine r_iconst dX11_weakSpot_52 (by decide) ?_
    exact r_iret dX11_weakSpot_53 rfl h
  · have h := h.2 hc
    refine r_aload_n dX11_weakSpot_15 rfl rfl ?_
    refine gf_X11_21 rfl dX11_weakSpot_16 ?_
    refine r_iload_n dX11_weakSpot_19 rfl ?_
    obtain ⟨hb, h⟩ := h
    refine r_iald (n := 64) rfl (by decide) dX11_weakSpot_20 hb ?_
    refine r_istore (ls2 := [(19, th), (9, 0), (0, v2), (0, v3), (0, (s (th + 4) v3))]) dX11_weakSpot_21 (by decide) rfl ?_
    refine r_iload dX11_weakSpot_23 rfl ?_
    refine r_iconst dX11_weakSpot_25 (by decide) ?_
    refine r_icmp_eq (tgt := 46) dX11_weakSpot_26 (by decide) (fun hc => ?_) (fun hc => ?_)
    · have h := h.1 hc
      refine r_iinc (ls2 := [(19, th), (9, 0), (0, v2), (0, (w32 (v3 + 1))), (0, (s (th + 4) v3))]) dX11_weakSpot_46 rfl (by decide) rfl ?_
      refine r_goto (tgt := 7) dX11_weakSpot_49 (by decide) ?_
      exact r_fgt [true, false, true, true, false] rfl h
    · have h := h.2 hc
      refine r_aload_n dX11_weakSpot_29 rfl rfl ?_
      refine r_iload dX11_weakSpot_30 rfl ?_
      refine r_iconst dX11_weakSpot_32 (by decide) ?_
      refine r_callV (ci := 9) (As := [(0, (s (th + 4) v3)), (0, 0)]) (st := []) (by decide) ok_X11_122 rfl rfl (Nat.le_of_ble_eq_true rfl) dX11_weakSpot_33 h (fun r1 s2 hv h => ?_)
      refine r_aload_n dX11_weakSpot_36 rfl rfl ?_
      refine r_iload_n dX11_weakSpot_37 rfl ?_
      refine r_callV (ci := 9) (As := [(0, v3)]) (st := [(0, r1)]) (by decide) ok_X11_119 rfl rfl (Nat.le_of_ble_eq_true rfl) dX11_weakSpot_38 h (fun r3 s4 hv h => ?_)
      refine r_icmp_ge (tgt := 46) dX11_weakSpot_41 (by decide) (fun hc => ?_) (fun hc => ?_)
      · have h := h.1 hc
        refine r_iinc (ls2 := [(19, th), (9, 0), (0, v2), (0, (w32 (v3 + 1))), (0, (s (th + 4) v3))]) dX11_weakSpot_46 rfl (by decide) rfl ?_
        refine r_goto (tgt := 7) dX11_weakSpot_49 (by decide) ?_
        exact r_fgt [true, false, true, true, false] rfl h
      · have h := h.2 hc
        refine r_iload_n dX11_weakSpot_44 rfl ?_
        exact r_iret dX11_weakSpot_45 rfl h
set_option maxRecDepth 20000 in
theorem S_X11_weakSpot {g : GT} {e : Nat} {Q : Int → Sg → Prop} {s : Sg} {th : Int} {v1 : Int} (h : (gr g th ∧ tg th = 19) → inR v1 → P_X11_weakSpot_7 g e Q s th (w32 (v1 * 16)) (w32 (v1 * 16))) : Mw g (e + 1) M_X11_weakSpot [(19, th), (0, v1)] s Q := by
  refine Mw.of (ls := [(19, th), (0, v1), (9, 0), (9, 0), (9, 0)]) pn_X11_weakSpot (Nat.le_of_ble_eq_true rfl) rfl (fun hv => ?_)
  have h := h (vld_o (by decide) (hv _ (List.Mem.head _))) (hv _ (List.Mem.tail _ (List.Mem.head _)))
  refine r_iload_n dX11_weakSpot_0 rfl ?_
  refine r_bipush dX11_weakSpot_1 (by decide) rfl ?_
  refine r_imul dX11_weakSpot_3 ?_
  refine r_istore_n (ls2 := [(19, th), (0, v1), (0, (w32 (v1 * 16))), (9, 0), (9, 0)]) dX11_weakSpot_4 (by decide) rfl ?_
  refine r_iload_n dX11_weakSpot_5 rfl ?_
  refine r_istore_n (ls2 := [(19, th), (0, v1), (0, (w32 (v1 * 16))), (0, (w32 (v1 * 16))), (9, 0)]) dX11_weakSpot_6 (by decide) rfl ?_
  exact r_fgt [true, false, true, true, false] rfl h
set_option maxRecDepth 20000 in
theorem S_X11_lift {g : GT} {e : Nat} {Q : Int → Sg → Prop} {s : Sg} {th : Int} {v1 : Int} (h : (gr g th ∧ tg th = 19) → inR v1 → ((0 ≤ v1 ∧ v1 < 8) ∧ (((s (th + 3) v1) = (-1) → Q 0 s) ∧ (¬ (s (th + 3) v1) = (-1) → ((0 ≤ v1 ∧ v1 < 8) ∧ ∀ s1, s1 = ups s (th + 3) v1 (-1) → ((0 ≤ (s (th + 3) v1) ∧ (s (th + 3) v1) < 64) ∧ ∀ s2, s2 = ups s1 (th + 4) (s (th + 3) v1) (-1) → ((0 ≤ (w32 (Int.tdiv (s (th + 3) v1) 4)) ∧ (w32 (Int.tdiv (s (th + 3) v1) 4)) < 16) ∧ ((0 ≤ (w32 (Int.tdiv (s (th + 3) v1) 4)) ∧ (w32 (Int.tdiv (s (th + 3) v1) 4)) < 16) ∧ ∀ s3, s3 = ups s2 (th + 5) (w32 (Int.tdiv (s (th + 3) v1) 4)) (w32 ((s2 (th + 5) (w32 (Int.tdiv (s (th + 3) v1) 4))) - 1)) → Q 0 s3)))))))) : Mw g (e + 1) M_X11_lift [(19, th), (0, v1)] s Q := by
  refine Mw.of (ls := [(19, th), (0, v1), (9, 0)]) pn_X11_lift (Nat.le_of_ble_eq_true rfl) rfl (fun hv => ?_)
  have h := h (vld_o (by decide) (hv _ (List.Mem.head _))) (hv _ (List.Mem.tail _ (List.Mem.head _)))
  refine r_aload_n dX11_lift_0 rfl rfl ?_
  refine gf_X11_18 rfl dX11_lift_1 ?_
  refine r_iload_n dX11_lift_4 rfl ?_
  obtain ⟨hb, h⟩ := h
  refine r_iald (n := 8) rfl (by decide) dX11_lift_5 hb ?_
  refine r_istore_n (ls2 := [(19, th), (0, v1), (0, (s (th + 3) v1))]) dX11_lift_6 (by decide) rfl ?_
  refine r_iload_n dX11_lift_7 rfl ?_
  refine r_iconst dX11_lift_8 (by decide) ?_
  refine r_icmp_eq (tgt := 38) dX11_lift_9 (by decide) (fun hc => ?_) (fun hc => ?_)
  · have h := h.1 hc
    exact r_ret dX11_lift_38 rfl h
  · have h := h.2 hc
    refine r_aload_n dX11_lift_12 rfl rfl ?_
    refine gf_X11_18 rfl dX11_lift_13 ?_
    refine r_iload_n dX11_lift_16 rfl ?_
    refine r_iconst dX11_lift_17 (by decide) ?_
    obtain ⟨hb, h⟩ := h
    refine r_iast (n := 8) rfl (by decide) dX11_lift_18 hb ?_
    have h := h _ rfl
    generalize hs_s1 : ups s (th + 3) v1 (-1) = s1 at h ⊢
    refine r_aload_n dX11_lift_19 rfl rfl ?_
    refine gf_X11_21 rfl dX11_lift_20 ?_
    refine r_iload_n dX11_lift_23 rfl ?_
    refine r_iconst dX11_lift_24 (by decide) ?_
    obtain ⟨hb, h⟩ := h
    refine r_iast (n := 64) rfl (by decide) dX11_lift_25 hb ?_
    have h := h _ rfl
    generalize hs_s2 : ups s1 (th + 4) (s (th + 3) v1) (-1) = s2 at h ⊢
    refine r_aload_n dX11_lift_26 rfl rfl ?_
    refine gf_X11_24 rfl dX11_lift_27 ?_
    refine r_iload_n dX11_lift_30 rfl ?_
    refine r_iconst dX11_lift_31 (by decide) ?_
    refine r_idiv dX11_lift_32 (by decide) ?_
    refine r_dup2 dX11_lift_33 (show (0 : Nat) ≠ 2 by decide) (show (40 : Nat) ≠ 2 by decide) ?_
    obtain ⟨hb, h⟩ := h
    refine r_iald (n := 16) rfl (by decide) dX11_lift_34 hb ?_
    refine r_iconst dX11_lift_35 (by decide) ?_
    refine r_isub dX11_lift_36 ?_
    obtain ⟨hb, h⟩ := h
    refine r_iast (n := 16) rfl (by decide) dX11_lift_37 hb ?_
    have h := h _ rfl
    generalize hs_s3 : ups s2 (th + 5) (w32 (Int.tdiv (s (th + 3) v1) 4)) (w32 ((s2 (th + 5) (w32 (Int.tdiv (s (th + 3) v1) 4))) - 1)) = s3 at h ⊢
    exact r_ret dX11_lift_38 rfl h
abbrev P_X11_keep_34 (g : GT) (e : Nat) (Q : Int → Sg → Prop) (s : Sg) (th : Int) (v1 : Int) (v2 : Int) (v3 : Int) : Prop := Wp g (e + 1) M_X11_keep Q 34 [(19, th), (0, v1), (0, v2), (0, v3)] [] s
set_option maxRecDepth 20000 in
theorem S_X11_keep_34 {g : GT} {e : Nat} {Q : Int → Sg → Prop} {s : Sg} {th : Int} {v1 : Int} {v2 : Int} {v3 : Int} (h : ((0 ≤ (s th 9) ∧ (s th 9) < 60) ∧ ∀ s1, s1 = ups s (th + 6) (s th 9) (bOr (bOr (bOr (bShl (s th 1) 6) (bShl v1 3)) (bShl v2 1)) v3) → (∀ s2, s2 = ups s1 th 9 (w32 ((s1 th 9) + 1)) → Q 0 s2))) : P_X11_keep_34 g e Q s th v1 v2 v3 := by
  refine r_aload_n dX11_keep_34 rfl rfl ?_
  refine gf_X11_27 rfl dX11_keep_35 ?_
  refine r_aload_n dX11_keep_38 rfl rfl ?_
  refine gf_X11_68 rfl dX11_keep_39 ?_
  refine r_aload_n dX11_keep_42 rfl rfl ?_
  refine gf_X11_38 rfl dX11_keep_43 ?_
  refine r_bipush dX11_keep_46 (by decide) rfl ?_
  refine r_ishl dX11_keep_48 ?_
  refine r_iload_n dX11_keep_49 rfl ?_
  refine r_iconst dX11_keep_50 (by decide) ?_
  refine r_ishl dX11_keep_51 ?_
  refine r_ior dX11_keep_52 ?_
  refine r_iload_n dX11_keep_53 rfl ?_
  refine r_iconst dX11_keep_54 (by decide) ?_
  refine r_ishl dX11_keep_55 ?_
  refine r_ior dX11_keep_56 ?_
  refine r_iload_n dX11_keep_57 rfl ?_
  refine r_ior dX11_keep_58 ?_
  obtain ⟨hb, h⟩ := h
  refine r_iast (n := 60) rfl (by decide) dX11_keep_59 hb ?_
  have h := h _ rfl
  generalize hs_s1 : ups s (th + 6) (s th 9) (bOr (bOr (bOr (bShl (s th 1) 6) (bShl v1 3)) (bShl v2 1)) v3) = s1 at h ⊢
  refine r_aload_n dX11_keep_60 rfl rfl ?_
  refine r_dup dX11_keep_61 (show (19 : Nat) ≠ 2 by decide) ?_
  refine gf_X11_68 rfl dX11_keep_62 ?_
  refine r_iconst dX11_keep_65 (by decide) ?_
  refine r_iadd dX11_keep_66 ?_
  refine pf_X11_68 rfl dX11_keep_67 ?_
  have h := h _ rfl
  generalize hs_s2 : ups s1 th 9 (w32 ((s1 th 9) + 1)) = s2 at h ⊢
  exact r_ret dX11_keep_70 rfl h
set_option maxRecDepth 20000 in
theorem S_X11_keep {g : GT} {e : Nat} {Q : Int → Sg → Prop} {s : Sg} {th : Int} {v1 : Int} {v2 : Int} {v3 : Int} (h : (gr g th ∧ tg th = 19) → inR v1 → inR v2 → inR v3 → ((¬ (s th 9) = 60 → P_X11_keep_34 g e Q s th v1 v2 v3) ∧ ((s th 9) = 60 → (∀ s1, s1 = cpy s (th + 6) 1 (th + 6) 0 59 → (∀ s2, s2 = ups s1 th 9 (w32 ((s1 th 9) - 1)) → P_X11_keep_34 g e Q s2 th v1 v2 v3))))) : Mw g (e + 1) M_X11_keep [(19, th), (0, v1), (0, v2), (0, v3)] s Q := by
  refine Mw.of (ls := [(19, th), (0, v1), (0, v2), (0, v3)]) pn_X11_keep (Nat.le_of_ble_eq_true rfl) rfl (fun hv => ?_)
  have h := h (vld_o (by decide) (hv _ (List.Mem.head _))) (hv _ (List.Mem.tail _ (List.Mem.head _))) (hv _ (List.Mem.tail _ (List.Mem.tail _ (List.Mem.head _)))) (hv _ (List.Mem.tail _ (List.Mem.tail _ (List.Mem.tail _ (List.Mem.head _)))))
  refine r_aload_n dX11_keep_0 rfl rfl ?_
  refine gf_X11_68 rfl dX11_keep_1 ?_
  refine r_bipush dX11_keep_4 (by decide) rfl ?_
  refine r_icmp_ne (tgt := 34) dX11_keep_6 (by decide) (fun hc => ?_) (fun hc => ?_)
  · have h := h.1 hc
    exact h
  · have h := h.2 hc
    refine r_aload_n dX11_keep_9 rfl rfl ?_
    refine gf_X11_27 rfl dX11_keep_10 ?_
    refine r_iconst dX11_keep_13 (by decide) ?_
    refine r_aload_n dX11_keep_14 rfl rfl ?_
    refine gf_X11_27 rfl dX11_keep_15 ?_
    refine r_iconst dX11_keep_18 (by decide) ?_
    refine r_bipush dX11_keep_19 (by decide) rfl ?_
    refine r_copy (n0 := 60) (n1 := 60) lm_X11_50 (Nat.le_of_ble_eq_true rfl) rfl (by decide) rfl (by decide) dX11_keep_21 (by decide) ?_
    have h := h _ rfl
    generalize hs_s1 : cpy s (th + 6) 1 (th + 6) 0 59 = s1 at h ⊢
    refine r_aload_n dX11_keep_24 rfl rfl ?_
    refine r_dup dX11_keep_25 (show (19 : Nat) ≠ 2 by decide) ?_
    refine gf_X11_68 rfl dX11_keep_26 ?_
    refine r_iconst dX11_keep_29 (by decide) ?_
    refine r_isub dX11_keep_30 ?_
    refine pf_X11_68 rfl dX11_keep_31 ?_
    have h := h _ rfl
    generalize hs_s2 : ups s1 th 9 (w32 ((s1 th 9) - 1)) = s2 at h ⊢
    exact h
abbrev P_X11_dropFrom_17 (g : GT) (e : Nat) (Q : Int → Sg → Prop) (s : Sg) (th : Int) (v2 : Int) (v3 : Int) : Prop := Wp g (e + 1) M_X11_dropFrom Q 17 [(19, th), (9, 0), (0, v2), (0, v3), (9, 0)] [] s
set_option maxRecDepth 20000 in
theorem S_X11_dropFrom_17 {g : GT} {e : Nat} {Q : Int → Sg → Prop} {s : Sg} {th : Int} {v2 : Int} {v3 : Int} (h : ((v2 ≤ v3 → Q 0 s) ∧ (¬ v2 ≤ v3 → ((0 ≤ v3 ∧ v3 < 64) ∧ (((s (th + 4) v3) = (-1) → P_X11_dropFrom_17 g e Q s th v2 (w32 (v3 + 1))) ∧ (¬ (s (th + 4) v3) = (-1) → (Mw g e M_X11_lift [(19, th), (0, (s (th + 4) v3))] s (fun _ s2 => (∀ s3, s3 = ups s2 th 10 (bOr (s2 th 10) (bShl 1 (s (th + 4) v3))) → (∀ s4, s4 = ups s3 th 11 (w32 ((s3 th 11) + 1)) → (Mw g e M_X11_wallAt [(0, v3)] s4 (fun r5 s6 => (Mw g e M_X11_keep [(19, th), (0, (s (th + 4) v3)), (0, r5), (0, 0)] s6 (fun _ s8 => P_X11_dropFrom_17 g e Q s8 th v2 (w32 (v3 + 1)))))))))))))))) : P_X11_dropFrom_17 g e Q s th v2 v3 := by
  refine r_iload_n dX11_dropFrom_17 rfl ?_
  refine r_iload_n dX11_dropFrom_18 rfl ?_
  refine r_icmp_ge (tgt := 82) dX11_dropFrom_19 (by decide) (fun hc => ?_) (fun hc => ?_)
  · have h := h.1 hc
    exact r_ret dX11_dropFrom_82 rfl h
  · have h := h.2 hc
    refine r_aload_n dX11_dropFrom_22 rfl rfl ?_
    refine gf_X11_21 rfl dX11_dropFrom_23 ?_
    refine r_iload_n dX11_dropFrom_26 rfl ?_
    obtain ⟨hb, h⟩ := h
    refine r_iald (n := 64) rfl (by decide) dX11_dropFrom_27 hb ?_
    refine r_istore (ls2 := [(19, th), (9, 0), (0, v2), (0, v3), (0, (s (th + 4) v3))]) dX11_dropFrom_28 (by decide) rfl ?_
    refine r_iload dX11_dropFrom_30 rfl ?_
    refine r_iconst dX11_dropFrom_32 (by decide) ?_
    refine r_icmp_eq (tgt := 76) dX11_dropFrom_33 (by decide) (fun hc => ?_) (fun hc => ?_)
    · have h := h.1 hc
      refine r_iinc (ls2 := [(19, th), (9, 0), (0, v2), (0, (w32 (v3 + 1))), (0, (s (th + 4) v3))]) dX11_dropFrom_76 rfl (by decide) rfl ?_
      refine r_goto (tgt := 17) dX11_dropFrom_79 (by decide) ?_
      exact r_fgt [true, false, true, true, false] rfl h
    · have h := h.2 hc
      refine r_aload_n dX11_dropFrom_36 rfl rfl ?_
      refine r_iload dX11_dropFrom_37 rfl ?_
      refine r_callV (ci := 9) (As := [(0, (s (th + 4) v3))]) (st := []) (by decide) ok_X11_166 rfl rfl (Nat.le_of_ble_eq_true rfl) dX11_dropFrom_39 h (fun r1 s2 hv h => ?_)
      refine r_aload_n dX11_dropFrom_42 rfl rfl ?_
      refine r_dup dX11_dropFrom_43 (show (19 : Nat) ≠ 2 by decide) ?_
      refine gf_X11_71 rfl dX11_dropFrom_44 ?_
      refine r_iconst dX11_dropFrom_47 (by decide) ?_
      refine r_iload dX11_dropFrom_48 rfl ?_
      refine r_ishl dX11_dropFrom_50 ?_
      refine r_ior dX11_dropFrom_51 ?_
      refine pf_X11_71 rfl dX11_dropFrom_52 ?_
      have h := h _ rfl
      generalize hs_s3 : ups s2 th 10 (bOr (s2 th 10) (bShl 1 (s (th + 4) v3))) = s3 at h ⊢
      refine r_aload_n dX11_dropFrom_55 rfl rfl ?_
      refine r_dup dX11_dropFrom_56 (show (19 : Nat) ≠ 2 by decide) ?_
      refine gf_X11_74 rfl dX11_dropFrom_57 ?_
      refine r_iconst dX11_dropFrom_60 (by decide) ?_
      refine r_iadd dX11_dropFrom_61 ?_
      refine pf_X11_74 rfl dX11_dropFrom_62 ?_
      have h := h _ rfl
      generalize hs_s4 : ups s3 th 11 (w32 ((s3 th 11) + 1)) = s4 at h ⊢
      refine r_aload_n dX11_dropFrom_65 rfl rfl ?_
      refine r_iload dX11_dropFrom_66 rfl ?_
      refine r_iload_n dX11_dropFrom_68 rfl ?_
      refine r_callS (As := [(0, v3)]) (st := [(0, (s (th + 4) v3)), (19, th)]) ok_X11_116 rfl rfl (Nat.le_of_ble_eq_true rfl) dX11_dropFrom_69 h (fun r5 s6 hv h => ?_)
      refine r_iconst dX11_dropFrom_72 (by decide) ?_
      refine r_callV (ci := 9) (As := [(0, (s (th + 4) v3)), (0, r5), (0, 0)]) (st := []) (by decide) ok_X11_169 rfl rfl (Nat.le_of_ble_eq_true rfl) dX11_dropFrom_73 h (fun r7 s8 hv h => ?_)
      refine r_iinc (ls2 := [(19, th), (9, 0), (0, v2), (0, (w32 (v3 + 1))), (0, (s (th + 4) v3))]) dX11_dropFrom_76 rfl (by decide) rfl ?_
      refine r_goto (tgt := 17) dX11_dropFrom_79 (by decide) ?_
      exact r_fgt [true, false, true, true, false] rfl h
set_option maxRecDepth 20000 in
theorem S_X11_dropFrom {g : GT} {e : Nat} {Q : Int → Sg → Prop} {s : Sg} {th : Int} {v1 : Int} (h : (gr g th ∧ tg th = 19) → inR v1 → ((0 ≤ (w32 (Int.tdiv v1 4)) ∧ (w32 (Int.tdiv v1 4)) < 16) ∧ P_X11_dropFrom_17 g e Q s th (w32 ((w32 ((w32 (Int.tdiv v1 4)) * 4)) + (s (th + 5) (w32 (Int.tdiv v1 4))))) v1)) : Mw g (e + 1) M_X11_dropFrom [(19, th), (0, v1)] s Q := by
  refine Mw.of (ls := [(19, th), (0, v1), (9, 0), (9, 0), (9, 0)]) pn_X11_dropFrom (Nat.le_of_ble_eq_true rfl) rfl (fun hv => ?_)
  have h := h (vld_o (by decide) (hv _ (List.Mem.head _))) (hv _ (List.Mem.tail _ (List.Mem.head _)))
  refine r_iload_n dX11_dropFrom_0 rfl ?_
  refine r_iconst dX11_dropFrom_1 (by decide) ?_
  refine r_idiv dX11_dropFrom_2 (by decide) ?_
  refine r_iconst dX11_dropFrom_3 (by decide) ?_
  refine r_imul dX11_dropFrom_4 ?_
  refine r_aload_n dX11_dropFrom_5 rfl rfl ?_
  refine gf_X11_24 rfl dX11_dropFrom_6 ?_
  refine r_iload_n dX11_dropFrom_9 rfl ?_
  refine r_iconst dX11_dropFrom_10 (by decide) ?_
  refine r_idiv dX11_dropFrom_11 (by decide) ?_
  obtain ⟨hb, h⟩ := h
  refine r_iald (n := 16) rfl (by decide) dX11_dropFrom_12 hb ?_
  refine r_iadd dX11_dropFrom_13 ?_
  refine r_istore_n (ls2 := [(19, th), (0, v1), (0, (w32 ((w32 ((w32 (Int.tdiv v1 4)) * 4)) + (s (th + 5) (w32 (Int.tdiv v1 4)))))), (9, 0), (9, 0)]) dX11_dropFrom_14 (by decide) rfl ?_
  refine r_iload_n dX11_dropFrom_15 rfl ?_
  refine r_istore_n (ls2 := [(19, th), (0, v1), (0, (w32 ((w32 ((w32 (Int.tdiv v1 4)) * 4)) + (s (th + 5) (w32 (Int.tdiv v1 4)))))), (0, v1), (9, 0)]) dX11_dropFrom_16 (by decide) rfl ?_
  exact r_fgt [true, false, true, true, false] rfl h
abbrev P_X11_fall_4 (g : GT) (e : Nat) (Q : Int → Sg → Prop) (s : Sg) (th : Int) (v1 : Int) (v2 : Int) : Prop := Wp g (e + 1) M_X11_fall Q 4 [(19, th), (0, v1), (0, v2), (9, 0)] [] s
set_option maxRecDepth 20000 in
theorem S_X11_fall_4 {g : GT} {e : Nat} {Q : Int → Sg → Prop} {s : Sg} {th : Int} {v1 : Int} {v2 : Int} (h : ((36 ≤ v2 → Q 0 s) ∧ (¬ 36 ≤ v2 → (Mw g e M_X9_wallCount [(18, (s th 0))] s (fun r1 s2 => ((r1 ≤ v1 → Q 0 s2) ∧ (¬ r1 ≤ v1 → (Mw g e M_X11_weakSpot [(19, th), (0, v1)] s2 (fun r3 s4 => ((¬ r3 = (-1) → (Mw g e M_X11_dropFrom [(19, th), (0, r3)] s4 (fun _ s6 => P_X11_fall_4 g e Q s6 th 0 (w32 (v2 + 1))))) ∧ (r3 = (-1) → P_X11_fall_4 g e Q s4 th (w32 (v1 + 1)) (w32 (v2 + 1))))))))))))) : P_X11_fall_4 g e Q s th v1 v2 := by
  refine r_iload_n dX11_fall_4 rfl ?_
  refine r_bipush dX11_fall_5 (by decide) rfl ?_
  refine r_icmp_ge (tgt := 51) dX11_fall_7 (by decide) (fun hc => ?_) (fun hc => ?_)
  · have h := h.1 hc
    exact r_ret dX11_fall_51 rfl h
  · have h := h.2 hc
    refine r_iload_n dX11_fall_10 rfl ?_
    refine r_aload_n dX11_fall_11 rfl rfl ?_
    refine gf_X11_34 rfl dX11_fall_12 ?_
    refine r_callV (ci := 8) (As := []) (st := [(0, v1)]) (by decide) ok_X11_107 rfl rfl (Nat.le_of_ble_eq_true rfl) dX11_fall_15 h (fun r1 s2 hv h => ?_)
    refine r_icmp_ge (tgt := 51) dX11_fall_18 (by decide) (fun hc => ?_) (fun hc => ?_)
    · have h := h.1 hc
      exact r_ret dX11_fall_51 rfl h
    · have h := h.2 hc
      refine r_aload_n dX11_fall_21 rfl rfl ?_
      refine r_iload_n dX11_fall_22 rfl ?_
      refine r_callV (ci := 9) (As := [(0, v1)]) (st := []) (by decide) ok_X11_159 rfl rfl (Nat.le_of_ble_eq_true rfl) dX11_fall_23 h (fun r3 s4 hv h => ?_)
      refine r_istore_n (ls2 := [(19, th), (0, v1), (0, v2), (0, r3)]) dX11_fall_26 (by decide) rfl ?_
      refine r_iload_n dX11_fall_27 rfl ?_
      refine r_iconst dX11_fall_28 (by decide) ?_
      refine r_icmp_ne (tgt := 38) dX11_fall_29 (by decide) (fun hc => ?_) (fun hc => ?_)
      · have h := h.1 hc
        refine r_aload_n dX11_fall_38 rfl rfl ?_
        refine r_iload_n dX11_fall_39 rfl ?_
        refine r_callV (ci := 9) (As := [(0, r3)]) (st := []) (by decide) ok_X11_162 rfl rfl (Nat.le_of_ble_eq_true rfl) dX11_fall_40 h (fun r5 s6 hv h => ?_)
        refine r_iconst dX11_fall_43 (by decide) ?_
        refine r_istore_n (ls2 := [(19, th), (0, 0), (0, v2), (0, r3)]) dX11_fall_44 (by decide) rfl ?_
        refine r_iinc (ls2 := [(19, th), (0, 0), (0, (w32 (v2 + 1))), (0, r3)]) dX11_fall_45 rfl (by decide) rfl ?_
        refine r_goto (tgt := 4) dX11_fall_48 (by decide) ?_
        exact r_fgt [true, true, true, false] rfl h
      · have h := h.2 hc
        refine r_iinc (ls2 := [(19, th), (0, (w32 (v1 + 1))), (0, v2), (0, r3)]) dX11_fall_32 rfl (by decide) rfl ?_
        refine r_goto (tgt := 45) dX11_fall_35 (by decide) ?_
        refine r_iinc (ls2 := [(19, th), (0, (w32 (v1 + 1))), (0, (w32 (v2 + 1))), (0, r3)]) dX11_fall_45 rfl (by decide) rfl ?_
        refine r_goto (tgt := 4) dX11_fall_48 (by decide) ?_
        exact r_fgt [true, true, true, false] rfl h
set_option maxRecDepth 20000 in
theorem S_X11_fall {g : GT} {e : Nat} {Q : Int → Sg → Prop} {s : Sg} {th : Int} (h : (gr g th ∧ tg th = 19) → P_X11_fall_4 g e Q s th 0 0) : Mw g (e + 1) M_X11_fall [(19, th)] s Q := by
  refine Mw.of (ls := [(19, th), (9, 0), (9, 0), (9, 0)]) pn_X11_fall (Nat.le_of_ble_eq_true rfl) rfl (fun hv => ?_)
  have h := h (vld_o (by decide) (hv _ (List.Mem.head _)))
  refine r_iconst dX11_fall_0 (by decide) ?_
  refine r_istore_n (ls2 := [(19, th), (0, 0), (9, 0), (9, 0)]) dX11_fall_1 (by decide) rfl ?_
  refine r_iconst dX11_fall_2 (by decide) ?_
  refine r_istore_n (ls2 := [(19, th), (0, 0), (0, 0), (9, 0)]) dX11_fall_3 (by decide) rfl ?_
  exact h
abbrev P_X11_freeSpot_8 (g : GT) (e : Nat) (Q : Int → Sg → Prop) (s : Sg) (th : Int) (v1 : Int) (v2 : Int) (v3 : Int) : Prop := Wp g (e + 1) M_X11_freeSpot Q 8 [(19, th), (0, v1), (0, v2), (0, v3)] [] s
set_option maxRecDepth 20000 in
theorem S_X11_freeSpot_8 {g : GT} {e : Nat} {Q : Int → Sg → Prop} {s : Sg} {th : Int} {v1 : Int} {v2 : Int} {v3 : Int} (h : ((0 ≤ v1 ∧ v1 < 4) ∧ (((w32 ((w32 (v1 * 4)) + (s ((s th 0) + 11) v1))) ≤ v3 → ((0 ≤ v2 ∧ v2 < 16) ∧ ((0 ≤ v1 ∧ v1 < 4) ∧ (((s ((s th 0) + 12) v1) ≤ (s (th + 5) v2) → Q (-1) s) ∧ (¬ (s ((s th 0) + 12) v1) ≤ (s (th + 5) v2) → ((0 ≤ v2 ∧ v2 < 16) ∧ Q (w32 ((w32 (v2 * 4)) + (s (th + 5) v2))) s)))))) ∧ (¬ (w32 ((w32 (v1 * 4)) + (s ((s th 0) + 11) v1))) ≤ v3 → ((0 ≤ v3 ∧ v3 < 16) ∧ ((0 ≤ v2 ∧ v2 < 16) ∧ (((s (th + 5) v2) ≤ (s (th + 5) v3) → P_X11_freeSpot_8 g e Q s th v1 v2 (w32 (v3 + 1))) ∧ (¬ (s (th + 5) v2) ≤ (s (th + 5) v3) → P_X11_freeSpot_8 g e Q s th v1 v3 (w32 (v3 + 1)))))))))) : P_X11_freeSpot_8 g e Q s th v1 v2 v3 := by
  refine r_iload_n dX11_freeSpot_8 rfl ?_
  refine r_iload_n dX11_freeSpot_9 rfl ?_
  refine r_iconst dX11_freeSpot_10 (by decide) ?_
  refine r_imul dX11_freeSpot_11 ?_
  refine r_aload_n dX11_freeSpot_12 rfl rfl ?_
  refine gf_X11_34 rfl dX11_freeSpot_13 ?_
  refine gf_X11_104 rfl dX11_freeSpot_16 ?_
  refine r_iload_n dX11_freeSpot_19 rfl ?_
  obtain ⟨hb, h⟩ := h
  refine r_iald (n := 4) rfl (by decide) dX11_freeSpot_20 hb ?_
  refine r_iadd dX11_freeSpot_21 ?_
  refine r_icmp_ge (tgt := 52) dX11_freeSpot_22 (by decide) (fun hc => ?_) (fun hc => ?_)
  · have h := h.1 hc
    refine r_aload_n dX11_freeSpot_52 rfl rfl ?_
    refine gf_X11_24 rfl dX11_freeSpot_53 ?_
    refine r_iload_n dX11_freeSpot_56 rfl ?_
    obtain ⟨hb, h⟩ := h
    refine r_iald (n := 16) rfl (by decide) dX11_freeSpot_57 hb ?_
    refine r_aload_n dX11_freeSpot_58 rfl rfl ?_
    refine gf_X11_34 rfl dX11_freeSpot_59 ?_
    refine gf_X11_113 rfl dX11_freeSpot_62 ?_
    refine r_iload_n dX11_freeSpot_65 rfl ?_
    obtain ⟨hb, h⟩ := h
    refine r_iald (n := 4) rfl (by decide) dX11_freeSpot_66 hb ?_
    refine r_icmp_ge (tgt := 83) dX11_freeSpot_67 (by decide) (fun hc => ?_) (fun hc => ?_)
    · have h := h.1 hc
      refine r_iconst dX11_freeSpot_83 (by decide) ?_
      exact r_iret dX11_freeSpot_84 rfl h
    · have h := h.2 hc
      refine r_iload_n dX11_freeSpot_70 rfl ?_
      refine r_iconst dX11_freeSpot_71 (by decide) ?_
      refine r_imul dX11_freeSpot_72 ?_
      refine r_aload_n dX11_freeSpot_73 rfl rfl ?_
      refine gf_X11_24 rfl dX11_freeSpot_74 ?_
      refine r_iload_n dX11_freeSpot_77 rfl ?_
      obtain ⟨hb, h⟩ := h
      refine r_iald (n := 16) rfl (by decide) dX11_freeSpot_78 hb ?_
      refine r_iadd dX11_freeSpot_79 ?_
      refine r_goto (tgt := 84) dX11_freeSpot_80 (by decide) ?_
      exact r_iret dX11_freeSpot_84 rfl h
  · have h := h.2 hc
    refine r_aload_n dX11_freeSpot_25 rfl rfl ?_
    refine gf_X11_24 rfl dX11_freeSpot_26 ?_
    refine r_iload_n dX11_freeSpot_29 rfl ?_
    obtain ⟨hb, h⟩ := h
    refine r_iald (n := 16) rfl (by decide) dX11_freeSpot_30 hb ?_
    refine r_aload_n dX11_freeSpot_31 rfl rfl ?_
    refine gf_X11_24 rfl dX11_freeSpot_32 ?_
    refine r_iload_n dX11_freeSpot_35 rfl ?_
    obtain ⟨hb, h⟩ := h
    refine r_iald (n := 16) rfl (by decide) dX11_freeSpot_36 hb ?_
    refine r_icmp_ge (tgt := 44) dX11_freeSpot_37 (by decide) (fun hc => ?_) (fun hc => ?_)
    · have h := h.1 hc
      refine r_iload_n dX11_freeSpot_44 rfl ?_
      refine r_istore_n (ls2 := [(19, th), (0, v1), (0, v2), (0, v3)]) dX11_freeSpot_45 (by decide) rfl ?_
      refine r_iinc (ls2 := [(19, th), (0, v1), (0, v2), (0, (w32 (v3 + 1)))]) dX11_freeSpot_46 rfl (by decide) rfl ?_
      refine r_goto (tgt := 8) dX11_freeSpot_49 (by decide) ?_
      exact h
    · have h := h.2 hc
      refine r_iload_n dX11_freeSpot_40 rfl ?_
      refine r_goto (tgt := 45) dX11_freeSpot_41 (by decide) ?_
      refine r_istore_n (ls2 := [(19, th), (0, v1), (0, v3), (0, v3)]) dX11_freeSpot_45 (by decide) rfl ?_
      refine r_iinc (ls2 := [(19, th), (0, v1), (0, v3), (0, (w32 (v3 + 1)))]) dX11_freeSpot_46 rfl (by decide) rfl ?_
      refine r_goto (tgt := 8) dX11_freeSpot_49 (by decide) ?_
      exact h
set_option maxRecDepth 20000 in
theorem S_X11_freeSpot {g : GT} {e : Nat} {Q : Int → Sg → Prop} {s : Sg} {th : Int} {v1 : Int} (h : (gr g th ∧ tg th = 19) → inR v1 → P_X11_freeSpot_8 g e Q s th v1 (w32 (v1 * 4)) (w32 ((w32 (v1 * 4)) + 1))) : Mw g (e + 1) M_X11_freeSpot [(19, th), (0, v1)] s Q := by
  refine Mw.of (ls := [(19, th), (0, v1), (9, 0), (9, 0)]) pn_X11_freeSpot (Nat.le_of_ble_eq_true rfl) rfl (fun hv => ?_)
  have h := h (vld_o (by decide) (hv _ (List.Mem.head _))) (hv _ (List.Mem.tail _ (List.Mem.head _)))
  refine r_iload_n dX11_freeSpot_0 rfl ?_
  refine r_iconst dX11_freeSpot_1 (by decide) ?_
  refine r_imul dX11_freeSpot_2 ?_
  refine r_istore_n (ls2 := [(19, th), (0, v1), (0, (w32 (v1 * 4))), (9, 0)]) dX11_freeSpot_3 (by decide) rfl ?_
  refine r_iload_n dX11_freeSpot_4 rfl ?_
  refine r_iconst dX11_freeSpot_5 (by decide) ?_
  refine r_iadd dX11_freeSpot_6 ?_
  refine r_istore_n (ls2 := [(19, th), (0, v1), (0, (w32 (v1 * 4))), (0, (w32 ((w32 (v1 * 4)) + 1)))]) dX11_freeSpot_7 (by decide) rfl ?_
  exact h
set_option maxRecDepth 20000 in
theorem S_X11_leftOf {g : GT} {e : Nat} {Q : Int → Sg → Prop} {s : Sg} {th : Int} {v1 : Int} (h : (gr g th ∧ tg th = 19) → inR v1 → (((Int.tmod v1 16) < 4 → Q (-1) s) ∧ (¬ (Int.tmod v1 16) < 4 → ((0 ≤ (w32 (v1 - 4)) ∧ (w32 (v1 - 4)) < 64) ∧ Q (s (th + 4) (w32 (v1 - 4))) s)))) : Mw g (e + 1) M_X11_leftOf [(19, th), (0, v1)] s Q := by
  refine Mw.of (ls := [(19, th), (0, v1)]) pn_X11_leftOf (Nat.le_of_ble_eq_true rfl) rfl (fun hv => ?_)
  have h := h (vld_o (by decide) (hv _ (List.Mem.head _))) (hv _ (List.Mem.tail _ (List.Mem.head _)))
  refine r_iload_n dX11_leftOf_0 rfl ?_
  refine r_bipush dX11_leftOf_1 (by decide) rfl ?_
  refine r_irem dX11_leftOf_3 (by decide) ?_
  refine r_iconst dX11_leftOf_4 (by decide) ?_
  refine r_icmp_lt (tgt := 19) dX11_leftOf_5 (by decide) (fun hc => ?_) (fun hc => ?_)
  · have h := h.1 hc
    refine r_iconst dX11_leftOf_19 (by decide) ?_
    exact r_iret dX11_leftOf_20 rfl h
  · have h := h.2 hc
    refine r_aload_n dX11_leftOf_8 rfl rfl ?_
    refine gf_X11_21 rfl dX11_leftOf_9 ?_
    refine r_iload_n dX11_leftOf_12 rfl ?_
    refine r_iconst dX11_leftOf_13 (by decide) ?_
    refine r_isub dX11_leftOf_14 ?_
    obtain ⟨hb, h⟩ := h
    refine r_iald (n := 64) rfl (by decide) dX11_leftOf_15 hb ?_
    refine r_goto (tgt := 20) dX11_leftOf_16 (by decide) ?_
    exact r_iret dX11_leftOf_20 rfl h
set_option maxRecDepth 20000 in
theorem S_X11_rightOf {g : GT} {e : Nat} {Q : Int → Sg → Prop} {s : Sg} {th : Int} {v1 : Int} (h : (gr g th ∧ tg th = 19) → inR v1 → ((12 ≤ (Int.tmod v1 16) → Q (-1) s) ∧ (¬ 12 ≤ (Int.tmod v1 16) → ((0 ≤ (w32 (v1 + 4)) ∧ (w32 (v1 + 4)) < 64) ∧ Q (s (th + 4) (w32 (v1 + 4))) s)))) : Mw g (e + 1) M_X11_rightOf [(19, th), (0, v1)] s Q := by
  refine Mw.of (ls := [(19, th), (0, v1)]) pn_X11_rightOf (Nat.le_of_ble_eq_true rfl) rfl (fun hv => ?_)
  have h := h (vld_o (by decide) (hv _ (List.Mem.head _))) (hv _ (List.Mem.tail _ (List.Mem.head _)))
  refine r_iload_n dX11_rightOf_0 rfl ?_
  refine r_bipush dX11_rightOf_1 (by decide) rfl ?_
  refine r_irem dX11_rightOf_3 (by decide) ?_
  refine r_bipush dX11_rightOf_4 (by decide) rfl ?_
  refine r_icmp_ge (tgt := 20) dX11_rightOf_6 (by decide) (fun hc => ?_) (fun hc => ?_)
  · have h := h.1 hc
    refine r_iconst dX11_rightOf_20 (by decide) ?_
    exact r_iret dX11_rightOf_21 rfl h
  · have h := h.2 hc
    refine r_aload_n dX11_rightOf_9 rfl rfl ?_
    refine gf_X11_21 rfl dX11_rightOf_10 ?_
    refine r_iload_n dX11_rightOf_13 rfl ?_
    refine r_iconst dX11_rightOf_14 (by decide) ?_
    refine r_iadd dX11_rightOf_15 ?_
    obtain ⟨hb, h⟩ := h
    refine r_iald (n := 64) rfl (by decide) dX11_rightOf_16 hb ?_
    refine r_goto (tgt := 21) dX11_rightOf_17 (by decide) ?_
    exact r_iret dX11_rightOf_21 rfl h
abbrev P_X11_isPeaceful_25 (g : GT) (e : Nat) (Q : Int → Sg → Prop) (s : Sg) (th : Int) (v1 : Int) (v4 : Int) (x0 : Int) : Prop := Wp g (e + 1) M_X11_isPeaceful Q 25 [(19, th), (0, v1), (9, 0), (9, 0), (0, v4), (9, 0)] [(0, x0)] s
abbrev P_X11_isPeaceful_39 (g : GT) (e : Nat) (Q : Int → Sg → Prop) (s : Sg) (th : Int) (v1 : Int) (x0 : Int) (x1 : Int) : Prop := Wp g (e + 1) M_X11_isPeaceful Q 39 [(19, th), (0, v1), (9, 0), (9, 0), (9, 0), (9, 0)] [(0, x1), (0, x0)] s
set_option maxRecDepth 20000 in
theorem S_X11_isPeaceful_25 {g : GT} {e : Nat} {Q : Int → Sg → Prop} {s : Sg} {th : Int} {v1 : Int} {v4 : Int} {x0 : Int} (h : ((v4 = (-1) → P_X11_isPeaceful_39 g e Q s th v1 x0 0) ∧ (¬ v4 = (-1) → P_X11_isPeaceful_39 g e Q s th v1 x0 (bShl 1 v4)))) : P_X11_isPeaceful_25 g e Q s th v1 v4 x0 := by
  refine r_iload dX11_isPeaceful_25 rfl ?_
  refine r_iconst dX11_isPeaceful_27 (by decide) ?_
  refine r_icmp_eq (tgt := 38) dX11_isPeaceful_28 (by decide) (fun hc => ?_) (fun hc => ?_)
  · have h := h.1 hc
    refine r_iconst dX11_isPeaceful_38 (by decide) ?_
    exact r_fgt [true, true, false, false, false, false] rfl h
  · have h := h.2 hc
    refine r_iconst dX11_isPeaceful_31 (by decide) ?_
    refine r_iload dX11_isPeaceful_32 rfl ?_
    refine r_ishl dX11_isPeaceful_34 ?_
    refine r_goto (tgt := 39) dX11_isPeaceful_35 (by decide) ?_
    exact r_fgt [true, true, false, false, false, false] rfl h
set_option maxRecDepth 20000 in
theorem S_X11_isPeaceful_39 {g : GT} {e : Nat} {Q : Int → Sg → Prop} {s : Sg} {th : Int} {v1 : Int} {x0 : Int} {x1 : Int} (h : (((bOr x0 x1) = 0 → Q 1 s) ∧ (¬ (bOr x0 x1) = 0 → (Mw g e M_X9_foes [(18, (s th 0)), (0, v1), (0, (s th 2))] s (fun r1 s2 => ((¬ (bAnd (bOr x0 x1) r1) = 0 → Q 0 s2) ∧ ((bAnd (bOr x0 x1) r1) = 0 → Q 1 s2))))))) : P_X11_isPeaceful_39 g e Q s th v1 x0 x1 := by
  refine r_ior dX11_isPeaceful_39 ?_
  refine r_istore (ls2 := [(19, th), (0, v1), (9, 0), (9, 0), (9, 0), (0, (bOr x0 x1))]) dX11_isPeaceful_40 (by decide) rfl ?_
  refine r_iload dX11_isPeaceful_42 rfl ?_
  refine r_if_eq (tgt := 65) dX11_isPeaceful_44 (by decide) (fun hc => ?_) (fun hc => ?_)
  · have h := h.1 hc
    refine r_iconst dX11_isPeaceful_65 (by decide) ?_
    refine r_goto (tgt := 70) dX11_isPeaceful_66 (by decide) ?_
    exact r_zret dX11_isPeaceful_70 rfl (by decide) h
  · have h := h.2 hc
    refine r_iload dX11_isPeaceful_47 rfl ?_
    refine r_aload_n dX11_isPeaceful_49 rfl rfl ?_
    refine gf_X11_34 rfl dX11_isPeaceful_50 ?_
    refine r_iload_n dX11_isPeaceful_53 rfl ?_
    refine r_aload_n dX11_isPeaceful_54 rfl rfl ?_
    refine gf_X11_42 rfl dX11_isPeaceful_55 ?_
    refine r_callV (ci := 8) (As := [(0, v1), (0, (s th 2))]) (st := [(0, (bOr x0 x1))]) (by decide) ok_X11_193 rfl rfl (Nat.le_of_ble_eq_true rfl) dX11_isPeaceful_58 h (fun r1 s2 hv h => ?_)
    refine r_iand dX11_isPeaceful_61 ?_
    refine r_if_ne (tgt := 69) dX11_isPeaceful_62 (by decide) (fun hc => ?_) (fun hc => ?_)
    · have h := h.1 hc
      refine r_iconst dX11_isPeaceful_69 (by decide) ?_
      exact r_zret dX11_isPeaceful_70 rfl (by decide) h
    · have h := h.2 hc
      refine r_iconst dX11_isPeaceful_65 (by decide) ?_
      refine r_goto (tgt := 70) dX11_isPeaceful_66 (by decide) ?_
      exact r_zret dX11_isPeaceful_70 rfl (by decide) h
set_option maxRecDepth 20000 in
theorem S_X11_isPeaceful {g : GT} {e : Nat} {Q : Int → Sg → Prop} {s : Sg} {th : Int} {v1 : Int} {v2 : Int} (h : (gr g th ∧ tg th = 19) → inR v1 → inR v2 → (Mw g e M_X11_leftOf [(19, th), (0, v2)] s (fun r1 s2 => (Mw g e M_X11_rightOf [(19, th), (0, v2)] s2 (fun r3 s4 => ((r1 = (-1) → P_X11_isPeaceful_25 g e Q s4 th v1 r3 0) ∧ (¬ r1 = (-1) → P_X11_isPeaceful_25 g e Q s4 th v1 r3 (bShl 1 r1)))))))) : Mw g (e + 1) M_X11_isPeaceful [(19, th), (0, v1), (0, v2)] s Q := by
  refine Mw.of (ls := [(19, th), (0, v1), (0, v2), (9, 0), (9, 0), (9, 0)]) pn_X11_isPeaceful (Nat.le_of_ble_eq_true rfl) rfl (fun hv => ?_)
  have h := h (vld_o (by decide) (hv _ (List.Mem.head _))) (hv _ (List.Mem.tail _ (List.Mem.head _))) (hv _ (List.Mem.tail _ (List.Mem.tail _ (List.Mem.head _))))
  refine r_aload_n dX11_isPeaceful_0 rfl rfl ?_
  refine r_iload_n dX11_isPeaceful_1 rfl ?_
  refine r_callV (ci := 9) (As := [(0, v2)]) (st := []) (by decide) ok_X11_187 rfl rfl (Nat.le_of_ble_eq_true rfl) dX11_isPeaceful_2 h (fun r1 s2 hv h => ?_)
  refine r_istore_n (ls2 := [(19, th), (0, v1), (0, v2), (0, r1), (9, 0), (9, 0)]) dX11_isPeaceful_5 (by decide) rfl ?_
  refine r_aload_n dX11_isPeaceful_6 rfl rfl ?_
  refine r_iload_n dX11_isPeaceful_7 rfl ?_
  refine r_callV (ci := 9) (As := [(0, v2)]) (st := []) (by decide) ok_X11_190 rfl rfl (Nat.le_of_ble_eq_true rfl) dX11_isPeaceful_8 h (fun r3 s4 hv h => ?_)
  refine r_istore (ls2 := [(19, th), (0, v1), (0, v2), (0, r1), (0, r3), (9, 0)]) dX11_isPeaceful_11 (by decide) rfl ?_
  refine r_iload_n dX11_isPeaceful_13 rfl ?_
  refine r_iconst dX11_isPeaceful_14 (by decide) ?_
  refine r_icmp_eq (tgt := 24) dX11_isPeaceful_15 (by decide) (fun hc => ?_) (fun hc => ?_)
  · have h := h.1 hc
    refine r_iconst dX11_isPeaceful_24 (by decide) ?_
    exact r_fgt [true, true, false, false, true, false] rfl h
  · have h := h.2 hc
    refine r_iconst dX11_isPeaceful_18 (by decide) ?_
    refine r_iload_n dX11_isPeaceful_19 rfl ?_
    refine r_ishl dX11_isPeaceful_20 ?_
    refine r_goto (tgt := 25) dX11_isPeaceful_21 (by decide) ?_
    exact r_fgt [true, true, false, false, true, false] rfl h
abbrev P_X11_mayLie_43 (g : GT) (e : Nat) (Q : Int → Sg → Prop) (s : Sg) (th : Int) (v1 : Int) (v3 : Int) (v4 : Int) (x0 : Int) : Prop := Wp g (e + 1) M_X11_mayLie Q 43 [(19, th), (0, v1), (9, 0), (0, v3), (0, v4), (9, 0)] [(0, x0)] s
abbrev P_X11_mayLie_117 (g : GT) (e : Nat) (Q : Int → Sg → Prop) (s : Sg) (th : Int) (v5 : Int) (x0 : Int) (x1 : Int) (x2 : Int) : Prop := Wp g (e + 1) M_X11_mayLie Q 117 [(19, th), (9, 0), (9, 0), (9, 0), (9, 0), (0, v5)] [(0, x2), (0, x1), (33, x0)] s
abbrev P_X11_mayLie_148 (g : GT) (e : Nat) (Q : Int → Sg → Prop) (s : Sg) (th : Int) (x0 : Int) (x1 : Int) (x2 : Int) : Prop := Wp g (e + 1) M_X11_mayLie Q 148 [(19, th), (9, 0), (9, 0), (9, 0), (9, 0), (9, 0)] [(0, x2), (0, x1), (33, x0)] s
set_option maxRecDepth 20000 in
theorem S_X11_mayLie_43 {g : GT} {e : Nat} {Q : Int → Sg → Prop} {s : Sg} {th : Int} {v1 : Int} {v3 : Int} {v4 : Int} {x0 : Int} (h : ((0 ≤ v1 ∧ v1 < 8) ∧ (Mw g e M_X11_age [(19, th), (0, v1)] s (fun r1 s2 => ((0 ≤ v1 ∧ v1 < 8) ∧ (Mw g e M_X9_setFacts [(18, (s th 0)), (0, (s (th + 1) v1)), (0, r1), (0, (s2 (th + 2) v1)), (0, (s2 th 1))] s2 (fun _ s4 => (∀ s5, s5 = ups s4 ((s4 th 0) + 20) 5 v4 → ((v3 = (-1) → P_X11_mayLie_117 g e Q s5 th x0 ((s5 th 0) + 20) 6 0) ∧ (¬ v3 = (-1) → ((0 ≤ v3 ∧ v3 < 8) ∧ P_X11_mayLie_117 g e Q s5 th x0 ((s5 th 0) + 20) 6 (s5 (th + 2) v3)))))))))))) : P_X11_mayLie_43 g e Q s th v1 v3 v4 x0 := by
  refine r_istore (ls2 := [(19, th), (0, v1), (9, 0), (0, v3), (0, v4), (0, x0)]) dX11_mayLie_43 (by decide) rfl ?_
  refine r_aload_n dX11_mayLie_45 rfl rfl ?_
  refine gf_X11_34 rfl dX11_mayLie_46 ?_
  refine r_aload_n dX11_mayLie_49 rfl rfl ?_
  refine gf_X11_9 rfl dX11_mayLie_50 ?_
  refine r_iload_n dX11_mayLie_53 rfl ?_
  obtain ⟨hb, h⟩ := h
  refine r_iald (n := 8) rfl (by decide) dX11_mayLie_54 hb ?_
  refine r_aload_n dX11_mayLie_55 rfl rfl ?_
  refine r_iload_n dX11_mayLie_56 rfl ?_
  refine r_callV (ci := 9) (As := [(0, v1)]) (st := [(0, (s (th + 1) v1)), (18, (s th 0))]) (by decide) ok_X11_83 rfl rfl (Nat.le_of_ble_eq_true rfl) dX11_mayLie_57 h (fun r1 s2 hv h => ?_)
  refine r_aload_n dX11_mayLie_60 rfl rfl ?_
  refine gf_X11_15 rfl dX11_mayLie_61 ?_
  refine r_iload_n dX11_mayLie_64 rfl ?_
  obtain ⟨hb, h⟩ := h
  refine r_iald (n := 8) rfl (by decide) dX11_mayLie_65 hb ?_
  refine r_aload_n dX11_mayLie_66 rfl rfl ?_
  refine gf_X11_38 rfl dX11_mayLie_67 ?_
  refine r_callV (ci := 8) (As := [(0, (s (th + 1) v1)), (0, r1), (0, (s2 (th + 2) v1)), (0, (s2 th 1))]) (st := []) (by decide) ok_X11_205 rfl rfl (Nat.le_of_ble_eq_true rfl) dX11_mayLie_70 h (fun r3 s4 hv h => ?_)
  refine r_aload_n dX11_mayLie_73 rfl rfl ?_
  refine gf_X11_34 rfl dX11_mayLie_74 ?_
  refine gf_X11_209 rfl dX11_mayLie_77 ?_
  refine r_getsE (i := 21) (v := 21) (by decide) rfl lk_X11_212 dX11_mayLie_80 ?_
  refine r_getEf lk_X11_218 dX11_mayLie_83 ?_
  show Wp g (e + 1) M_X11_mayLie Q 86 [(19, th), (0, v1), (9, 0), (0, v3), (0, v4), (0, x0)] [(0, 5), (33, ((s4 th 0) + 20))] s4
  refine r_iload dX11_mayLie_86 rfl ?_
  refine r_iast (n := 8) rfl (by decide) dX11_mayLie_88 (by decide) ?_
  have h := h _ rfl
  generalize hs_s5 : ups s4 ((s4 th 0) + 20) 5 v4 = s5 at h ⊢
  refine r_aload_n dX11_mayLie_89 rfl rfl ?_
  refine gf_X11_34 rfl dX11_mayLie_90 ?_
  refine gf_X11_209 rfl dX11_mayLie_93 ?_
  refine r_getsE (i := 22) (v := 22) (by decide) rfl lk_X11_221 dX11_mayLie_96 ?_
  refine r_getEf lk_X11_218 dX11_mayLie_99 ?_
  show Wp g (e + 1) M_X11_mayLie Q 102 [(19, th), (0, v1), (9, 0), (0, v3), (0, v4), (0, x0)] [(0, 6), (33, ((s5 th 0) + 20))] s5
  refine r_iload_n dX11_mayLie_102 rfl ?_
  refine r_iconst dX11_mayLie_103 (by decide) ?_
  refine r_icmp_eq (tgt := 116) dX11_mayLie_104 (by decide) (fun hc => ?_) (fun hc => ?_)
  · have h := h.1 hc
    refine r_iconst dX11_mayLie_116 (by decide) ?_
    exact r_fgt [true, false, false, false, false, true] rfl h
  · have h := h.2 hc
    refine r_aload_n dX11_mayLie_107 rfl rfl ?_
    refine gf_X11_15 rfl dX11_mayLie_108 ?_
    refine r_iload_n dX11_mayLie_111 rfl ?_
    obtain ⟨hb, h⟩ := h
    refine r_iald (n := 8) rfl (by decide) dX11_mayLie_112 hb ?_
    refine r_goto (tgt := 117) dX11_mayLie_113 (by decide) ?_
    exact r_fgt [true, false, false, false, false, true] rfl h
set_option maxRecDepth 20000 in
theorem S_X11_mayLie_117 {g : GT} {e : Nat} {Q : Int → Sg → Prop} {s : Sg} {th : Int} {v5 : Int} {x0 : Int} {x1 : Int} {x2 : Int} (h : ((0 ≤ x1 ∧ x1 < 8) ∧ ∀ s1, s1 = ups s x0 x1 x2 → ((v5 = (-1) → P_X11_mayLie_148 g e Q s1 th ((s1 th 0) + 20) 7 0) ∧ (¬ v5 = (-1) → ((0 ≤ v5 ∧ v5 < 8) ∧ P_X11_mayLie_148 g e Q s1 th ((s1 th 0) + 20) 7 (s1 (th + 2) v5)))))) : P_X11_mayLie_117 g e Q s th v5 x0 x1 x2 := by
  obtain ⟨hb, h⟩ := h
  refine r_iast (n := 8) rfl (by decide) dX11_mayLie_117 hb ?_
  have h := h _ rfl
  generalize hs_s1 : ups s x0 x1 x2 = s1 at h ⊢
  refine r_aload_n dX11_mayLie_118 rfl rfl ?_
  refine gf_X11_34 rfl dX11_mayLie_119 ?_
  refine gf_X11_209 rfl dX11_mayLie_122 ?_
  refine r_getsE (i := 23) (v := 23) (by decide) rfl lk_X11_224 dX11_mayLie_125 ?_
  refine r_getEf lk_X11_218 dX11_mayLie_128 ?_
  show Wp g (e + 1) M_X11_mayLie Q 131 [(19, th), (9, 0), (9, 0), (9, 0), (9, 0), (0, v5)] [(0, 7), (33, ((s1 th 0) + 20))] s1
  refine r_iload dX11_mayLie_131 rfl ?_
  refine r_iconst dX11_mayLie_133 (by decide) ?_
  refine r_icmp_eq (tgt := 147) dX11_mayLie_134 (by decide) (fun hc => ?_) (fun hc => ?_)
  · have h := h.1 hc
    refine r_iconst dX11_mayLie_147 (by decide) ?_
    exact r_fgt [true, false, false, false, false, false] rfl h
  · have h := h.2 hc
    refine r_aload_n dX11_mayLie_137 rfl rfl ?_
    refine gf_X11_15 rfl dX11_mayLie_138 ?_
    refine r_iload dX11_mayLie_141 rfl ?_
    obtain ⟨hb, h⟩ := h
    refine r_iald (n := 8) rfl (by decide) dX11_mayLie_143 hb ?_
    refine r_goto (tgt := 148) dX11_mayLie_144 (by decide) ?_
    exact r_fgt [true, false, false, false, false, false] rfl h
set_option maxRecDepth 20000 in
theorem S_X11_mayLie_148 {g : GT} {e : Nat} {Q : Int → Sg → Prop} {s : Sg} {th : Int} {x0 : Int} {x1 : Int} {x2 : Int} (h : ((0 ≤ x1 ∧ x1 < 8) ∧ ∀ s1, s1 = ups s x0 x1 x2 → (Mw g e M_X2_value [(11, ((s1 th 0) + 17)), (33, ((s1 th 0) + 20))] s1 (fun r2 s3 => ((r2 = 0 → Q 0 s3) ∧ (¬ r2 = 0 → Q 1 s3)))))) : P_X11_mayLie_148 g e Q s th x0 x1 x2 := by
  obtain ⟨hb, h⟩ := h
  refine r_iast (n := 8) rfl (by decide) dX11_mayLie_148 hb ?_
  have h := h _ rfl
  generalize hs_s1 : ups s x0 x1 x2 = s1 at h ⊢
  refine r_aload_n dX11_mayLie_149 rfl rfl ?_
  refine gf_X11_34 rfl dX11_mayLie_150 ?_
  refine gf_X11_196 rfl dX11_mayLie_153 ?_
  refine r_aload_n dX11_mayLie_156 rfl rfl ?_
  refine gf_X11_34 rfl dX11_mayLie_157 ?_
  refine gf_X11_209 rfl dX11_mayLie_160 ?_
  refine r_callV (ci := 1) (As := [(33, ((s1 th 0) + 20))]) (st := []) (by decide) ok_X11_227 rfl rfl (Nat.le_of_ble_eq_true rfl) dX11_mayLie_163 h (fun r2 s3 hv h => ?_)
  refine r_if_eq (tgt := 173) dX11_mayLie_166 (by decide) (fun hc => ?_) (fun hc => ?_)
  · have h := h.1 hc
    refine r_iconst dX11_mayLie_173 (by decide) ?_
    exact r_zret dX11_mayLie_174 rfl (by decide) h
  · have h := h.2 hc
    refine r_iconst dX11_mayLie_169 (by decide) ?_
    refine r_goto (tgt := 174) dX11_mayLie_170 (by decide) ?_
    exact r_zret dX11_mayLie_174 rfl (by decide) h
set_option maxRecDepth 20000 in
theorem S_X11_mayLie {g : GT} {e : Nat} {Q : Int → Sg → Prop} {s : Sg} {th : Int} {v1 : Int} {v2 : Int} (h : (gr g th ∧ tg th = 19) → inR v1 → inR v2 → ((¬ (s ((s th 0) + 17) 2) = 0 → (Mw g e M_X11_leftOf [(19, th), (0, v2)] s (fun r1 s2 => (((Int.tmod v2 4) ≤ 0 → P_X11_mayLie_43 g e Q s2 th v1 r1 (Int.tmod v2 4) (-1)) ∧ (¬ (Int.tmod v2 4) ≤ 0 → ((0 ≤ (w32 (v2 - 1)) ∧ (w32 (v2 - 1)) < 64) ∧ P_X11_mayLie_43 g e Q s2 th v1 r1 (Int.tmod v2 4) (s2 (th + 4) (w32 (v2 - 1))))))))) ∧ ((s ((s th 0) + 17) 2) = 0 → Q 1 s))) : Mw g (e + 1) M_X11_mayLie [(19, th), (0, v1), (0, v2)] s Q := by
  refine Mw.of (ls := [(19, th), (0, v1), (0, v2), (9, 0), (9, 0), (9, 0)]) pn_X11_mayLie (Nat.le_of_ble_eq_true rfl) rfl (fun hv => ?_)
  have h := h (vld_o (by decide) (hv _ (List.Mem.head _))) (hv _ (List.Mem.tail _ (List.Mem.head _))) (hv _ (List.Mem.tail _ (List.Mem.tail _ (List.Mem.head _))))
  refine r_aload_n dX11_mayLie_0 rfl rfl ?_
  refine gf_X11_34 rfl dX11_mayLie_1 ?_
  refine gf_X11_196 rfl dX11_mayLie_4 ?_
  refine gf_X11_200 rfl dX11_mayLie_7 ?_
  refine r_if_ne (tgt := 15) dX11_mayLie_10 (by decide) (fun hc => ?_) (fun hc => ?_)
  · have h := h.1 hc
    refine r_aload_n dX11_mayLie_15 rfl rfl ?_
    refine r_iload_n dX11_mayLie_16 rfl ?_
    refine r_callV (ci := 9) (As := [(0, v2)]) (st := []) (by decide) ok_X11_187 rfl rfl (Nat.le_of_ble_eq_true rfl) dX11_mayLie_17 h (fun r1 s2 hv h => ?_)
    refine r_istore_n (ls2 := [(19, th), (0, v1), (0, v2), (0, r1), (9, 0), (9, 0)]) dX11_mayLie_20 (by decide) rfl ?_
    refine r_iload_n dX11_mayLie_21 rfl ?_
    refine r_iconst dX11_mayLie_22 (by decide) ?_
    refine r_irem dX11_mayLie_23 (by decide) ?_
    refine r_istore (ls2 := [(19, th), (0, v1), (0, v2), (0, r1), (0, (Int.tmod v2 4)), (9, 0)]) dX11_mayLie_24 (by decide) rfl ?_
    refine r_iload dX11_mayLie_26 rfl ?_
    refine r_if_le (tgt := 42) dX11_mayLie_28 (by decide) (fun hc => ?_) (fun hc => ?_)
    · have h := h.1 hc
      refine r_iconst dX11_mayLie_42 (by decide) ?_
      exact r_fgt [true, true, false, true, true, false] rfl h
    · have h := h.2 hc
      refine r_aload_n dX11_mayLie_31 rfl rfl ?_
      refine gf_X11_21 rfl dX11_mayLie_32 ?_
      refine r_iload_n dX11_mayLie_35 rfl ?_
      refine r_iconst dX11_mayLie_36 (by decide) ?_
      refine r_isub dX11_mayLie_37 ?_
      obtain ⟨hb, h⟩ := h
      refine r_iald (n := 64) rfl (by decide) dX11_mayLie_38 hb ?_
      refine r_goto (tgt := 43) dX11_mayLie_39 (by decide) ?_
      exact r_fgt [true, true, false, true, true, false] rfl h
  · have h := h.2 hc
    refine r_iconst dX11_mayLie_13 (by decide) ?_
    exact r_zret dX11_mayLie_14 rfl (by decide) h
abbrev P_X11_buildIn_2 (g : GT) (e : Nat) (Q : Int → Sg → Prop) (s : Sg) (th : Int) (v1 : Int) (v2 : Int) : Prop := Wp g (e + 1) M_X11_buildIn Q 2 [(19, th), (0, v1), (0, v2), (9, 0)] [] s
set_option maxRecDepth 20000 in
theorem S_X11_buildIn_2 {g : GT} {e : Nat} {Q : Int → Sg → Prop} {s : Sg} {th : Int} {v1 : Int} {v2 : Int} (h : (Mw g e M_X9_wallCount [(18, (s th 0))] s (fun r1 s2 => ((r1 ≤ v2 → Q 0 s2) ∧ (¬ r1 ≤ v2 → (Mw g e M_X11_freeSpot [(19, th), (0, v2)] s2 (fun r3 s4 => ((r3 = (-1) → P_X11_buildIn_2 g e Q s4 th v1 (w32 (v2 + 1))) ∧ (¬ r3 = (-1) → (Mw g e M_X11_isPeaceful [(19, th), (0, v1), (0, r3)] s4 (fun r5 s6 => ((r5 = 0 → P_X11_buildIn_2 g e Q s6 th v1 (w32 (v2 + 1))) ∧ (¬ r5 = 0 → (Mw g e M_X11_mayLie [(19, th), (0, v1), (0, r3)] s6 (fun r7 s8 => ((r7 = 0 → P_X11_buildIn_2 g e Q s8 th v1 (w32 (v2 + 1))) ∧ (¬ r7 = 0 → (Mw g e M_X11_put [(19, th), (0, v1), (0, r3)] s8 (fun _ s10 => (Mw g e M_X11_weakSpot [(19, th), (0, v2)] s10 (fun r11 s12 => ((¬ r11 = (-1) → (Mw g e M_X11_lift [(19, th), (0, v1)] s12 (fun _ s14 => P_X11_buildIn_2 g e Q s14 th v1 (w32 (v2 + 1))))) ∧ (r11 = (-1) → (∀ s15, s15 = ups s12 th 12 (w32 ((s12 th 12) + 1)) → (Mw g e M_X11_keep [(19, th), (0, v1), (0, v2), (0, 1)] s15 (fun _ s17 => Q 1 s17)))))))))))))))))))))))))) : P_X11_buildIn_2 g e Q s th v1 v2 := by
  refine r_iload_n dX11_buildIn_2 rfl ?_
  refine r_aload_n dX11_buildIn_3 rfl rfl ?_
  refine gf_X11_34 rfl dX11_buildIn_4 ?_
  refine r_callV (ci := 8) (As := []) (st := [(0, v2)]) (by decide) ok_X11_107 rfl rfl (Nat.le_of_ble_eq_true rfl) dX11_buildIn_7 h (fun r1 s2 hv h => ?_)
  refine r_icmp_ge (tgt := 87) dX11_buildIn_10 (by decide) (fun hc => ?_) (fun hc => ?_)
  · have h := h.1 hc
    refine r_iconst dX11_buildIn_87 (by decide) ?_
    exact r_zret dX11_buildIn_88 rfl (by decide) h
  · have h := h.2 hc
    refine r_aload_n dX11_buildIn_13 rfl rfl ?_
    refine r_iload_n dX11_buildIn_14 rfl ?_
    refine r_callV (ci := 9) (As := [(0, v2)]) (st := []) (by decide) ok_X11_173 rfl rfl (Nat.le_of_ble_eq_true rfl) dX11_buildIn_15 h (fun r3 s4 hv h => ?_)
    refine r_istore_n (ls2 := [(19, th), (0, v1), (0, v2), (0, r3)]) dX11_buildIn_18 (by decide) rfl ?_
    refine r_iload_n dX11_buildIn_19 rfl ?_
    refine r_iconst dX11_buildIn_20 (by decide) ?_
    refine r_icmp_eq (tgt := 81) dX11_buildIn_21 (by decide) (fun hc => ?_) (fun hc => ?_)
    · have h := h.1 hc
      refine r_iinc (ls2 := [(19, th), (0, v1), (0, (w32 (v2 + 1))), (0, r3)]) dX11_buildIn_81 rfl (by decide) rfl ?_
      refine r_goto (tgt := 2) dX11_buildIn_84 (by decide) ?_
      exact r_fgt [true, true, true, false] rfl h
    · have h := h.2 hc
      refine r_aload_n dX11_buildIn_24 rfl rfl ?_
      refine r_iload_n dX11_buildIn_25 rfl ?_
      refine r_iload_n dX11_buildIn_26 rfl ?_
      refine r_callV (ci := 9) (As := [(0, v1), (0, r3)]) (st := []) (by decide) ok_X11_176 rfl rfl (Nat.le_of_ble_eq_true rfl) dX11_buildIn_27 h (fun r5 s6 hv h => ?_)
      refine r_if_eq (tgt := 81) dX11_buildIn_30 (by decide) (fun hc => ?_) (fun hc => ?_)
      · have h := h.1 hc
        refine r_iinc (ls2 := [(19, th), (0, v1), (0, (w32 (v2 + 1))), (0, r3)]) dX11_buildIn_81 rfl (by decide) rfl ?_
        refine r_goto (tgt := 2) dX11_buildIn_84 (by decide) ?_
        exact r_fgt [true, true, true, false] rfl h
      · have h := h.2 hc
        refine r_aload_n dX11_buildIn_33 rfl rfl ?_
        refine r_iload_n dX11_buildIn_34 rfl ?_
        refine r_iload_n dX11_buildIn_35 rfl ?_
        refine r_callV (ci := 9) (As := [(0, v1), (0, r3)]) (st := []) (by decide) ok_X11_180 rfl rfl (Nat.le_of_ble_eq_true rfl) dX11_buildIn_36 h (fun r7 s8 hv h => ?_)
        refine r_if_eq (tgt := 81) dX11_buildIn_39 (by decide) (fun hc => ?_) (fun hc => ?_)
        · have h := h.1 hc
          refine r_iinc (ls2 := [(19, th), (0, v1), (0, (w32 (v2 + 1))), (0, r3)]) dX11_buildIn_81 rfl (by decide) rfl ?_
          refine r_goto (tgt := 2) dX11_buildIn_84 (by decide) ?_
          exact r_fgt [true, true, true, false] rfl h
        · have h := h.2 hc
          refine r_aload_n dX11_buildIn_42 rfl rfl ?_
          refine r_iload_n dX11_buildIn_43 rfl ?_
          refine r_iload_n dX11_buildIn_44 rfl ?_
          refine r_callV (ci := 9) (As := [(0, v1), (0, r3)]) (st := []) (by decide) ok_X11_183 rfl rfl (Nat.le_of_ble_eq_true rfl) dX11_buildIn_45 h (fun r9 s10 hv h => ?_)
          refine r_aload_n dX11_buildIn_48 rfl rfl ?_
          refine r_iload_n dX11_buildIn_49 rfl ?_
          refine r_callV (ci := 9) (As := [(0, v2)]) (st := []) (by decide) ok_X11_159 rfl rfl (Nat.le_of_ble_eq_true rfl) dX11_buildIn_50 h (fun r11 s12 hv h => ?_)
          refine r_iconst dX11_buildIn_53 (by decide) ?_
          refine r_icmp_ne (tgt := 76) dX11_buildIn_54 (by decide) (fun hc => ?_) (fun hc => ?_)
          · have h := h.1 hc
            refine r_aload_n dX11_buildIn_76 rfl rfl ?_
            refine r_iload_n dX11_buildIn_77 rfl ?_
            refine r_callV (ci := 9) (As := [(0, v1)]) (st := []) (by decide) ok_X11_166 rfl rfl (Nat.le_of_ble_eq_true rfl) dX11_buildIn_78 h (fun r13 s14 hv h => ?_)
            refine r_iinc (ls2 := [(19, th), (0, v1), (0, (w32 (v2 + 1))), (0, r3)]) dX11_buildIn_81 rfl (by decide) rfl ?_
            refine r_goto (tgt := 2) dX11_buildIn_84 (by decide) ?_
            exact r_fgt [true, true, true, false] rfl h
          · have h := h.2 hc
            refine r_aload_n dX11_buildIn_57 rfl rfl ?_
            refine r_dup dX11_buildIn_58 (show (19 : Nat) ≠ 2 by decide) ?_
            refine gf_X11_77 rfl dX11_buildIn_59 ?_
            refine r_iconst dX11_buildIn_62 (by decide) ?_
            refine r_iadd dX11_buildIn_63 ?_
            refine pf_X11_77 rfl dX11_buildIn_64 ?_
            have h := h _ rfl
            generalize hs_s15 : ups s12 th 12 (w32 ((s12 th 12) + 1)) = s15 at h ⊢
            refine r_aload_n dX11_buildIn_67 rfl rfl ?_
            refine r_iload_n dX11_buildIn_68 rfl ?_
            refine r_iload_n dX11_buildIn_69 rfl ?_
            refine r_iconst dX11_buildIn_70 (by decide) ?_
            refine r_callV (ci := 9) (As := [(0, v1), (0, v2), (0, 1)]) (st := []) (by decide) ok_X11_169 rfl rfl (Nat.le_of_ble_eq_true rfl) dX11_buildIn_71 h (fun r16 s17 hv h => ?_)
            refine r_iconst dX11_buildIn_74 (by decide) ?_
            exact r_zret dX11_buildIn_75 rfl (by decide) h
set_option maxRecDepth 20000 in
theorem S_X11_buildIn {g : GT} {e : Nat} {Q : Int → Sg → Prop} {s : Sg} {th : Int} {v1 : Int} (h : (gr g th ∧ tg th = 19) → inR v1 → P_X11_buildIn_2 g e Q s th v1 0) : Mw g (e + 1) M_X11_buildIn [(19, th), (0, v1)] s Q := by
  refine Mw.of (ls := [(19, th), (0, v1), (9, 0), (9, 0)]) pn_X11_buildIn (Nat.le_of_ble_eq_true rfl) rfl (fun hv => ?_)
  have h := h (vld_o (by decide) (hv _ (List.Mem.head _))) (hv _ (List.Mem.tail _ (List.Mem.head _)))
  refine r_iconst dX11_buildIn_0 (by decide) ?_
  refine r_istore_n (ls2 := [(19, th), (0, v1), (0, 0), (9, 0)]) dX11_buildIn_1 (by decide) rfl ?_
  exact h
abbrev P_X11_passYear_28 (g : GT) (e : Nat) (Q : Int → Sg → Prop) (s : Sg) (th : Int) : Prop := Wp g (e + 1) M_X11_passYear Q 28 [(19, th), (9, 0), (9, 0)] [] s
abbrev P_X11_passYear_39 (g : GT) (e : Nat) (Q : Int → Sg → Prop) (s : Sg) (th : Int) (v2 : Int) : Prop := Wp g (e + 1) M_X11_passYear Q 39 [(19, th), (9, 0), (0, v2)] [] s
set_option maxRecDepth 20000 in
theorem S_X11_passYear_28 {g : GT} {e : Nat} {Q : Int → Sg → Prop} {s : Sg} {th : Int} (h : (∀ s1, s1 = ups s th 10 0 → (Mw g e M_X11_fall [(19, th)] s1 (fun _ s3 => P_X11_passYear_39 g e Q s3 th 0)))) : P_X11_passYear_28 g e Q s th := by
  refine r_aload_n dX11_passYear_28 rfl rfl ?_
  refine r_iconst dX11_passYear_29 (by decide) ?_
  refine pf_X11_71 rfl dX11_passYear_30 ?_
  have h := h _ rfl
  generalize hs_s1 : ups s th 10 0 = s1 at h ⊢
  refine r_aload_n dX11_passYear_33 rfl rfl ?_
  refine r_callV (ci := 9) (As := []) (st := []) (by decide) ok_X11_146 rfl rfl (Nat.le_of_ble_eq_true rfl) dX11_passYear_34 h (fun r2 s3 hv h => ?_)
  refine r_iconst dX11_passYear_37 (by decide) ?_
  refine r_istore_n (ls2 := [(19, th), (9, 0), (0, 0)]) dX11_passYear_38 (by decide) rfl ?_
  exact h
set_option maxRecDepth 20000 in
theorem S_X11_passYear_39 {g : GT} {e : Nat} {Q : Int → Sg → Prop} {s : Sg} {th : Int} {v2 : Int} (h : (Mw g e M_X9_childCount [(18, (s th 0))] s (fun r1 s2 => ((r1 ≤ v2 → Q 0 s2) ∧ (¬ r1 ≤ v2 → (Mw g e M_X11_where [(19, th), (0, v2)] s2 (fun r3 s4 => ((¬ r3 = 2 → P_X11_passYear_39 g e Q s4 th (w32 (v2 + 1))) ∧ (r3 = 2 → ((¬ (bAnd (s4 th 10) (bShl 1 v2)) = 0 → P_X11_passYear_39 g e Q s4 th (w32 (v2 + 1))) ∧ ((bAnd (s4 th 10) (bShl 1 v2)) = 0 → (Mw g e M_X11_buildIn [(19, th), (0, v2)] s4 (fun r5 s6 => P_X11_passYear_39 g e Q s6 th (w32 (v2 + 1))))))))))))))) : P_X11_passYear_39 g e Q s th v2 := by
  refine r_iload_n dX11_passYear_39 rfl ?_
  refine r_aload_n dX11_passYear_40 rfl rfl ?_
  refine gf_X11_34 rfl dX11_passYear_41 ?_
  refine r_callV (ci := 8) (As := []) (st := [(0, v2)]) (by decide) ok_X11_97 rfl rfl (Nat.le_of_ble_eq_true rfl) dX11_passYear_44 h (fun r1 s2 hv h => ?_)
  refine r_icmp_ge (tgt := 82) dX11_passYear_47 (by decide) (fun hc => ?_) (fun hc => ?_)
  · have h := h.1 hc
    exact r_ret dX11_passYear_82 rfl h
  · have h := h.2 hc
    refine r_aload_n dX11_passYear_50 rfl rfl ?_
    refine r_iload_n dX11_passYear_51 rfl ?_
    refine r_callV (ci := 9) (As := [(0, v2)]) (st := []) (by decide) ok_X11_101 rfl rfl (Nat.le_of_ble_eq_true rfl) dX11_passYear_52 h (fun r3 s4 hv h => ?_)
    refine r_iconst dX11_passYear_55 (by decide) ?_
    refine r_icmp_ne (tgt := 76) dX11_passYear_56 (by decide) (fun hc => ?_) (fun hc => ?_)
    · have h := h.1 hc
      refine r_iinc (ls2 := [(19, th), (9, 0), (0, (w32 (v2 + 1)))]) dX11_passYear_76 rfl (by decide) rfl ?_
      refine r_goto (tgt := 39) dX11_passYear_79 (by decide) ?_
      exact h
    · have h := h.2 hc
      refine r_aload_n dX11_passYear_59 rfl rfl ?_
      refine gf_X11_71 rfl dX11_passYear_60 ?_
      refine r_iconst dX11_passYear_63 (by decide) ?_
      refine r_iload_n dX11_passYear_64 rfl ?_
      refine r_ishl dX11_passYear_65 ?_
      refine r_iand dX11_passYear_66 ?_
      refine r_if_ne (tgt := 76) dX11_passYear_67 (by decide) (fun hc => ?_) (fun hc => ?_)
      · have h := h.1 hc
        refine r_iinc (ls2 := [(19, th), (9, 0), (0, (w32 (v2 + 1)))]) dX11_passYear_76 rfl (by decide) rfl ?_
        refine r_goto (tgt := 39) dX11_passYear_79 (by decide) ?_
        exact h
      · have h := h.2 hc
        refine r_aload_n dX11_passYear_70 rfl rfl ?_
        refine r_iload_n dX11_passYear_71 rfl ?_
        refine r_callV (ci := 9) (As := [(0, v2)]) (st := []) (by decide) ok_X11_149 rfl rfl (Nat.le_of_ble_eq_true rfl) dX11_passYear_72 h (fun r5 s6 hv h => ?_)
        refine r_pop dX11_passYear_75 (show (0 : Nat) ≠ 2 by decide) ?_
        refine r_iinc (ls2 := [(19, th), (9, 0), (0, (w32 (v2 + 1)))]) dX11_passYear_76 rfl (by decide) rfl ?_
        refine r_goto (tgt := 39) dX11_passYear_79 (by decide) ?_
        exact h
set_option maxRecDepth 20000 in
theorem S_X11_passYear {g : GT} {e : Nat} {Q : Int → Sg → Prop} {s : Sg} {th : Int} {v1 : Int} (h : (gr g th ∧ tg th = 19) → inR v1 → (Mw g e M_X11_raise [(19, th)] s (fun _ s2 => (∀ s3, s3 = ups s2 th 1 (min 999 (w32 ((s2 th 1) + 1))) → ((v1 = 0 → P_X11_passYear_28 g e Q s3 th) ∧ (¬ v1 = 0 → (Mw g e M_X11_freeze [(19, th)] s3 (fun _ s5 => P_X11_passYear_28 g e Q s5 th)))))))) : Mw g (e + 1) M_X11_passYear [(19, th), (0, v1)] s Q := by
  refine Mw.of (ls := [(19, th), (0, v1), (9, 0)]) pn_X11_passYear (Nat.le_of_ble_eq_true rfl) rfl (fun hv => ?_)
  have h := h (vld_o (by decide) (hv _ (List.Mem.head _))) (hv _ (List.Mem.tail _ (List.Mem.head _)))
  refine r_aload_n dX11_passYear_0 rfl rfl ?_
  refine r_callV (ci := 9) (As := []) (st := []) (by decide) ok_X11_137 rfl rfl (Nat.le_of_ble_eq_true rfl) dX11_passYear_1 h (fun r1 s2 hv h => ?_)
  refine r_aload_n dX11_passYear_4 rfl rfl ?_
  refine r_sipush dX11_passYear_5 (by decide) rfl ?_
  refine r_aload_n dX11_passYear_8 rfl rfl ?_
  refine gf_X11_38 rfl dX11_passYear_9 ?_
  refine r_iconst dX11_passYear_12 (by decide) ?_
  refine r_iadd dX11_passYear_13 ?_
  refine r_minI lm_X11_140 (Nat.le_of_ble_eq_true rfl) dX11_passYear_14 ?_
  refine pf_X11_38 rfl dX11_passYear_17 ?_
  have h := h _ rfl
  generalize hs_s3 : ups s2 th 1 (min 999 (w32 ((s2 th 1) + 1))) = s3 at h ⊢
  refine r_iload_n dX11_passYear_20 rfl ?_
  refine r_if_eq (tgt := 28) dX11_passYear_21 (by decide) (fun hc => ?_) (fun hc => ?_)
  · have h := h.1 hc
    exact r_fgt [true, false, false] rfl h
  · have h := h.2 hc
    refine r_aload_n dX11_passYear_24 rfl rfl ?_
    refine r_callV (ci := 9) (As := []) (st := []) (by decide) ok_X11_143 rfl rfl (Nat.le_of_ble_eq_true rfl) dX11_passYear_25 h (fun r4 s5 hv h => ?_)
    exact r_fgt [true, false, false] rfl h
abbrev P_X11_bitsAt_4 (g : GT) (e : Nat) (Q : Int → Sg → Prop) (s : Sg) (th : Int) (v1 : Int) (v2 : Int) (v3 : Int) : Prop := Wp g (e + 1) M_X11_bitsAt Q 4 [(19, th), (0, v1), (0, v2), (0, v3)] [] s
set_option maxRecDepth 20000 in
theorem S_X11_bitsAt_4 {g : GT} {e : Nat} {Q : Int → Sg → Prop} {s : Sg} {th : Int} {v1 : Int} {v2 : Int} {v3 : Int} (h : (Mw g e M_X9_childCount [(18, (s th 0))] s (fun r1 s2 => ((r1 ≤ v3 → Q v2 s2) ∧ (¬ r1 ≤ v3 → (Mw g e M_X11_where [(19, th), (0, v3)] s2 (fun r3 s4 => ((¬ r3 = v1 → P_X11_bitsAt_4 g e Q s4 th v1 (bOr v2 0) (w32 (v3 + 1))) ∧ (r3 = v1 → P_X11_bitsAt_4 g e Q s4 th v1 (bOr v2 (bShl 1 v3)) (w32 (v3 + 1))))))))))) : P_X11_bitsAt_4 g e Q s th v1 v2 v3 := by
  refine r_iload_n dX11_bitsAt_4 rfl ?_
  refine r_aload_n dX11_bitsAt_5 rfl rfl ?_
  refine gf_X11_34 rfl dX11_bitsAt_6 ?_
  refine r_callV (ci := 8) (As := []) (st := [(0, v3)]) (by decide) ok_X11_97 rfl rfl (Nat.le_of_ble_eq_true rfl) dX11_bitsAt_9 h (fun r1 s2 hv h => ?_)
  refine r_icmp_ge (tgt := 40) dX11_bitsAt_12 (by decide) (fun hc => ?_) (fun hc => ?_)
  · have h := h.1 hc
    refine r_iload_n dX11_bitsAt_40 rfl ?_
    exact r_iret dX11_bitsAt_41 rfl h
  · have h := h.2 hc
    refine r_iload_n dX11_bitsAt_15 rfl ?_
    refine r_aload_n dX11_bitsAt_16 rfl rfl ?_
    refine r_iload_n dX11_bitsAt_17 rfl ?_
    refine r_callV (ci := 9) (As := [(0, v3)]) (st := [(0, v2)]) (by decide) ok_X11_101 rfl rfl (Nat.le_of_ble_eq_true rfl) dX11_bitsAt_18 h (fun r3 s4 hv h => ?_)
    refine r_iload_n dX11_bitsAt_21 rfl ?_
    refine r_icmp_ne (tgt := 31) dX11_bitsAt_22 (by decide) (fun hc => ?_) (fun hc => ?_)
    · have h := h.1 hc
      refine r_iconst dX11_bitsAt_31 (by decide) ?_
      refine r_ior dX11_bitsAt_32 ?_
      refine r_istore_n (ls2 := [(19, th), (0, v1), (0, (bOr v2 0)), (0, v3)]) dX11_bitsAt_33 (by decide) rfl ?_
      refine r_iinc (ls2 := [(19, th), (0, v1), (0, (bOr v2 0)), (0, (w32 (v3 + 1)))]) dX11_bitsAt_34 rfl (by decide) rfl ?_
      refine r_goto (tgt := 4) dX11_bitsAt_37 (by decide) ?_
      exact h
    · have h := h.2 hc
      refine r_iconst dX11_bitsAt_25 (by decide) ?_
      refine r_iload_n dX11_bitsAt_26 rfl ?_
      refine r_ishl dX11_bitsAt_27 ?_
      refine r_goto (tgt := 32) dX11_bitsAt_28 (by decide) ?_
      refine r_ior dX11_bitsAt_32 ?_
      refine r_istore_n (ls2 := [(19, th), (0, v1), (0, (bOr v2 (bShl 1 v3))), (0, v3)]) dX11_bitsAt_33 (by decide) rfl ?_
      refine r_iinc (ls2 := [(19, th), (0, v1), (0, (bOr v2 (bShl 1 v3))), (0, (w32 (v3 + 1)))]) dX11_bitsAt_34 rfl (by decide) rfl ?_
      refine r_goto (tgt := 4) dX11_bitsAt_37 (by decide) ?_
      exact h
set_option maxRecDepth 20000 in
theorem S_X11_bitsAt {g : GT} {e : Nat} {Q : Int → Sg → Prop} {s : Sg} {th : Int} {v1 : Int} (h : (gr g th ∧ tg th = 19) → inR v1 → P_X11_bitsAt_4 g e Q s th v1 0 0) : Mw g (e + 1) M_X11_bitsAt [(19, th), (0, v1)] s Q := by
  refine Mw.of (ls := [(19, th), (0, v1), (9, 0), (9, 0)]) pn_X11_bitsAt (Nat.le_of_ble_eq_true rfl) rfl (fun hv => ?_)
  have h := h (vld_o (by decide) (hv _ (List.Mem.head _))) (hv _ (List.Mem.tail _ (List.Mem.head _)))
  refine r_iconst dX11_bitsAt_0 (by decide) ?_
  refine r_istore_n (ls2 := [(19, th), (0, v1), (0, 0), (9, 0)]) dX11_bitsAt_1 (by decide) rfl ?_
  refine r_iconst dX11_bitsAt_2 (by decide) ?_
  refine r_istore_n (ls2 := [(19, th), (0, v1), (0, 0), (0, 0)]) dX11_bitsAt_3 (by decide) rfl ?_
  exact h
set_option maxRecDepth 20000 in
theorem S_X11_pullOut {g : GT} {e : Nat} {Q : Int → Sg → Prop} {s : Sg} {th : Int} {v1 : Int} (h : (gr g th ∧ tg th = 19) → inR v1 → ((0 ≤ v1 ∧ v1 < 8) ∧ (Mw g e M_X11_dropFrom [(19, th), (0, (s (th + 3) v1))] s (fun _ s2 => (Mw g e M_X11_fall [(19, th)] s2 (fun _ s4 => Q 0 s4)))))) : Mw g (e + 1) M_X11_pullOut [(19, th), (0, v1)] s Q := by
  refine Mw.of (ls := [(19, th), (0, v1)]) pn_X11_pullOut (Nat.le_of_ble_eq_true rfl) rfl (fun hv => ?_)
  have h := h (vld_o (by decide) (hv _ (List.Mem.head _))) (hv _ (List.Mem.tail _ (List.Mem.head _)))
  refine r_aload_n dX11_pullOut_0 rfl rfl ?_
  refine r_aload_n dX11_pullOut_1 rfl rfl ?_
  refine gf_X11_18 rfl dX11_pullOut_2 ?_
  refine r_iload_n dX11_pullOut_5 rfl ?_
  obtain ⟨hb, h⟩ := h
  refine r_iald (n := 8) rfl (by decide) dX11_pullOut_6 hb ?_
  refine r_callV (ci := 9) (As := [(0, (s (th + 3) v1))]) (st := []) (by decide) ok_X11_162 rfl rfl (Nat.le_of_ble_eq_true rfl) dX11_pullOut_7 h (fun r1 s2 hv h => ?_)
  refine r_aload_n dX11_pullOut_10 rfl rfl ?_
  refine r_callV (ci := 9) (As := []) (st := []) (by decide) ok_X11_146 rfl rfl (Nat.le_of_ble_eq_true rfl) dX11_pullOut_11 h (fun r3 s4 hv h => ?_)
  exact r_ret dX11_pullOut_14 rfl h
abbrev P_X11_strongWhenDone_24 (g : GT) (e : Nat) (Q : Int → Sg → Prop) (s : Sg) (th : Int) (v1 : Int) (v2 : Int) (v3 : Int) (v4 : Int) : Prop := Wp g (e + 1) M_X11_strongWhenDone Q 24 [(19, th), (0, v1), (0, v2), (0, v3), (0, v4)] [] s
set_option maxRecDepth 20000 in
theorem S_X11_strongWhenDone_24 {g : GT} {e : Nat} {Q : Int → Sg → Prop} {s : Sg} {th : Int} {v1 : Int} {v2 : Int} {v3 : Int} {v4 : Int} (h : (((s (s th 0) 15) ≤ v4 → Q v3 s) ∧ (¬ (s (s th 0) 15) ≤ v4 → ((0 ≤ v1 ∧ v1 < 8) ∧ (Mw g e M_X9_grown [(18, (s th 0)), (0, v2), (0, v4), (0, v3), (0, (w32 ((s ((s th 0) + 9) v1) + v4)))] s (fun r1 s2 => P_X11_strongWhenDone_24 g e Q s2 th v1 v2 r1 (w32 (v4 + 1)))))))) : P_X11_strongWhenDone_24 g e Q s th v1 v2 v3 v4 := by
  refine r_iload dX11_strongWhenDone_24 rfl ?_
  refine r_aload_n dX11_strongWhenDone_26 rfl rfl ?_
  refine gf_X11_34 rfl dX11_strongWhenDone_27 ?_
  refine gf_X11_87 rfl dX11_strongWhenDone_30 ?_
  refine r_icmp_ge (tgt := 66) dX11_strongWhenDone_33 (by decide) (fun hc => ?_) (fun hc => ?_)
  · have h := h.1 hc
    refine r_iload_n dX11_strongWhenDone_66 rfl ?_
    exact r_iret dX11_strongWhenDone_67 rfl h
  · have h := h.2 hc
    refine r_aload_n dX11_strongWhenDone_36 rfl rfl ?_
    refine gf_X11_34 rfl dX11_strongWhenDone_37 ?_
    refine r_iload_n dX11_strongWhenDone_40 rfl ?_
    refine r_iload dX11_strongWhenDone_41 rfl ?_
    refine r_iload_n dX11_strongWhenDone_43 rfl ?_
    refine r_aload_n dX11_strongWhenDone_44 rfl rfl ?_
    refine gf_X11_34 rfl dX11_strongWhenDone_45 ?_
    refine gf_X11_80 rfl dX11_strongWhenDone_48 ?_
    refine r_iload_n dX11_strongWhenDone_51 rfl ?_
    obtain ⟨hb, h⟩ := h
    refine r_iald (n := 8) rfl (by decide) dX11_strongWhenDone_52 hb ?_
    refine r_iload dX11_strongWhenDone_53 rfl ?_
    refine r_iadd dX11_strongWhenDone_55 ?_
    refine r_callV (ci := 8) (As := [(0, v2), (0, v4), (0, v3), (0, (w32 ((s ((s th 0) + 9) v1) + v4)))]) (st := []) (by decide) ok_X11_152 rfl rfl (Nat.le_of_ble_eq_true rfl) dX11_strongWhenDone_56 h (fun r1 s2 hv h => ?_)
    refine r_istore_n (ls2 := [(19, th), (0, v1), (0, v2), (0, r1), (0, v4)]) dX11_strongWhenDone_59 (by decide) rfl ?_
    refine r_iinc (ls2 := [(19, th), (0, v1), (0, v2), (0, r1), (0, (w32 (v4 + 1)))]) dX11_strongWhenDone_60 rfl (by decide) rfl ?_
    refine r_goto (tgt := 24) dX11_strongWhenDone_63 (by decide) ?_
    exact h
set_option maxRecDepth 20000 in
theorem S_X11_strongWhenDone {g : GT} {e : Nat} {Q : Int → Sg → Prop} {s : Sg} {th : Int} {v1 : Int} {v2 : Int} (h : (gr g th ∧ tg th = 19) → inR v1 → inR v2 → ((0 ≤ v1 ∧ v1 < 8) ∧ (Mw g e M_X11_age [(19, th), (0, v1)] s (fun r1 s2 => P_X11_strongWhenDone_24 g e Q s2 th v1 v2 (s (th + 2) v1) (max r1 (s2 (s2 th 0) 14)))))) : Mw g (e + 1) M_X11_strongWhenDone [(19, th), (0, v1), (0, v2)] s Q := by
  refine Mw.of (ls := [(19, th), (0, v1), (0, v2), (9, 0), (9, 0)]) pn_X11_strongWhenDone (Nat.le_of_ble_eq_true rfl) rfl (fun hv => ?_)
  have h := h (vld_o (by decide) (hv _ (List.Mem.head _))) (hv _ (List.Mem.tail _ (List.Mem.head _))) (hv _ (List.Mem.tail _ (List.Mem.tail _ (List.Mem.head _))))
  refine r_aload_n dX11_strongWhenDone_0 rfl rfl ?_
  refine gf_X11_15 rfl dX11_strongWhenDone_1 ?_
  refine r_iload_n dX11_strongWhenDone_4 rfl ?_
  obtain ⟨hb, h⟩ := h
  refine r_iald (n := 8) rfl (by decide) dX11_strongWhenDone_5 hb ?_
  refine r_istore_n (ls2 := [(19, th), (0, v1), (0, v2), (0, (s (th + 2) v1)), (9, 0)]) dX11_strongWhenDone_6 (by decide) rfl ?_
  refine r_aload_n dX11_strongWhenDone_7 rfl rfl ?_
  refine r_iload_n dX11_strongWhenDone_8 rfl ?_
  refine r_callV (ci := 9) (As := [(0, v1)]) (st := []) (by decide) ok_X11_83 rfl rfl (Nat.le_of_ble_eq_true rfl) dX11_strongWhenDone_9 h (fun r1 s2 hv h => ?_)
  refine r_aload_n dX11_strongWhenDone_12 rfl rfl ?_
  refine gf_X11_34 rfl dX11_strongWhenDone_13 ?_
  refine gf_X11_94 rfl dX11_strongWhenDone_16 ?_
  refine r_maxI lm_X11_129 (Nat.le_of_ble_eq_true rfl) dX11_strongWhenDone_19 ?_
  refine r_istore (ls2 := [(19, th), (0, v1), (0, v2), (0, (s (th + 2) v1)), (0, (max r1 (s2 (s2 th 0) 14)))]) dX11_strongWhenDone_22 (by decide) rfl ?_
  exact h
abbrev P_X11_livingAt_4 (g : GT) (e : Nat) (Q : Int → Sg → Prop) (s : Sg) (th : Int) (v1 : Int) (v2 : Int) (v3 : Int) : Prop := Wp g (e + 1) M_X11_livingAt Q 4 [(19, th), (0, v1), (0, v2), (0, v3)] [] s
set_option maxRecDepth 20000 in
theorem S_X11_livingAt_4 {g : GT} {e : Nat} {Q : Int → Sg → Prop} {s : Sg} {th : Int} {v1 : Int} {v2 : Int} {v3 : Int} (h : (Mw g e M_X9_childCount [(18, (s th 0))] s (fun r1 s2 => ((r1 ≤ v3 → Q v2 s2) ∧ (¬ r1 ≤ v3 → ((0 ≤ v3 ∧ v3 < 8) ∧ ((¬ (s2 (th + 1) v3) = v1 → P_X11_livingAt_4 g e Q s2 th v1 (bOr v2 0) (w32 (v3 + 1))) ∧ ((s2 (th + 1) v3) = v1 → P_X11_livingAt_4 g e Q s2 th v1 (bOr v2 (bShl 1 v3)) (w32 (v3 + 1)))))))))) : P_X11_livingAt_4 g e Q s th v1 v2 v3 := by
  refine r_iload_n dX11_livingAt_4 rfl ?_
  refine r_aload_n dX11_livingAt_5 rfl rfl ?_
  refine gf_X11_34 rfl dX11_livingAt_6 ?_
  refine r_callV (ci := 8) (As := []) (st := [(0, v3)]) (by decide) ok_X11_97 rfl rfl (Nat.le_of_ble_eq_true rfl) dX11_livingAt_9 h (fun r1 s2 hv h => ?_)
  refine r_icmp_ge (tgt := 41) dX11_livingAt_12 (by decide) (fun hc => ?_) (fun hc => ?_)
  · have h := h.1 hc
    refine r_iload_n dX11_livingAt_41 rfl ?_
    exact r_iret dX11_livingAt_42 rfl h
  · have h := h.2 hc
    refine r_iload_n dX11_livingAt_15 rfl ?_
    refine r_aload_n dX11_livingAt_16 rfl rfl ?_
    refine gf_X11_9 rfl dX11_livingAt_17 ?_
    refine r_iload_n dX11_livingAt_20 rfl ?_
    obtain ⟨hb, h⟩ := h
    refine r_iald (n := 8) rfl (by decide) dX11_livingAt_21 hb ?_
    refine r_iload_n dX11_livingAt_22 rfl ?_
    refine r_icmp_ne (tgt := 32) dX11_livingAt_23 (by decide) (fun hc => ?_) (fun hc => ?_)
    · have h := h.1 hc
      refine r_iconst dX11_livingAt_32 (by decide) ?_
      refine r_ior dX11_livingAt_33 ?_
      refine r_istore_n (ls2 := [(19, th), (0, v1), (0, (bOr v2 0)), (0, v3)]) dX11_livingAt_34 (by decide) rfl ?_
      refine r_iinc (ls2 := [(19, th), (0, v1), (0, (bOr v2 0)), (0, (w32 (v3 + 1)))]) dX11_livingAt_35 rfl (by decide) rfl ?_
      refine r_goto (tgt := 4) dX11_livingAt_38 (by decide) ?_
      exact h
    · have h := h.2 hc
      refine r_iconst dX11_livingAt_26 (by decide) ?_
      refine r_iload_n dX11_livingAt_27 rfl ?_
      refine r_ishl dX11_livingAt_28 ?_
      refine r_goto (tgt := 33) dX11_livingAt_29 (by decide) ?_
      refine r_ior dX11_livingAt_33 ?_
      refine r_istore_n (ls2 := [(19, th), (0, v1), (0, (bOr v2 (bShl 1 v3))), (0, v3)]) dX11_livingAt_34 (by decide) rfl ?_
      refine r_iinc (ls2 := [(19, th), (0, v1), (0, (bOr v2 (bShl 1 v3))), (0, (w32 (v3 + 1)))]) dX11_livingAt_35 rfl (by decide) rfl ?_
      refine r_goto (tgt := 4) dX11_livingAt_38 (by decide) ?_
      exact h
set_option maxRecDepth 20000 in
theorem S_X11_livingAt {g : GT} {e : Nat} {Q : Int → Sg → Prop} {s : Sg} {th : Int} {v1 : Int} (h : (gr g th ∧ tg th = 19) → inR v1 → P_X11_livingAt_4 g e Q s th v1 0 0) : Mw g (e + 1) M_X11_livingAt [(19, th), (0, v1)] s Q := by
  refine Mw.of (ls := [(19, th), (0, v1), (9, 0), (9, 0)]) pn_X11_livingAt (Nat.le_of_ble_eq_true rfl) rfl (fun hv => ?_)
  have h := h (vld_o (by decide) (hv _ (List.Mem.head _))) (hv _ (List.Mem.tail _ (List.Mem.head _)))
  refine r_iconst dX11_livingAt_0 (by decide) ?_
  refine r_istore_n (ls2 := [(19, th), (0, v1), (0, 0), (9, 0)]) dX11_livingAt_1 (by decide) rfl ?_
  refine r_iconst dX11_livingAt_2 (by decide) ?_
  refine r_istore_n (ls2 := [(19, th), (0, v1), (0, 0), (0, 0)]) dX11_livingAt_3 (by decide) rfl ?_
  exact h
abbrev P_X11_strongTogether_4 (g : GT) (e : Nat) (Q : Int → Sg → Prop) (s : Sg) (th : Int) (v1 : Int) (v2 : Int) : Prop := Wp g (e + 1) M_X11_strongTogether Q 4 [(19, th), (0, v1), (0, v2)] [] s
set_option maxRecDepth 20000 in
theorem S_X11_strongTogether_4 {g : GT} {e : Nat} {Q : Int → Sg → Prop} {s : Sg} {th : Int} {v1 : Int} {v2 : Int} (h : (Mw g e M_X9_childCount [(18, (s th 0))] s (fun r1 s2 => ((r1 ≤ v2 → Q v1 s2) ∧ (¬ r1 ≤ v2 → ((0 ≤ v2 ∧ v2 < 8) ∧ P_X11_strongTogether_4 g e Q s2 th (w32 (v1 + (s2 (th + 2) v2))) (w32 (v2 + 1)))))))) : P_X11_strongTogether_4 g e Q s th v1 v2 := by
  refine r_iload_n dX11_strongTogether_4 rfl ?_
  refine r_aload_n dX11_strongTogether_5 rfl rfl ?_
  refine gf_X11_34 rfl dX11_strongTogether_6 ?_
  refine r_callV (ci := 8) (As := []) (st := [(0, v2)]) (by decide) ok_X11_97 rfl rfl (Nat.le_of_ble_eq_true rfl) dX11_strongTogether_9 h (fun r1 s2 hv h => ?_)
  refine r_icmp_ge (tgt := 30) dX11_strongTogether_12 (by decide) (fun hc => ?_) (fun hc => ?_)
  · have h := h.1 hc
    refine r_iload_n dX11_strongTogether_30 rfl ?_
    exact r_iret dX11_strongTogether_31 rfl h
  · have h := h.2 hc
    refine r_iload_n dX11_strongTogether_15 rfl ?_
    refine r_aload_n dX11_strongTogether_16 rfl rfl ?_
    refine gf_X11_15 rfl dX11_strongTogether_17 ?_
    refine r_iload_n dX11_strongTogether_20 rfl ?_
    obtain ⟨hb, h⟩ := h
    refine r_iald (n := 8) rfl (by decide) dX11_strongTogether_21 hb ?_
    refine r_iadd dX11_strongTogether_22 ?_
    refine r_istore_n (ls2 := [(19, th), (0, (w32 (v1 + (s2 (th + 2) v2)))), (0, v2)]) dX11_strongTogether_23 (by decide) rfl ?_
    refine r_iinc (ls2 := [(19, th), (0, (w32 (v1 + (s2 (th + 2) v2)))), (0, (w32 (v2 + 1)))]) dX11_strongTogether_24 rfl (by decide) rfl ?_
    refine r_goto (tgt := 4) dX11_strongTogether_27 (by decide) ?_
    exact h
set_option maxRecDepth 20000 in
theorem S_X11_strongTogether {g : GT} {e : Nat} {Q : Int → Sg → Prop} {s : Sg} {th : Int} (h : (gr g th ∧ tg th = 19) → P_X11_strongTogether_4 g e Q s th 0 0) : Mw g (e + 1) M_X11_strongTogether [(19, th)] s Q := by
  refine Mw.of (ls := [(19, th), (9, 0), (9, 0)]) pn_X11_strongTogether (Nat.le_of_ble_eq_true rfl) rfl (fun hv => ?_)
  have h := h (vld_o (by decide) (hv _ (List.Mem.head _)))
  refine r_iconst dX11_strongTogether_0 (by decide) ?_
  refine r_istore_n (ls2 := [(19, th), (0, 0), (9, 0)]) dX11_strongTogether_1 (by decide) rfl ?_
  refine r_iconst dX11_strongTogether_2 (by decide) ?_
  refine r_istore_n (ls2 := [(19, th), (0, 0), (0, 0)]) dX11_strongTogether_3 (by decide) rfl ?_
  exact h
abbrev P_X11_stonesIn_4 (g : GT) (e : Nat) (Q : Int → Sg → Prop) (s : Sg) (th : Int) (v1 : Int) (v2 : Int) (v3 : Int) : Prop := Wp g (e + 1) M_X11_stonesIn Q 4 [(19, th), (0, v1), (0, v2), (0, v3)] [] s
set_option maxRecDepth 20000 in
theorem S_X11_stonesIn_4 {g : GT} {e : Nat} {Q : Int → Sg → Prop} {s : Sg} {th : Int} {v1 : Int} {v2 : Int} {v3 : Int} (h : ((0 ≤ v1 ∧ v1 < 4) ∧ (((s ((s th 0) + 11) v1) ≤ v3 → Q v2 s) ∧ (¬ (s ((s th 0) + 11) v1) ≤ v3 → ((0 ≤ (w32 ((w32 (v1 * 4)) + v3)) ∧ (w32 ((w32 (v1 * 4)) + v3)) < 16) ∧ P_X11_stonesIn_4 g e Q s th v1 (w32 (v2 + (s (th + 5) (w32 ((w32 (v1 * 4)) + v3))))) (w32 (v3 + 1))))))) : P_X11_stonesIn_4 g e Q s th v1 v2 v3 := by
  refine r_iload_n dX11_stonesIn_4 rfl ?_
  refine r_aload_n dX11_stonesIn_5 rfl rfl ?_
  refine gf_X11_34 rfl dX11_stonesIn_6 ?_
  refine gf_X11_104 rfl dX11_stonesIn_9 ?_
  refine r_iload_n dX11_stonesIn_12 rfl ?_
  obtain ⟨hb, h⟩ := h
  refine r_iald (n := 4) rfl (by decide) dX11_stonesIn_13 hb ?_
  refine r_icmp_ge (tgt := 36) dX11_stonesIn_14 (by decide) (fun hc => ?_) (fun hc => ?_)
  · have h := h.1 hc
    refine r_iload_n dX11_stonesIn_36 rfl ?_
    exact r_iret dX11_stonesIn_37 rfl h
  · have h := h.2 hc
    refine r_iload_n dX11_stonesIn_17 rfl ?_
    refine r_aload_n dX11_stonesIn_18 rfl rfl ?_
    refine gf_X11_24 rfl dX11_stonesIn_19 ?_
    refine r_iload_n dX11_stonesIn_22 rfl ?_
    refine r_iconst dX11_stonesIn_23 (by decide) ?_
    refine r_imul dX11_stonesIn_24 ?_
    refine r_iload_n dX11_stonesIn_25 rfl ?_
    refine r_iadd dX11_stonesIn_26 ?_
    obtain ⟨hb, h⟩ := h
    refine r_iald (n := 16) rfl (by decide) dX11_stonesIn_27 hb ?_
    refine r_iadd dX11_stonesIn_28 ?_
    refine r_istore_n (ls2 := [(19, th), (0, v1), (0, (w32 (v2 + (s (th + 5) (w32 ((w32 (v1 * 4)) + v3)))))), (0, v3)]) dX11_stonesIn_29 (by decide) rfl ?_
    refine r_iinc (ls2 := [(19, th), (0, v1), (0, (w32 (v2 + (s (th + 5) (w32 ((w32 (v1 * 4)) + v3)))))), (0, (w32 (v3 + 1)))]) dX11_stonesIn_30 rfl (by decide) rfl ?_
    refine r_goto (tgt := 4) dX11_stonesIn_33 (by decide) ?_
    exact h
set_option maxRecDepth 20000 in
theorem S_X11_stonesIn {g : GT} {e : Nat} {Q : Int → Sg → Prop} {s : Sg} {th : Int} {v1 : Int} (h : (gr g th ∧ tg th = 19) → inR v1 → P_X11_stonesIn_4 g e Q s th v1 0 0) : Mw g (e + 1) M_X11_stonesIn [(19, th), (0, v1)] s Q := by
  refine Mw.of (ls := [(19, th), (0, v1), (9, 0), (9, 0)]) pn_X11_stonesIn (Nat.le_of_ble_eq_true rfl) rfl (fun hv => ?_)
  have h := h (vld_o (by decide) (hv _ (List.Mem.head _))) (hv _ (List.Mem.tail _ (List.Mem.head _)))
  refine r_iconst dX11_stonesIn_0 (by decide) ?_
  refine r_istore_n (ls2 := [(19, th), (0, v1), (0, 0), (9, 0)]) dX11_stonesIn_1 (by decide) rfl ?_
  refine r_iconst dX11_stonesIn_2 (by decide) ?_
  refine r_istore_n (ls2 := [(19, th), (0, v1), (0, 0), (0, 0)]) dX11_stonesIn_3 (by decide) rfl ?_
  exact h
abbrev P_X11_fullWalls_4 (g : GT) (e : Nat) (Q : Int → Sg → Prop) (s : Sg) (th : Int) (v1 : Int) (v2 : Int) : Prop := Wp g (e + 1) M_X11_fullWalls Q 4 [(19, th), (0, v1), (0, v2)] [] s
set_option maxRecDepth 20000 in
theorem S_X11_fullWalls_4 {g : GT} {e : Nat} {Q : Int → Sg → Prop} {s : Sg} {th : Int} {v1 : Int} {v2 : Int} (h : (Mw g e M_X9_wallCount [(18, (s th 0))] s (fun r1 s2 => ((r1 ≤ v2 → Q v1 s2) ∧ (¬ r1 ≤ v2 → (Mw g e M_X11_stonesIn [(19, th), (0, v2)] s2 (fun r3 s4 => ((0 ≤ v2 ∧ v2 < 4) ∧ ((0 ≤ v2 ∧ v2 < 4) ∧ ((¬ r3 = (w32 ((s4 ((s4 th 0) + 11) v2) * (s4 ((s4 th 0) + 12) v2))) → P_X11_fullWalls_4 g e Q s4 th (w32 (v1 + 0)) (w32 (v2 + 1))) ∧ (r3 = (w32 ((s4 ((s4 th 0) + 11) v2) * (s4 ((s4 th 0) + 12) v2))) → P_X11_fullWalls_4 g e Q s4 th (w32 (v1 + 1)) (w32 (v2 + 1))))))))))))) : P_X11_fullWalls_4 g e Q s th v1 v2 := by
  refine r_iload_n dX11_fullWalls_4 rfl ?_
  refine r_aload_n dX11_fullWalls_5 rfl rfl ?_
  refine gf_X11_34 rfl dX11_fullWalls_6 ?_
  refine r_callV (ci := 8) (As := []) (st := [(0, v2)]) (by decide) ok_X11_107 rfl rfl (Nat.le_of_ble_eq_true rfl) dX11_fullWalls_9 h (fun r1 s2 hv h => ?_)
  refine r_icmp_ge (tgt := 56) dX11_fullWalls_12 (by decide) (fun hc => ?_) (fun hc => ?_)
  · have h := h.1 hc
    refine r_iload_n dX11_fullWalls_56 rfl ?_
    exact r_iret dX11_fullWalls_57 rfl h
  · have h := h.2 hc
    refine r_iload_n dX11_fullWalls_15 rfl ?_
    refine r_aload_n dX11_fullWalls_16 rfl rfl ?_
    refine r_iload_n dX11_fullWalls_17 rfl ?_
    refine r_callV (ci := 9) (As := [(0, v2)]) (st := [(0, v1)]) (by decide) ok_X11_110 rfl rfl (Nat.le_of_ble_eq_true rfl) dX11_fullWalls_18 h (fun r3 s4 hv h => ?_)
    refine r_aload_n dX11_fullWalls_21 rfl rfl ?_
    refine gf_X11_34 rfl dX11_fullWalls_22 ?_
    refine gf_X11_104 rfl dX11_fullWalls_25 ?_
    refine r_iload_n dX11_fullWalls_28 rfl ?_
    obtain ⟨hb, h⟩ := h
    refine r_iald (n := 4) rfl (by decide) dX11_fullWalls_29 hb ?_
    refine r_aload_n dX11_fullWalls_30 rfl rfl ?_
    refine gf_X11_34 rfl dX11_fullWalls_31 ?_
    refine gf_X11_113 rfl dX11_fullWalls_34 ?_
    refine r_iload_n dX11_fullWalls_37 rfl ?_
    obtain ⟨hb, h⟩ := h
    refine r_iald (n := 4) rfl (by decide) dX11_fullWalls_38 hb ?_
    refine r_imul dX11_fullWalls_39 ?_
    refine r_icmp_ne (tgt := 47) dX11_fullWalls_40 (by decide) (fun hc => ?_) (fun hc => ?_)
    · have h := h.1 hc
      refine r_iconst dX11_fullWalls_47 (by decide) ?_
      refine r_iadd dX11_fullWalls_48 ?_
      refine r_istore_n (ls2 := [(19, th), (0, (w32 (v1 + 0))), (0, v2)]) dX11_fullWalls_49 (by decide) rfl ?_
      refine r_iinc (ls2 := [(19, th), (0, (w32 (v1 + 0))), (0, (w32 (v2 + 1)))]) dX11_fullWalls_50 rfl (by decide) rfl ?_
      refine r_goto (tgt := 4) dX11_fullWalls_53 (by decide) ?_
      exact h
    · have h := h.2 hc
      refine r_iconst dX11_fullWalls_43 (by decide) ?_
      refine r_goto (tgt := 48) dX11_fullWalls_44 (by decide) ?_
      refine r_iadd dX11_fullWalls_48 ?_
      refine r_istore_n (ls2 := [(19, th), (0, (w32 (v1 + 1))), (0, v2)]) dX11_fullWalls_49 (by decide) rfl ?_
      refine r_iinc (ls2 := [(19, th), (0, (w32 (v1 + 1))), (0, (w32 (v2 + 1)))]) dX11_fullWalls_50 rfl (by decide) rfl ?_
      refine r_goto (tgt := 4) dX11_fullWalls_53 (by decide) ?_
      exact h
set_option maxRecDepth 20000 in
theorem S_X11_fullWalls {g : GT} {e : Nat} {Q : Int → Sg → Prop} {s : Sg} {th : Int} (h : (gr g th ∧ tg th = 19) → P_X11_fullWalls_4 g e Q s th 0 0) : Mw g (e + 1) M_X11_fullWalls [(19, th)] s Q := by
  refine Mw.of (ls := [(19, th), (9, 0), (9, 0)]) pn_X11_fullWalls (Nat.le_of_ble_eq_true rfl) rfl (fun hv => ?_)
  have h := h (vld_o (by decide) (hv _ (List.Mem.head _)))
  refine r_iconst dX11_fullWalls_0 (by decide) ?_
  refine r_istore_n (ls2 := [(19, th), (0, 0), (9, 0)]) dX11_fullWalls_1 (by decide) rfl ?_
  refine r_iconst dX11_fullWalls_2 (by decide) ?_
  refine r_istore_n (ls2 := [(19, th), (0, 0), (0, 0)]) dX11_fullWalls_3 (by decide) rfl ?_
  exact h
set_option maxRecDepth 20000 in
theorem S_X11_lying {g : GT} {e : Nat} {Q : Int → Sg → Prop} {s : Sg} {th : Int} {v1 : Int} {v2 : Int} (h : (gr g th ∧ tg th = 19) → inR v1 → inR v2 → ((0 ≤ v1 ∧ v1 < 8) ∧ ((v2 = 2 → (Mw g e M_X11_wallAt [(0, (s (th + 3) v1))] s (fun r1 s2 => Q r1 s2))) ∧ (v2 = 3 → Q (Int.tmod (w32 (Int.tdiv (s (th + 3) v1) 4)) 4) s) ∧ (v2 = 4 → Q (Int.tmod (s (th + 3) v1) 4) s) ∧ (v2 = 5 → (Mw g e M_X11_loadAt [(19, th), (0, (s (th + 3) v1))] s (fun r3 s4 => Q r3 s4))) ∧ (v2 = 6 → (Mw g e M_X11_bears [(19, th), (0, v1), (0, 0)] s (fun r5 s6 => Q r5 s6))) ∧ ((v2 < 2 ∨ 6 < v2) → Q (-1) s)))) : Mw g (e + 1) M_X11_lying [(19, th), (0, v1), (0, v2)] s Q := by
  refine Mw.of (ls := [(19, th), (0, v1), (0, v2), (9, 0)]) pn_X11_lying (Nat.le_of_ble_eq_true rfl) rfl (fun hv => ?_)
  have h := h (vld_o (by decide) (hv _ (List.Mem.head _))) (hv _ (List.Mem.tail _ (List.Mem.head _))) (hv _ (List.Mem.tail _ (List.Mem.tail _ (List.Mem.head _))))
  refine r_aload_n dX11_lying_0 rfl rfl ?_
  refine gf_X11_18 rfl dX11_lying_1 ?_
  refine r_iload_n dX11_lying_4 rfl ?_
  obtain ⟨hb, h⟩ := h
  refine r_iald (n := 8) rfl (by decide) dX11_lying_5 hb ?_
  refine r_istore_n (ls2 := [(19, th), (0, v1), (0, v2), (0, (s (th + 3) v1))]) dX11_lying_6 (by decide) rfl ?_
  refine r_iload_n dX11_lying_7 rfl ?_
  obtain ⟨h_0, h_1, h_2, h_3, h_4, h_d⟩ := h
  rcases (show (v2 < 2 ∨ 6 < v2) ∨ v2 = 2 ∨ v2 = 3 ∨ v2 = 4 ∨ v2 = 5 ∨ v2 = 6 by omega) with hk | hk | hk | hk | hk | hk
  · have h := h_d hk
    refine r_tableOut (tgt := 72) dX11_lying_8 hk (by decide) ?_
    refine r_iconst dX11_lying_72 (by decide) ?_
    exact r_iret dX11_lying_73 rfl h
  · have h := h_0 hk
    refine r_tableIn (tgt := 44) dX11_lying_8 (by omega) (by omega) (by rw [hk]; rfl) (by decide) ?_
    refine r_iload_n dX11_lying_44 rfl ?_
    refine r_callS (As := [(0, (s (th + 3) v1))]) (st := []) ok_X11_116 rfl rfl (Nat.le_of_ble_eq_true rfl) dX11_lying_45 h (fun r1 s2 hv h => ?_)
    exact r_iret dX11_lying_48 rfl h
  · have h := h_1 hk
    refine r_tableIn (tgt := 49) dX11_lying_8 (by omega) (by omega) (by rw [hk]; rfl) (by decide) ?_
    refine r_iload_n dX11_lying_49 rfl ?_
    refine r_iconst dX11_lying_50 (by decide) ?_
    refine r_idiv dX11_lying_51 (by decide) ?_
    refine r_iconst dX11_lying_52 (by decide) ?_
    refine r_irem dX11_lying_53 (by decide) ?_
    exact r_iret dX11_lying_54 rfl h
  · have h := h_2 hk
    refine r_tableIn (tgt := 55) dX11_lying_8 (by omega) (by omega) (by rw [hk]; rfl) (by decide) ?_
    refine r_iload_n dX11_lying_55 rfl ?_
    refine r_iconst dX11_lying_56 (by decide) ?_
    refine r_irem dX11_lying_57 (by decide) ?_
    exact r_iret dX11_lying_58 rfl h
  · have h := h_3 hk
    refine r_tableIn (tgt := 59) dX11_lying_8 (by omega) (by omega) (by rw [hk]; rfl) (by decide) ?_
    refine r_aload_n dX11_lying_59 rfl rfl ?_
    refine r_iload_n dX11_lying_60 rfl ?_
    refine r_callV (ci := 9) (As := [(0, (s (th + 3) v1))]) (st := []) (by decide) ok_X11_119 rfl rfl (Nat.le_of_ble_eq_true rfl) dX11_lying_61 h (fun r3 s4 hv h => ?_)
    exact r_iret dX11_lying_64 rfl h
  · have h := h_4 hk
    refine r_tableIn (tgt := 65) dX11_lying_8 (by omega) (by omega) (by rw [hk]; rfl) (by decide) ?_
    refine r_aload_n dX11_lying_65 rfl rfl ?_
    refine r_iload_n dX11_lying_66 rfl ?_
    refine r_iconst dX11_lying_67 (by decide) ?_
    refine r_callV (ci := 9) (As := [(0, v1), (0, 0)]) (st := []) (by decide) ok_X11_122 rfl rfl (Nat.le_of_ble_eq_true rfl) dX11_lying_68 h (fun r5 s6 hv h => ?_)
    exact r_iret dX11_lying_71 rfl h
