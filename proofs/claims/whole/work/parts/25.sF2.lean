set_option maxRecDepth 20000 in
theorem S_X13_child {g : GT} {e : Nat} {Q : Int → Sg → Prop} {s : Sg} {v1 : Int} {v2 : Int} (h : inR v1 → inR v2 → (Mw g e M_X13_isChild [(21, 92), (0, v1)] s (fun r1 s2 => ((¬ r1 = 0 → ((¬ v2 = 0 → ((¬ v2 = 1 → ((¬ v2 = 2 → ((¬ v2 = 3 → Q (-1) s2) ∧ (v2 = 3 → (Mw g e M_X13_feuding [(21, 92), (0, (s2 92 13)), (0, v1), (0, (s2 123 0))] s2 (fun r3 s4 => Q r3 s4))))) ∧ (v2 = 2 → (Mw g e M_X13_twin [(21, 92), (0, v1)] s2 (fun r5 s6 => Q r5 s6))))) ∧ (v2 = 1 → (Mw g e M_X13_born [(21, 92), (0, v1)] s2 (fun r7 s8 => Q r7 s8))))) ∧ (v2 = 0 → ((0 ≤ v1 ∧ v1 < 184) ∧ Q (s2 124 v1) s2)))) ∧ (r1 = 0 → Q (-1) s2))))) : Mw g (e + 1) M_X13_child [(21, 92), (0, v1), (0, v2)] s Q := by
  refine Mw.of (ls := [(21, 92), (0, v1), (0, v2)]) pn_X13_child (Nat.le_of_ble_eq_true rfl) rfl (fun hv => ?_)
  have h := h (hv _ (List.Mem.tail _ (List.Mem.head _))) (hv _ (List.Mem.tail _ (List.Mem.tail _ (List.Mem.head _))))
  refine r_aload_n dX13_child_0 rfl rfl ?_
  refine r_iload_n dX13_child_1 rfl ?_
  refine r_callV (ci := 11) (As := [(0, v1)]) (st := []) (by decide) ok_X13_591 rfl rfl (Nat.le_of_ble_eq_true rfl) dX13_child_2 h (fun r1 s2 hv h => ?_)
  refine r_if_ne (tgt := 10) dX13_child_5 (by decide) (fun hc => ?_) (fun hc => ?_)
  · have h := h.1 hc
    refine r_iload_n dX13_child_10 rfl ?_
    refine r_if_ne (tgt := 23) dX13_child_11 (by decide) (fun hc => ?_) (fun hc => ?_)
    · have h := h.1 hc
      refine r_iload_n dX13_child_23 rfl ?_
      refine r_iconst dX13_child_24 (by decide) ?_
      refine r_icmp_ne (tgt := 36) dX13_child_25 (by decide) (fun hc => ?_) (fun hc => ?_)
      · have h := h.1 hc
        refine r_iload_n dX13_child_36 rfl ?_
        refine r_iconst dX13_child_37 (by decide) ?_
        refine r_icmp_ne (tgt := 49) dX13_child_38 (by decide) (fun hc => ?_) (fun hc => ?_)
        · have h := h.1 hc
          refine r_iload_n dX13_child_49 rfl ?_
          refine r_iconst dX13_child_50 (by decide) ?_
          refine r_icmp_ne (tgt := 72) dX13_child_51 (by decide) (fun hc => ?_) (fun hc => ?_)
          · have h := h.1 hc
            refine r_iconst dX13_child_72 (by decide) ?_
            exact r_iret dX13_child_73 rfl h
          · have h := h.2 hc
            refine r_aload_n dX13_child_54 rfl rfl ?_
            refine r_aload_n dX13_child_55 rfl rfl ?_
            refine gf_X13_51 rfl dX13_child_56 ?_
            refine r_iload_n dX13_child_59 rfl ?_
            refine r_aload_n dX13_child_60 rfl rfl ?_
            refine gf_X13_165 rfl dX13_child_61 ?_
            refine r_iconst dX13_child_64 (by decide) ?_
            refine r_iald (n := 23) rfl (by decide) dX13_child_65 (by decide) ?_
            refine r_callV (ci := 11) (As := [(0, (s2 92 13)), (0, v1), (0, (s2 123 0))]) (st := []) (by decide) ok_X13_415 rfl rfl (Nat.le_of_ble_eq_true rfl) dX13_child_66 h (fun r3 s4 hv h => ?_)
            refine r_goto (tgt := 73) dX13_child_69 (by decide) ?_
            exact r_iret dX13_child_73 rfl h
        · have h := h.2 hc
          refine r_aload_n dX13_child_41 rfl rfl ?_
          refine r_iload_n dX13_child_42 rfl ?_
          refine r_callV (ci := 11) (As := [(0, v1)]) (st := []) (by decide) ok_X13_519 rfl rfl (Nat.le_of_ble_eq_true rfl) dX13_child_43 h (fun r5 s6 hv h => ?_)
          refine r_goto (tgt := 73) dX13_child_46 (by decide) ?_
          exact r_iret dX13_child_73 rfl h
      · have h := h.2 hc
        refine r_aload_n dX13_child_28 rfl rfl ?_
        refine r_iload_n dX13_child_29 rfl ?_
        refine r_callV (ci := 11) (As := [(0, v1)]) (st := []) (by decide) ok_X13_495 rfl rfl (Nat.le_of_ble_eq_true rfl) dX13_child_30 h (fun r7 s8 hv h => ?_)
        refine r_goto (tgt := 73) dX13_child_33 (by decide) ?_
        exact r_iret dX13_child_73 rfl h
    · have h := h.2 hc
      refine r_aload_n dX13_child_14 rfl rfl ?_
      refine gf_X13_168 rfl dX13_child_15 ?_
      refine r_iload_n dX13_child_18 rfl ?_
      obtain ⟨hb, h⟩ := h
      refine r_iald (n := 184) rfl (by decide) dX13_child_19 hb ?_
      refine r_goto (tgt := 73) dX13_child_20 (by decide) ?_
      exact r_iret dX13_child_73 rfl h
  · have h := h.2 hc
    refine r_iconst dX13_child_8 (by decide) ?_
    exact r_iret dX13_child_9 rfl h
abbrev P_X13_stone_25 (g : GT) (e : Nat) (Q : Int → Sg → Prop) (s : Sg) (v1 : Int) (v2 : Int) (x0 : Int) : Prop := Wp g (e + 1) M_X13_stone Q 25 [(21, 92), (0, v1), (0, v2), (9, 0)] [(0, x0)] s
set_option maxRecDepth 20000 in
theorem S_X13_stone_25 {g : GT} {e : Nat} {Q : Int → Sg → Prop} {s : Sg} {v1 : Int} {v2 : Int} {x0 : Int} (h : ((v2 = 0 → (Mw g e M_X13_strong [(21, 92), (0, 0), (0, v1)] s (fun r1 s2 => Q r1 s2))) ∧ (v2 = 1 → ((x0 = 0 → (Mw g e M_X13_isDone [(21, 92), (0, 0), (0, v1)] s (fun r3 s4 => ((r3 = 0 → (Mw g e M_X13_isRaised [(21, 92), (0, 0), (0, v1)] s4 (fun r5 s6 => ((r5 = 0 → Q 0 s6) ∧ (¬ r5 = 0 → Q 1 s6))))) ∧ (¬ r3 = 0 → Q 2 s4))))) ∧ (¬ x0 = 0 → Q 3 s))) ∧ (v2 = 2 → (Mw g e M_X13_inWall [(21, 92), (0, 0), (0, v1)] s (fun r7 s8 => Q r7 s8))) ∧ (v2 = 3 → ((x0 = 0 → Q (-1) s) ∧ (¬ x0 = 0 → (Mw g e M_X13_column [(21, 92), (0, 0), (0, v1)] s (fun r9 s10 => Q r9 s10))))) ∧ (v2 = 4 → ((x0 = 0 → Q (-1) s) ∧ (¬ x0 = 0 → (Mw g e M_X13_course [(21, 92), (0, 0), (0, v1)] s (fun r11 s12 => Q r11 s12))))) ∧ (v2 = 5 → ((x0 = 0 → Q (-1) s) ∧ (¬ x0 = 0 → (Mw g e M_X13_load [(21, 92), (0, 0), (0, v1)] s (fun r13 s14 => Q r13 s14))))) ∧ (v2 = 6 → ((x0 = 0 → Q (-1) s) ∧ (¬ x0 = 0 → (Mw g e M_X13_bears [(21, 92), (0, 0), (0, v1)] s (fun r15 s16 => Q r15 s16))))) ∧ ((v2 < 0 ∨ 6 < v2) → Q (-1) s))) : P_X13_stone_25 g e Q s v1 v2 x0 := by
  refine r_istore_n (ls2 := [(21, 92), (0, v1), (0, v2), (0, x0)]) dX13_stone_25 (by decide) rfl ?_
  refine r_iload_n dX13_stone_26 rfl ?_
  obtain ⟨h_0, h_1, h_2, h_3, h_4, h_5, h_6, h_d⟩ := h
  rcases (show (v2 < 0 ∨ 6 < v2) ∨ v2 = 0 ∨ v2 = 1 ∨ v2 = 2 ∨ v2 = 3 ∨ v2 = 4 ∨ v2 = 5 ∨ v2 = 6 by omega) with hk | hk | hk | hk | hk | hk | hk | hk
  · have h := h_d hk
    refine r_tableOut (tgt := 178) dX13_stone_27 hk (by decide) ?_
    refine r_iconst dX13_stone_178 (by decide) ?_
    exact r_iret dX13_stone_179 rfl h
  · have h := h_0 hk
    refine r_tableIn (tgt := 68) dX13_stone_27 (by omega) (by omega) (by rw [hk]; rfl) (by decide) ?_
    refine r_aload_n dX13_stone_68 rfl rfl ?_
    refine r_iconst dX13_stone_69 (by decide) ?_
    refine r_iload_n dX13_stone_70 rfl ?_
    refine r_callV (ci := 11) (As := [(0, 0), (0, v1)]) (st := []) (by decide) ok_X13_522 rfl rfl (Nat.le_of_ble_eq_true rfl) dX13_stone_71 h (fun r1 s2 hv h => ?_)
    exact r_iret dX13_stone_74 rfl h
  · have h := h_1 hk
    refine r_tableIn (tgt := 75) dX13_stone_27 (by omega) (by omega) (by rw [hk]; rfl) (by decide) ?_
    refine r_iload_n dX13_stone_75 rfl ?_
    refine r_if_eq (tgt := 83) dX13_stone_76 (by decide) (fun hc => ?_) (fun hc => ?_)
    · have h := h.1 hc
      refine r_aload_n dX13_stone_83 rfl rfl ?_
      refine r_iconst dX13_stone_84 (by decide) ?_
      refine r_iload_n dX13_stone_85 rfl ?_
      refine r_callV (ci := 11) (As := [(0, 0), (0, v1)]) (st := []) (by decide) ok_X13_504 rfl rfl (Nat.le_of_ble_eq_true rfl) dX13_stone_86 h (fun r3 s4 hv h => ?_)
      refine r_if_eq (tgt := 96) dX13_stone_89 (by decide) (fun hc => ?_) (fun hc => ?_)
      · have h := h.1 hc
        refine r_aload_n dX13_stone_96 rfl rfl ?_
        refine r_iconst dX13_stone_97 (by decide) ?_
        refine r_iload_n dX13_stone_98 rfl ?_
        refine r_callV (ci := 11) (As := [(0, 0), (0, v1)]) (st := []) (by decide) ok_X13_556 rfl rfl (Nat.le_of_ble_eq_true rfl) dX13_stone_99 h (fun r5 s6 hv h => ?_)
        refine r_if_eq (tgt := 109) dX13_stone_102 (by decide) (fun hc => ?_) (fun hc => ?_)
        · have h := h.1 hc
          refine r_iconst dX13_stone_109 (by decide) ?_
          exact r_iret dX13_stone_110 rfl h
        · have h := h.2 hc
          refine r_iconst dX13_stone_105 (by decide) ?_
          refine r_goto (tgt := 110) dX13_stone_106 (by decide) ?_
          exact r_iret dX13_stone_110 rfl h
      · have h := h.2 hc
        refine r_iconst dX13_stone_92 (by decide) ?_
        refine r_goto (tgt := 110) dX13_stone_93 (by decide) ?_
        exact r_iret dX13_stone_110 rfl h
    · have h := h.2 hc
      refine r_iconst dX13_stone_79 (by decide) ?_
      refine r_goto (tgt := 110) dX13_stone_80 (by decide) ?_
      exact r_iret dX13_stone_110 rfl h
  · have h := h_2 hk
    refine r_tableIn (tgt := 111) dX13_stone_27 (by omega) (by omega) (by rw [hk]; rfl) (by decide) ?_
    refine r_aload_n dX13_stone_111 rfl rfl ?_
    refine r_iconst dX13_stone_112 (by decide) ?_
    refine r_iload_n dX13_stone_113 rfl ?_
    refine r_callV (ci := 11) (As := [(0, 0), (0, v1)]) (st := []) (by decide) ok_X13_507 rfl rfl (Nat.le_of_ble_eq_true rfl) dX13_stone_114 h (fun r7 s8 hv h => ?_)
    exact r_iret dX13_stone_117 rfl h
  · have h := h_3 hk
    refine r_tableIn (tgt := 118) dX13_stone_27 (by omega) (by omega) (by rw [hk]; rfl) (by decide) ?_
    refine r_iload_n dX13_stone_118 rfl ?_
    refine r_if_eq (tgt := 131) dX13_stone_119 (by decide) (fun hc => ?_) (fun hc => ?_)
    · have h := h.1 hc
      refine r_iconst dX13_stone_131 (by decide) ?_
      exact r_iret dX13_stone_132 rfl h
    · have h := h.2 hc
      refine r_aload_n dX13_stone_122 rfl rfl ?_
      refine r_iconst dX13_stone_123 (by decide) ?_
      refine r_iload_n dX13_stone_124 rfl ?_
      refine r_callV (ci := 11) (As := [(0, 0), (0, v1)]) (st := []) (by decide) ok_X13_510 rfl rfl (Nat.le_of_ble_eq_true rfl) dX13_stone_125 h (fun r9 s10 hv h => ?_)
      refine r_goto (tgt := 132) dX13_stone_128 (by decide) ?_
      exact r_iret dX13_stone_132 rfl h
  · have h := h_4 hk
    refine r_tableIn (tgt := 133) dX13_stone_27 (by omega) (by omega) (by rw [hk]; rfl) (by decide) ?_
    refine r_iload_n dX13_stone_133 rfl ?_
    refine r_if_eq (tgt := 146) dX13_stone_134 (by decide) (fun hc => ?_) (fun hc => ?_)
    · have h := h.1 hc
      refine r_iconst dX13_stone_146 (by decide) ?_
      exact r_iret dX13_stone_147 rfl h
    · have h := h.2 hc
      refine r_aload_n dX13_stone_137 rfl rfl ?_
      refine r_iconst dX13_stone_138 (by decide) ?_
      refine r_iload_n dX13_stone_139 rfl ?_
      refine r_callV (ci := 11) (As := [(0, 0), (0, v1)]) (st := []) (by decide) ok_X13_513 rfl rfl (Nat.le_of_ble_eq_true rfl) dX13_stone_140 h (fun r11 s12 hv h => ?_)
      refine r_goto (tgt := 147) dX13_stone_143 (by decide) ?_
      exact r_iret dX13_stone_147 rfl h
  · have h := h_5 hk
    refine r_tableIn (tgt := 148) dX13_stone_27 (by omega) (by omega) (by rw [hk]; rfl) (by decide) ?_
    refine r_iload_n dX13_stone_148 rfl ?_
    refine r_if_eq (tgt := 161) dX13_stone_149 (by decide) (fun hc => ?_) (fun hc => ?_)
    · have h := h.1 hc
      refine r_iconst dX13_stone_161 (by decide) ?_
      exact r_iret dX13_stone_162 rfl h
    · have h := h.2 hc
      refine r_aload_n dX13_stone_152 rfl rfl ?_
      refine r_iconst dX13_stone_153 (by decide) ?_
      refine r_iload_n dX13_stone_154 rfl ?_
      refine r_callV (ci := 11) (As := [(0, 0), (0, v1)]) (st := []) (by decide) ok_X13_528 rfl rfl (Nat.le_of_ble_eq_true rfl) dX13_stone_155 h (fun r13 s14 hv h => ?_)
      refine r_goto (tgt := 162) dX13_stone_158 (by decide) ?_
      exact r_iret dX13_stone_162 rfl h
  · have h := h_6 hk
    refine r_tableIn (tgt := 163) dX13_stone_27 (by omega) (by omega) (by rw [hk]; rfl) (by decide) ?_
    refine r_iload_n dX13_stone_163 rfl ?_
    refine r_if_eq (tgt := 176) dX13_stone_164 (by decide) (fun hc => ?_) (fun hc => ?_)
    · have h := h.1 hc
      refine r_iconst dX13_stone_176 (by decide) ?_
      exact r_iret dX13_stone_177 rfl h
    · have h := h.2 hc
      refine r_aload_n dX13_stone_167 rfl rfl ?_
      refine r_iconst dX13_stone_168 (by decide) ?_
      refine r_iload_n dX13_stone_169 rfl ?_
      refine r_callV (ci := 11) (As := [(0, 0), (0, v1)]) (st := []) (by decide) ok_X13_525 rfl rfl (Nat.le_of_ble_eq_true rfl) dX13_stone_170 h (fun r15 s16 hv h => ?_)
      refine r_goto (tgt := 177) dX13_stone_173 (by decide) ?_
      exact r_iret dX13_stone_177 rfl h
set_option maxRecDepth 20000 in
theorem S_X13_stone {g : GT} {e : Nat} {Q : Int → Sg → Prop} {s : Sg} {v1 : Int} {v2 : Int} (h : inR v1 → inR v2 → (Mw g e M_X13_isChild [(21, 92), (0, v1)] s (fun r1 s2 => ((¬ r1 = 0 → (Mw g e M_X13_inWall [(21, 92), (0, 0), (0, v1)] s2 (fun r3 s4 => ((r3 = (-1) → P_X13_stone_25 g e Q s4 v1 v2 0) ∧ (¬ r3 = (-1) → P_X13_stone_25 g e Q s4 v1 v2 1))))) ∧ (r1 = 0 → Q (-1) s2))))) : Mw g (e + 1) M_X13_stone [(21, 92), (0, v1), (0, v2)] s Q := by
  refine Mw.of (ls := [(21, 92), (0, v1), (0, v2), (9, 0)]) pn_X13_stone (Nat.le_of_ble_eq_true rfl) rfl (fun hv => ?_)
  have h := h (hv _ (List.Mem.tail _ (List.Mem.head _))) (hv _ (List.Mem.tail _ (List.Mem.tail _ (List.Mem.head _))))
  refine r_aload_n dX13_stone_0 rfl rfl ?_
  refine r_iload_n dX13_stone_1 rfl ?_
  refine r_callV (ci := 11) (As := [(0, v1)]) (st := []) (by decide) ok_X13_591 rfl rfl (Nat.le_of_ble_eq_true rfl) dX13_stone_2 h (fun r1 s2 hv h => ?_)
  refine r_if_ne (tgt := 10) dX13_stone_5 (by decide) (fun hc => ?_) (fun hc => ?_)
  · have h := h.1 hc
    refine r_aload_n dX13_stone_10 rfl rfl ?_
    refine r_iconst dX13_stone_11 (by decide) ?_
    refine r_iload_n dX13_stone_12 rfl ?_
    refine r_callV (ci := 11) (As := [(0, 0), (0, v1)]) (st := []) (by decide) ok_X13_507 rfl rfl (Nat.le_of_ble_eq_true rfl) dX13_stone_13 h (fun r3 s4 hv h => ?_)
    refine r_iconst dX13_stone_16 (by decide) ?_
    refine r_icmp_eq (tgt := 24) dX13_stone_17 (by decide) (fun hc => ?_) (fun hc => ?_)
    · have h := h.1 hc
      refine r_iconst dX13_stone_24 (by decide) ?_
      exact h
    · have h := h.2 hc
      refine r_iconst dX13_stone_20 (by decide) ?_
      refine r_goto (tgt := 25) dX13_stone_21 (by decide) ?_
      exact h
  · have h := h.2 hc
    refine r_iconst dX13_stone_8 (by decide) ?_
    exact r_iret dX13_stone_9 rfl h
set_option maxRecDepth 20000 in
theorem S_X13_wall {g : GT} {e : Nat} {Q : Int → Sg → Prop} {s : Sg} {v1 : Int} {v2 : Int} (h : inR v1 → inR v2 → (Mw g e M_X13_isWall [(21, 92), (0, v1)] s (fun r1 s2 => ((¬ r1 = 0 → ((3 ≤ v2 → ((0 ≤ (w32 ((w32 (4 * (s2 92 13))) + v1)) ∧ (w32 ((w32 (4 * (s2 92 13))) + v1)) < 8) ∧ (Mw g e M_X13_is [(0, v2), (0, 10), (0, (w32 (9 + (s2 105 (w32 ((w32 (4 * (s2 92 13))) + v1))))))] s2 (fun r3 s4 => ((r3 = 0 → Q (-1) s4) ∧ (¬ r3 = 0 → (Mw g e M_X13_tall [(21, 92), (0, 0), (0, v1), (0, (w32 (v2 - 10)))] s4 (fun r5 s6 => Q r5 s6)))))))) ∧ (¬ 3 ≤ v2 → ((¬ v2 = 0 → ((¬ v2 = 1 → ((¬ v2 = 2 → Q (-1) s2) ∧ (v2 = 2 → (Mw g e M_X13_stonesIn [(21, 92), (0, v1)] s2 (fun r7 s8 => (Mw g e M_X13_bits [(0, r7)] s8 (fun r9 s10 => Q r9 s10))))))) ∧ (v2 = 1 → ((0 ≤ (w32 ((w32 (4 * (s2 92 13))) + v1)) ∧ (w32 ((w32 (4 * (s2 92 13))) + v1)) < 8) ∧ Q (s2 106 (w32 ((w32 (4 * (s2 92 13))) + v1))) s2)))) ∧ (v2 = 0 → ((0 ≤ (w32 ((w32 (4 * (s2 92 13))) + v1)) ∧ (w32 ((w32 (4 * (s2 92 13))) + v1)) < 8) ∧ Q (s2 105 (w32 ((w32 (4 * (s2 92 13))) + v1))) s2)))))) ∧ (r1 = 0 → Q (-1) s2))))) : Mw g (e + 1) M_X13_wall [(21, 92), (0, v1), (0, v2)] s Q := by
  refine Mw.of (ls := [(21, 92), (0, v1), (0, v2)]) pn_X13_wall (Nat.le_of_ble_eq_true rfl) rfl (fun hv => ?_)
  have h := h (hv _ (List.Mem.tail _ (List.Mem.head _))) (hv _ (List.Mem.tail _ (List.Mem.tail _ (List.Mem.head _))))
  refine r_aload_n dX13_wall_0 rfl rfl ?_
  refine r_iload_n dX13_wall_1 rfl ?_
  refine r_callV (ci := 11) (As := [(0, v1)]) (st := []) (by decide) ok_X13_594 rfl rfl (Nat.le_of_ble_eq_true rfl) dX13_wall_2 h (fun r1 s2 hv h => ?_)
  refine r_if_ne (tgt := 10) dX13_wall_5 (by decide) (fun hc => ?_) (fun hc => ?_)
  · have h := h.1 hc
    refine r_iload_n dX13_wall_10 rfl ?_
    refine r_iconst dX13_wall_11 (by decide) ?_
    refine r_icmp_ge (tgt := 74) dX13_wall_12 (by decide) (fun hc => ?_) (fun hc => ?_)
    · have h := h.1 hc
      refine r_iload_n dX13_wall_74 rfl ?_
      refine r_bipush dX13_wall_75 (by decide) rfl ?_
      refine r_bipush dX13_wall_77 (by decide) rfl ?_
      refine r_aload_n dX13_wall_79 rfl rfl ?_
      refine gf_X13_87 rfl dX13_wall_80 ?_
      refine r_iconst dX13_wall_83 (by decide) ?_
      refine r_aload_n dX13_wall_84 rfl rfl ?_
      refine gf_X13_51 rfl dX13_wall_85 ?_
      refine r_imul dX13_wall_88 ?_
      refine r_iload_n dX13_wall_89 rfl ?_
      refine r_iadd dX13_wall_90 ?_
      obtain ⟨hb, h⟩ := h
      refine r_iald (n := 8) rfl (by decide) dX13_wall_91 hb ?_
      refine r_iadd dX13_wall_92 ?_
      refine r_callS (As := [(0, v2), (0, 10), (0, (w32 (9 + (s2 105 (w32 ((w32 (4 * (s2 92 13))) + v1))))))]) (st := []) ok_X13_347 rfl rfl (Nat.le_of_ble_eq_true rfl) dX13_wall_93 h (fun r3 s4 hv h => ?_)
      refine r_if_eq (tgt := 112) dX13_wall_96 (by decide) (fun hc => ?_) (fun hc => ?_)
      · have h := h.1 hc
        refine r_iconst dX13_wall_112 (by decide) ?_
        exact r_iret dX13_wall_113 rfl h
      · have h := h.2 hc
        refine r_aload_n dX13_wall_99 rfl rfl ?_
        refine r_iconst dX13_wall_100 (by decide) ?_
        refine r_iload_n dX13_wall_101 rfl ?_
        refine r_iload_n dX13_wall_102 rfl ?_
        refine r_bipush dX13_wall_103 (by decide) rfl ?_
        refine r_isub dX13_wall_105 ?_
        refine r_callV (ci := 11) (As := [(0, 0), (0, v1), (0, (w32 (v2 - 10)))]) (st := []) (by decide) ok_X13_516 rfl rfl (Nat.le_of_ble_eq_true rfl) dX13_wall_106 h (fun r5 s6 hv h => ?_)
        refine r_goto (tgt := 113) dX13_wall_109 (by decide) ?_
        exact r_iret dX13_wall_113 rfl h
    · have h := h.2 hc
      refine r_iload_n dX13_wall_15 rfl ?_
      refine r_if_ne (tgt := 35) dX13_wall_16 (by decide) (fun hc => ?_) (fun hc => ?_)
      · have h := h.1 hc
        refine r_iload_n dX13_wall_35 rfl ?_
        refine r_iconst dX13_wall_36 (by decide) ?_
        refine r_icmp_ne (tgt := 56) dX13_wall_37 (by decide) (fun hc => ?_) (fun hc => ?_)
        · have h := h.1 hc
          refine r_iload_n dX13_wall_56 rfl ?_
          refine r_iconst dX13_wall_57 (by decide) ?_
          refine r_icmp_ne (tgt := 72) dX13_wall_58 (by decide) (fun hc => ?_) (fun hc => ?_)
          · have h := h.1 hc
            refine r_iconst dX13_wall_72 (by decide) ?_
            exact r_iret dX13_wall_73 rfl h
          · have h := h.2 hc
            refine r_aload_n dX13_wall_61 rfl rfl ?_
            refine r_iload_n dX13_wall_62 rfl ?_
            refine r_callV (ci := 11) (As := [(0, v1)]) (st := []) (by decide) ok_X13_583 rfl rfl (Nat.le_of_ble_eq_true rfl) dX13_wall_63 h (fun r7 s8 hv h => ?_)
            refine r_callS (As := [(0, r7)]) (st := []) ok_X13_568 rfl rfl (Nat.le_of_ble_eq_true rfl) dX13_wall_66 h (fun r9 s10 hv h => ?_)
            refine r_goto (tgt := 73) dX13_wall_69 (by decide) ?_
            exact r_iret dX13_wall_73 rfl h
        · have h := h.2 hc
          refine r_aload_n dX13_wall_40 rfl rfl ?_
          refine gf_X13_90 rfl dX13_wall_41 ?_
          refine r_iconst dX13_wall_44 (by decide) ?_
          refine r_aload_n dX13_wall_45 rfl rfl ?_
          refine gf_X13_51 rfl dX13_wall_46 ?_
          refine r_imul dX13_wall_49 ?_
          refine r_iload_n dX13_wall_50 rfl ?_
          refine r_iadd dX13_wall_51 ?_
          obtain ⟨hb, h⟩ := h
          refine r_iald (n := 8) rfl (by decide) dX13_wall_52 hb ?_
          refine r_goto (tgt := 73) dX13_wall_53 (by decide) ?_
          exact r_iret dX13_wall_73 rfl h
      · have h := h.2 hc
        refine r_aload_n dX13_wall_19 rfl rfl ?_
        refine gf_X13_87 rfl dX13_wall_20 ?_
        refine r_iconst dX13_wall_23 (by decide) ?_
        refine r_aload_n dX13_wall_24 rfl rfl ?_
        refine gf_X13_51 rfl dX13_wall_25 ?_
        refine r_imul dX13_wall_28 ?_
        refine r_iload_n dX13_wall_29 rfl ?_
        refine r_iadd dX13_wall_30 ?_
        obtain ⟨hb, h⟩ := h
        refine r_iald (n := 8) rfl (by decide) dX13_wall_31 hb ?_
        refine r_goto (tgt := 73) dX13_wall_32 (by decide) ?_
        exact r_iret dX13_wall_73 rfl h
  · have h := h.2 hc
    refine r_iconst dX13_wall_8 (by decide) ?_
    exact r_iret dX13_wall_9 rfl h
set_option maxRecDepth 20000 in
theorem S_X13_at {g : GT} {e : Nat} {Q : Int → Sg → Prop} {s : Sg} {v1 : Int} {v2 : Int} {v3 : Int} (h : inR v1 → inR v2 → inR v3 → (Mw g e M_X13_isWall [(21, 92), (0, v1)] s (fun r1 s2 => ((r1 = 0 → Q (-1) s2) ∧ (¬ r1 = 0 → ((0 ≤ (w32 ((w32 (4 * (s2 92 13))) + v1)) ∧ (w32 ((w32 (4 * (s2 92 13))) + v1)) < 8) ∧ (Mw g e M_X13_is [(0, v2), (0, 0), (0, (w32 ((s2 105 (w32 ((w32 (4 * (s2 92 13))) + v1))) - 1)))] s2 (fun r3 s4 => ((r3 = 0 → Q (-1) s4) ∧ (¬ r3 = 0 → ((0 ≤ (w32 ((w32 (4 * (s4 92 13))) + v1)) ∧ (w32 ((w32 (4 * (s4 92 13))) + v1)) < 8) ∧ (Mw g e M_X13_is [(0, v3), (0, 0), (0, (w32 ((s4 106 (w32 ((w32 (4 * (s4 92 13))) + v1))) - 1)))] s4 (fun r5 s6 => ((r5 = 0 → Q (-1) s6) ∧ (¬ r5 = 0 → (Mw g e M_X13_lies [(21, 92), (0, 0), (0, v1), (0, v2), (0, v3)] s6 (fun r7 s8 => Q r7 s8))))))))))))))))) : Mw g (e + 1) M_X13_at [(21, 92), (0, v1), (0, v2), (0, v3)] s Q := by
  refine Mw.of (ls := [(21, 92), (0, v1), (0, v2), (0, v3)]) pn_X13_at (Nat.le_of_ble_eq_true rfl) rfl (fun hv => ?_)
  have h := h (hv _ (List.Mem.tail _ (List.Mem.head _))) (hv _ (List.Mem.tail _ (List.Mem.tail _ (List.Mem.head _)))) (hv _ (List.Mem.tail _ (List.Mem.tail _ (List.Mem.tail _ (List.Mem.head _)))))
  refine r_aload_n dX13_at_0 rfl rfl ?_
  refine r_iload_n dX13_at_1 rfl ?_
  refine r_callV (ci := 11) (As := [(0, v1)]) (st := []) (by decide) ok_X13_594 rfl rfl (Nat.le_of_ble_eq_true rfl) dX13_at_2 h (fun r1 s2 hv h => ?_)
  refine r_if_eq (tgt := 65) dX13_at_5 (by decide) (fun hc => ?_) (fun hc => ?_)
  · have h := h.1 hc
    refine r_iconst dX13_at_65 (by decide) ?_
    exact r_iret dX13_at_66 rfl h
  · have h := h.2 hc
    refine r_iload_n dX13_at_8 rfl ?_
    refine r_iconst dX13_at_9 (by decide) ?_
    refine r_aload_n dX13_at_10 rfl rfl ?_
    refine gf_X13_87 rfl dX13_at_11 ?_
    refine r_iconst dX13_at_14 (by decide) ?_
    refine r_aload_n dX13_at_15 rfl rfl ?_
    refine gf_X13_51 rfl dX13_at_16 ?_
    refine r_imul dX13_at_19 ?_
    refine r_iload_n dX13_at_20 rfl ?_
    refine r_iadd dX13_at_21 ?_
    obtain ⟨hb, h⟩ := h
    refine r_iald (n := 8) rfl (by decide) dX13_at_22 hb ?_
    refine r_iconst dX13_at_23 (by decide) ?_
    refine r_isub dX13_at_24 ?_
    refine r_callS (As := [(0, v2), (0, 0), (0, (w32 ((s2 105 (w32 ((w32 (4 * (s2 92 13))) + v1))) - 1)))]) (st := []) ok_X13_347 rfl rfl (Nat.le_of_ble_eq_true rfl) dX13_at_25 h (fun r3 s4 hv h => ?_)
    refine r_if_eq (tgt := 65) dX13_at_28 (by decide) (fun hc => ?_) (fun hc => ?_)
    · have h := h.1 hc
      refine r_iconst dX13_at_65 (by decide) ?_
      exact r_iret dX13_at_66 rfl h
    · have h := h.2 hc
      refine r_iload_n dX13_at_31 rfl ?_
      refine r_iconst dX13_at_32 (by decide) ?_
      refine r_aload_n dX13_at_33 rfl rfl ?_
      refine gf_X13_90 rfl dX13_at_34 ?_
      refine r_iconst dX13_at_37 (by decide) ?_
      refine r_aload_n dX13_at_38 rfl rfl ?_
      refine gf_X13_51 rfl dX13_at_39 ?_
      refine r_imul dX13_at_42 ?_
      refine r_iload_n dX13_at_43 rfl ?_
      refine r_iadd dX13_at_44 ?_
      obtain ⟨hb, h⟩ := h
      refine r_iald (n := 8) rfl (by decide) dX13_at_45 hb ?_
      refine r_iconst dX13_at_46 (by decide) ?_
      refine r_isub dX13_at_47 ?_
      refine r_callS (As := [(0, v3), (0, 0), (0, (w32 ((s4 106 (w32 ((w32 (4 * (s4 92 13))) + v1))) - 1)))]) (st := []) ok_X13_347 rfl rfl (Nat.le_of_ble_eq_true rfl) dX13_at_48 h (fun r5 s6 hv h => ?_)
      refine r_if_eq (tgt := 65) dX13_at_51 (by decide) (fun hc => ?_) (fun hc => ?_)
      · have h := h.1 hc
        refine r_iconst dX13_at_65 (by decide) ?_
        exact r_iret dX13_at_66 rfl h
      · have h := h.2 hc
        refine r_aload_n dX13_at_54 rfl rfl ?_
        refine r_iconst dX13_at_55 (by decide) ?_
        refine r_iload_n dX13_at_56 rfl ?_
        refine r_iload_n dX13_at_57 rfl ?_
        refine r_iload_n dX13_at_58 rfl ?_
        refine r_callV (ci := 11) (As := [(0, 0), (0, v1), (0, v2), (0, v3)]) (st := []) (by decide) ok_X13_534 rfl rfl (Nat.le_of_ble_eq_true rfl) dX13_at_59 h (fun r7 s8 hv h => ?_)
        refine r_goto (tgt := 66) dX13_at_62 (by decide) ?_
        exact r_iret dX13_at_66 rfl h
set_option maxRecDepth 20000 in
theorem S_X13_isAhead {g : GT} {e : Nat} {Q : Int → Sg → Prop} {s : Sg} {v1 : Int} {v2 : Int} {v3 : Int} (h : inR v1 → inR v2 → inR v3 → (Mw g e M_X13_is [(0, v1), (0, v2), (0, v3)] s (fun r1 s2 => ((r1 = 0 → Q 0 s2) ∧ (¬ r1 = 0 → (((w32 (999 - v1)) < (s2 122 0) → Q 0 s2) ∧ (¬ (w32 (999 - v1)) < (s2 122 0) → Q 1 s2))))))) : Mw g (e + 1) M_X13_isAhead [(21, 92), (0, v1), (0, v2), (0, v3)] s Q := by
  refine Mw.of (ls := [(21, 92), (0, v1), (0, v2), (0, v3)]) pn_X13_isAhead (Nat.le_of_ble_eq_true rfl) rfl (fun hv => ?_)
  have h := h (hv _ (List.Mem.tail _ (List.Mem.head _))) (hv _ (List.Mem.tail _ (List.Mem.tail _ (List.Mem.head _)))) (hv _ (List.Mem.tail _ (List.Mem.tail _ (List.Mem.tail _ (List.Mem.head _)))))
  refine r_iload_n dX13_isAhead_0 rfl ?_
  refine r_iload_n dX13_isAhead_1 rfl ?_
  refine r_iload_n dX13_isAhead_2 rfl ?_
  refine r_callS (As := [(0, v1), (0, v2), (0, v3)]) (st := []) ok_X13_347 rfl rfl (Nat.le_of_ble_eq_true rfl) dX13_isAhead_3 h (fun r1 s2 hv h => ?_)
  refine r_if_eq (tgt := 27) dX13_isAhead_6 (by decide) (fun hc => ?_) (fun hc => ?_)
  · have h := h.1 hc
    refine r_iconst dX13_isAhead_27 (by decide) ?_
    exact r_zret dX13_isAhead_28 rfl (by decide) h
  · have h := h.2 hc
    refine r_aload_n dX13_isAhead_9 rfl rfl ?_
    refine gf_X13_162 rfl dX13_isAhead_10 ?_
    refine r_iconst dX13_isAhead_13 (by decide) ?_
    refine r_iald (n := 23) rfl (by decide) dX13_isAhead_14 (by decide) ?_
    refine r_sipush dX13_isAhead_15 (by decide) rfl ?_
    refine r_iload_n dX13_isAhead_18 rfl ?_
    refine r_isub dX13_isAhead_19 ?_
    refine r_icmp_gt (tgt := 27) dX13_isAhead_20 (by decide) (fun hc => ?_) (fun hc => ?_)
    · have h := h.1 hc
      refine r_iconst dX13_isAhead_27 (by decide) ?_
      exact r_zret dX13_isAhead_28 rfl (by decide) h
    · have h := h.2 hc
      refine r_iconst dX13_isAhead_23 (by decide) ?_
      refine r_goto (tgt := 28) dX13_isAhead_24 (by decide) ?_
      exact r_zret dX13_isAhead_28 rfl (by decide) h
abbrev P_X13_later_33 (g : GT) (e : Nat) (Q : Int → Sg → Prop) (s : Sg) (v1 : Int) (v2 : Int) (v3 : Int) (v4 : Int) : Prop := Wp g (e + 1) M_X13_later Q 33 [(21, 92), (0, v1), (0, v2), (0, v3), (0, v4), (9, 0)] [] s
abbrev P_X13_later_94 (g : GT) (e : Nat) (Q : Int → Sg → Prop) (s : Sg) (v4 : Int) (v5 : Int) : Prop := Wp g (e + 1) M_X13_later Q 94 [(21, 92), (9, 0), (9, 0), (9, 0), (0, v4), (0, v5)] [] s
set_option maxRecDepth 20000 in
theorem S_X13_later_33 {g : GT} {e : Nat} {Q : Int → Sg → Prop} {s : Sg} {v1 : Int} {v2 : Int} {v3 : Int} {v4 : Int} (h : ((v1 ≤ v4 → ((¬ v2 = 2 → ((2 ≤ v2 → P_X13_later_94 g e Q s 0 0) ∧ (¬ 2 ≤ v2 → ((¬ v2 = 0 → (Mw g e M_X13_onShelf [(21, 92), (0, 1)] s (fun r1 s2 => Q r1 s2))) ∧ (v2 = 0 → (Mw g e M_X13_builtIn [(21, 92), (0, 1)] s (fun r3 s4 => Q r3 s4))))))) ∧ (v2 = 2 → Q v3 s))) ∧ (¬ v1 ≤ v4 → (Mw g e M_X13_passes [(21, 92), (0, 1), (0, 0)] s (fun _ s6 => P_X13_later_33 g e Q s6 v1 v2 (w32 (v3 + (s6 92 64))) (w32 (v4 + 1))))))) : P_X13_later_33 g e Q s v1 v2 v3 v4 := by
  refine r_iload dX13_later_33 rfl ?_
  refine r_iload_n dX13_later_35 rfl ?_
  refine r_icmp_ge (tgt := 58) dX13_later_36 (by decide) (fun hc => ?_) (fun hc => ?_)
  · have h := h.1 hc
    refine r_iload_n dX13_later_58 rfl ?_
    refine r_iconst dX13_later_59 (by decide) ?_
    refine r_icmp_ne (tgt := 65) dX13_later_60 (by decide) (fun hc => ?_) (fun hc => ?_)
    · have h := h.1 hc
      refine r_iload_n dX13_later_65 rfl ?_
      refine r_iconst dX13_later_66 (by decide) ?_
      refine r_icmp_ge (tgt := 88) dX13_later_67 (by decide) (fun hc => ?_) (fun hc => ?_)
      · have h := h.1 hc
        refine r_iconst dX13_later_88 (by decide) ?_
        refine r_istore (ls2 := [(21, 92), (0, v1), (0, v2), (0, v3), (0, 0), (9, 0)]) dX13_later_89 (by decide) rfl ?_
        refine r_iconst dX13_later_91 (by decide) ?_
        refine r_istore (ls2 := [(21, 92), (0, v1), (0, v2), (0, v3), (0, 0), (0, 0)]) dX13_later_92 (by decide) rfl ?_
        exact r_fgt [true, false, false, false, true, true] rfl h
      · have h := h.2 hc
        refine r_iload_n dX13_later_70 rfl ?_
        refine r_if_ne (tgt := 82) dX13_later_71 (by decide) (fun hc => ?_) (fun hc => ?_)
        · have h := h.1 hc
          refine r_aload_n dX13_later_82 rfl rfl ?_
          refine r_iconst dX13_later_83 (by decide) ?_
          refine r_callV (ci := 11) (As := [(0, 1)]) (st := []) (by decide) ok_X13_577 rfl rfl (Nat.le_of_ble_eq_true rfl) dX13_later_84 h (fun r1 s2 hv h => ?_)
          exact r_iret dX13_later_87 rfl h
        · have h := h.2 hc
          refine r_aload_n dX13_later_74 rfl rfl ?_
          refine r_iconst dX13_later_75 (by decide) ?_
          refine r_callV (ci := 11) (As := [(0, 1)]) (st := []) (by decide) ok_X13_580 rfl rfl (Nat.le_of_ble_eq_true rfl) dX13_later_76 h (fun r3 s4 hv h => ?_)
          refine r_goto (tgt := 87) dX13_later_79 (by decide) ?_
          exact r_iret dX13_later_87 rfl h
    · have h := h.2 hc
      refine r_iload_n dX13_later_63 rfl ?_
      exact r_iret dX13_later_64 rfl h
  · have h := h.2 hc
    refine r_aload_n dX13_later_39 rfl rfl ?_
    refine r_iconst dX13_later_40 (by decide) ?_
    refine r_iconst dX13_later_41 (by decide) ?_
    refine r_callV (ci := 11) (As := [(0, 1), (0, 0)]) (st := []) (by decide) ok_X13_600 rfl rfl (Nat.le_of_ble_eq_true rfl) dX13_later_42 h (fun r5 s6 hv h => ?_)
    refine r_iload_n dX13_later_45 rfl ?_
    refine r_aload_n dX13_later_46 rfl rfl ?_
    refine gf_X13_207 rfl dX13_later_47 ?_
    refine r_iadd dX13_later_50 ?_
    refine r_istore_n (ls2 := [(21, 92), (0, v1), (0, v2), (0, (w32 (v3 + (s6 92 64)))), (0, v4), (9, 0)]) dX13_later_51 (by decide) rfl ?_
    refine r_iinc (ls2 := [(21, 92), (0, v1), (0, v2), (0, (w32 (v3 + (s6 92 64)))), (0, (w32 (v4 + 1))), (9, 0)]) dX13_later_52 rfl (by decide) rfl ?_
    refine r_goto (tgt := 33) dX13_later_55 (by decide) ?_
    exact h
set_option maxRecDepth 20000 in
theorem S_X13_later_94 {g : GT} {e : Nat} {Q : Int → Sg → Prop} {s : Sg} {v4 : Int} {v5 : Int} (h : ((0 ≤ (s 92 13) ∧ (s 92 13) < 2) ∧ (((s 97 (s 92 13)) ≤ v5 → Q v4 s) ∧ (¬ (s 97 (s 92 13)) ≤ v5 → (Mw g e M_X13_strong [(21, 92), (0, 1), (0, v5)] s (fun r1 s2 => P_X13_later_94 g e Q s2 (w32 (v4 + r1)) (w32 (v5 + 1)))))))) : P_X13_later_94 g e Q s v4 v5 := by
  refine r_iload dX13_later_94 rfl ?_
  refine r_aload_n dX13_later_96 rfl rfl ?_
  refine gf_X13_63 rfl dX13_later_97 ?_
  refine r_aload_n dX13_later_100 rfl rfl ?_
  refine gf_X13_51 rfl dX13_later_101 ?_
  obtain ⟨hb, h⟩ := h
  refine r_iald (n := 2) rfl (by decide) dX13_later_104 hb ?_
  refine r_icmp_ge (tgt := 126) dX13_later_105 (by decide) (fun hc => ?_) (fun hc => ?_)
  · have h := h.1 hc
    refine r_iload dX13_later_126 rfl ?_
    exact r_iret dX13_later_128 rfl h
  · have h := h.2 hc
    refine r_iload dX13_later_108 rfl ?_
    refine r_aload_n dX13_later_110 rfl rfl ?_
    refine r_iconst dX13_later_111 (by decide) ?_
    refine r_iload dX13_later_112 rfl ?_
    refine r_callV (ci := 11) (As := [(0, 1), (0, v5)]) (st := [(0, v4)]) (by decide) ok_X13_522 rfl rfl (Nat.le_of_ble_eq_true rfl) dX13_later_114 h (fun r1 s2 hv h => ?_)
    refine r_iadd dX13_later_117 ?_
    refine r_istore (ls2 := [(21, 92), (9, 0), (9, 0), (9, 0), (0, (w32 (v4 + r1))), (0, v5)]) dX13_later_118 (by decide) rfl ?_
    refine r_iinc (ls2 := [(21, 92), (9, 0), (9, 0), (9, 0), (0, (w32 (v4 + r1))), (0, (w32 (v5 + 1)))]) dX13_later_120 rfl (by decide) rfl ?_
    refine r_goto (tgt := 94) dX13_later_123 (by decide) ?_
    exact h
set_option maxRecDepth 20000 in
theorem S_X13_later {g : GT} {e : Nat} {Q : Int → Sg → Prop} {s : Sg} {v1 : Int} {v2 : Int} (h : inR v1 → inR v2 → (Mw g e M_X13_isAhead [(21, 92), (0, v1), (0, 0), (0, 60)] s (fun r1 s2 => ((r1 = 0 → Q (-1) s2) ∧ (¬ r1 = 0 → (Mw g e M_X13_is [(0, v2), (0, 0), (0, 3)] s2 (fun r3 s4 => ((¬ r3 = 0 → (Mw g e M_X13_copies [(21, 92), (0, 1), (0, 0)] s4 (fun _ s6 => P_X13_later_33 g e Q s6 v1 v2 0 0))) ∧ (r3 = 0 → Q (-1) s4))))))))) : Mw g (e + 1) M_X13_later [(21, 92), (0, v1), (0, v2)] s Q := by
  refine Mw.of (ls := [(21, 92), (0, v1), (0, v2), (9, 0), (9, 0), (9, 0)]) pn_X13_later (Nat.le_of_ble_eq_true rfl) rfl (fun hv => ?_)
  have h := h (hv _ (List.Mem.tail _ (List.Mem.head _))) (hv _ (List.Mem.tail _ (List.Mem.tail _ (List.Mem.head _))))
  refine r_aload_n dX13_later_0 rfl rfl ?_
  refine r_iload_n dX13_later_1 rfl ?_
  refine r_iconst dX13_later_2 (by decide) ?_
  refine r_bipush dX13_later_3 (by decide) rfl ?_
  refine r_callV (ci := 11) (As := [(0, v1), (0, 0), (0, 60)]) (st := []) (by decide) ok_X13_597 rfl rfl (Nat.le_of_ble_eq_true rfl) dX13_later_5 h (fun r1 s2 hv h => ?_)
  refine r_if_eq (tgt := 20) dX13_later_8 (by decide) (fun hc => ?_) (fun hc => ?_)
  · have h := h.1 hc
    refine r_iconst dX13_later_20 (by decide) ?_
    exact r_iret dX13_later_21 rfl h
  · have h := h.2 hc
    refine r_iload_n dX13_later_11 rfl ?_
    refine r_iconst dX13_later_12 (by decide) ?_
    refine r_iconst dX13_later_13 (by decide) ?_
    refine r_callS (As := [(0, v2), (0, 0), (0, 3)]) (st := []) ok_X13_347 rfl rfl (Nat.le_of_ble_eq_true rfl) dX13_later_14 h (fun r3 s4 hv h => ?_)
    refine r_if_ne (tgt := 22) dX13_later_17 (by decide) (fun hc => ?_) (fun hc => ?_)
    · have h := h.1 hc
      refine r_aload_n dX13_later_22 rfl rfl ?_
      refine r_iconst dX13_later_23 (by decide) ?_
      refine r_iconst dX13_later_24 (by decide) ?_
      refine r_callV (ci := 11) (As := [(0, 1), (0, 0)]) (st := []) (by decide) ok_X13_461 rfl rfl (Nat.le_of_ble_eq_true rfl) dX13_later_25 h (fun r5 s6 hv h => ?_)
      refine r_iconst dX13_later_28 (by decide) ?_
      refine r_istore_n (ls2 := [(21, 92), (0, v1), (0, v2), (0, 0), (9, 0), (9, 0)]) dX13_later_29 (by decide) rfl ?_
      refine r_iconst dX13_later_30 (by decide) ?_
      refine r_istore (ls2 := [(21, 92), (0, v1), (0, v2), (0, 0), (0, 0), (9, 0)]) dX13_later_31 (by decide) rfl ?_
      exact h
    · have h := h.2 hc
      refine r_iconst dX13_later_20 (by decide) ?_
      exact r_iret dX13_later_21 rfl h
abbrev P_X13_built_18 (g : GT) (e : Nat) (Q : Int → Sg → Prop) (s : Sg) (v1 : Int) (v2 : Int) : Prop := Wp g (e + 1) M_X13_built Q 18 [(21, 92), (0, v1), (0, v2)] [] s
set_option maxRecDepth 20000 in
theorem S_X13_built_18 {g : GT} {e : Nat} {Q : Int → Sg → Prop} {s : Sg} {v1 : Int} {v2 : Int} (h : (Mw g e M_X13_isAhead [(21, 92), (0, v2), (0, 0), (0, 60)] s (fun r1 s2 => ((r1 = 0 → Q (-1) s2) ∧ (¬ r1 = 0 → (Mw g e M_X13_inWall [(21, 92), (0, 1), (0, v1)] s2 (fun r3 s4 => ((r3 = (-1) → (Mw g e M_X13_passes [(21, 92), (0, 1), (0, 0)] s4 (fun _ s6 => P_X13_built_18 g e Q s6 v1 (w32 (v2 + 1))))) ∧ (¬ r3 = (-1) → Q v2 s4))))))))) : P_X13_built_18 g e Q s v1 v2 := by
  refine r_aload_n dX13_built_18 rfl rfl ?_
  refine r_iload_n dX13_built_19 rfl ?_
  refine r_iconst dX13_built_20 (by decide) ?_
  refine r_bipush dX13_built_21 (by decide) rfl ?_
  refine r_callV (ci := 11) (As := [(0, v2), (0, 0), (0, 60)]) (st := []) (by decide) ok_X13_597 rfl rfl (Nat.le_of_ble_eq_true rfl) dX13_built_23 h (fun r1 s2 hv h => ?_)
  refine r_if_eq (tgt := 53) dX13_built_26 (by decide) (fun hc => ?_) (fun hc => ?_)
  · have h := h.1 hc
    refine r_iconst dX13_built_53 (by decide) ?_
    exact r_iret dX13_built_54 rfl h
  · have h := h.2 hc
    refine r_aload_n dX13_built_29 rfl rfl ?_
    refine r_iconst dX13_built_30 (by decide) ?_
    refine r_iload_n dX13_built_31 rfl ?_
    refine r_callV (ci := 11) (As := [(0, 1), (0, v1)]) (st := []) (by decide) ok_X13_507 rfl rfl (Nat.le_of_ble_eq_true rfl) dX13_built_32 h (fun r3 s4 hv h => ?_)
    refine r_iconst dX13_built_35 (by decide) ?_
    refine r_icmp_eq (tgt := 41) dX13_built_36 (by decide) (fun hc => ?_) (fun hc => ?_)
    · have h := h.1 hc
      refine r_aload_n dX13_built_41 rfl rfl ?_
      refine r_iconst dX13_built_42 (by decide) ?_
      refine r_iconst dX13_built_43 (by decide) ?_
      refine r_callV (ci := 11) (As := [(0, 1), (0, 0)]) (st := []) (by decide) ok_X13_600 rfl rfl (Nat.le_of_ble_eq_true rfl) dX13_built_44 h (fun r5 s6 hv h => ?_)
      refine r_iinc (ls2 := [(21, 92), (0, v1), (0, (w32 (v2 + 1)))]) dX13_built_47 rfl (by decide) rfl ?_
      refine r_goto (tgt := 18) dX13_built_50 (by decide) ?_
      exact h
    · have h := h.2 hc
      refine r_iload_n dX13_built_39 rfl ?_
      exact r_iret dX13_built_40 rfl h
set_option maxRecDepth 20000 in
theorem S_X13_built {g : GT} {e : Nat} {Q : Int → Sg → Prop} {s : Sg} {v1 : Int} (h : inR v1 → (Mw g e M_X13_isChild [(21, 92), (0, v1)] s (fun r1 s2 => ((¬ r1 = 0 → (Mw g e M_X13_copies [(21, 92), (0, 1), (0, 0)] s2 (fun _ s4 => P_X13_built_18 g e Q s4 v1 0))) ∧ (r1 = 0 → Q (-1) s2))))) : Mw g (e + 1) M_X13_built [(21, 92), (0, v1)] s Q := by
  refine Mw.of (ls := [(21, 92), (0, v1), (9, 0)]) pn_X13_built (Nat.le_of_ble_eq_true rfl) rfl (fun hv => ?_)
  have h := h (hv _ (List.Mem.tail _ (List.Mem.head _)))
  refine r_aload_n dX13_built_0 rfl rfl ?_
  refine r_iload_n dX13_built_1 rfl ?_
  refine r_callV (ci := 11) (As := [(0, v1)]) (st := []) (by decide) ok_X13_591 rfl rfl (Nat.le_of_ble_eq_true rfl) dX13_built_2 h (fun r1 s2 hv h => ?_)
  refine r_if_ne (tgt := 10) dX13_built_5 (by decide) (fun hc => ?_) (fun hc => ?_)
  · have h := h.1 hc
    refine r_aload_n dX13_built_10 rfl rfl ?_
    refine r_iconst dX13_built_11 (by decide) ?_
    refine r_iconst dX13_built_12 (by decide) ?_
    refine r_callV (ci := 11) (As := [(0, 1), (0, 0)]) (st := []) (by decide) ok_X13_461 rfl rfl (Nat.le_of_ble_eq_true rfl) dX13_built_13 h (fun r3 s4 hv h => ?_)
    refine r_iconst dX13_built_16 (by decide) ?_
    refine r_istore_n (ls2 := [(21, 92), (0, v1), (0, 0)]) dX13_built_17 (by decide) rfl ?_
    exact h
  · have h := h.2 hc
    refine r_iconst dX13_built_8 (by decide) ?_
    exact r_iret dX13_built_9 rfl h
set_option maxRecDepth 20000 in
theorem S_X13_down {g : GT} {e : Nat} {Q : Int → Sg → Prop} {s : Sg} {v1 : Int} (h : inR v1 → (Mw g e M_X13_isChild [(21, 92), (0, v1)] s (fun r1 s2 => ((r1 = 0 → Q (-1) s2) ∧ (¬ r1 = 0 → (Mw g e M_X13_inWall [(21, 92), (0, 0), (0, v1)] s2 (fun r3 s4 => ((¬ r3 = (-1) → (Mw g e M_X13_copies [(21, 92), (0, 1), (0, 0)] s4 (fun _ s6 => (Mw g e M_X13_takesDown [(21, 92), (0, 1), (0, v1)] s6 (fun r7 s8 => (Mw g e M_X13_falls [(21, 92), (0, 1)] s8 (fun r9 s10 => Q (bOr r7 r9) s10))))))) ∧ (r3 = (-1) → Q (-1) s4))))))))) : Mw g (e + 1) M_X13_down [(21, 92), (0, v1)] s Q := by
  refine Mw.of (ls := [(21, 92), (0, v1), (9, 0)]) pn_X13_down (Nat.le_of_ble_eq_true rfl) rfl (fun hv => ?_)
  have h := h (hv _ (List.Mem.tail _ (List.Mem.head _)))
  refine r_aload_n dX13_down_0 rfl rfl ?_
  refine r_iload_n dX13_down_1 rfl ?_
  refine r_callV (ci := 11) (As := [(0, v1)]) (st := []) (by decide) ok_X13_591 rfl rfl (Nat.le_of_ble_eq_true rfl) dX13_down_2 h (fun r1 s2 hv h => ?_)
  refine r_if_eq (tgt := 18) dX13_down_5 (by decide) (fun hc => ?_) (fun hc => ?_)
  · have h := h.1 hc
    refine r_iconst dX13_down_18 (by decide) ?_
    exact r_iret dX13_down_19 rfl h
  · have h := h.2 hc
    refine r_aload_n dX13_down_8 rfl rfl ?_
    refine r_iconst dX13_down_9 (by decide) ?_
    refine r_iload_n dX13_down_10 rfl ?_
    refine r_callV (ci := 11) (As := [(0, 0), (0, v1)]) (st := []) (by decide) ok_X13_507 rfl rfl (Nat.le_of_ble_eq_true rfl) dX13_down_11 h (fun r3 s4 hv h => ?_)
    refine r_iconst dX13_down_14 (by decide) ?_
    refine r_icmp_ne (tgt := 20) dX13_down_15 (by decide) (fun hc => ?_) (fun hc => ?_)
    · have h := h.1 hc
      refine r_aload_n dX13_down_20 rfl rfl ?_
      refine r_iconst dX13_down_21 (by decide) ?_
      refine r_iconst dX13_down_22 (by decide) ?_
      refine r_callV (ci := 11) (As := [(0, 1), (0, 0)]) (st := []) (by decide) ok_X13_461 rfl rfl (Nat.le_of_ble_eq_true rfl) dX13_down_23 h (fun r5 s6 hv h => ?_)
      refine r_aload_n dX13_down_26 rfl rfl ?_
      refine r_iconst dX13_down_27 (by decide) ?_
      refine r_iload_n dX13_down_28 rfl ?_
      refine r_callV (ci := 11) (As := [(0, 1), (0, v1)]) (st := []) (by decide) ok_X13_544 rfl rfl (Nat.le_of_ble_eq_true rfl) dX13_down_29 h (fun r7 s8 hv h => ?_)
      refine r_istore_n (ls2 := [(21, 92), (0, v1), (0, r7)]) dX13_down_32 (by decide) rfl ?_
      refine r_iload_n dX13_down_33 rfl ?_
      refine r_aload_n dX13_down_34 rfl rfl ?_
      refine r_iconst dX13_down_35 (by decide) ?_
      refine r_callV (ci := 11) (As := [(0, 1)]) (st := [(0, r7)]) (by decide) ok_X13_565 rfl rfl (Nat.le_of_ble_eq_true rfl) dX13_down_36 h (fun r9 s10 hv h => ?_)
      refine r_ior dX13_down_39 ?_
      exact r_iret dX13_down_40 rfl h
    · have h := h.2 hc
      refine r_iconst dX13_down_18 (by decide) ?_
      exact r_iret dX13_down_19 rfl h
abbrev P_X13_areHeld_2 (g : GT) (e : Nat) (Q : Int → Sg → Prop) (s : Sg) (v1 : Int) (v2 : Int) (v3 : Int) : Prop := Wp g (e + 1) M_X13_areHeld Q 2 [(21, 92), (0, v1), (0, v2), (0, v3), (9, 0), (9, 0), (9, 0)] [] s
abbrev P_X13_areHeld_49 (g : GT) (e : Nat) (Q : Int → Sg → Prop) (s : Sg) (v1 : Int) (v2 : Int) (v3 : Int) (v4 : Int) (v5 : Int) : Prop := Wp g (e + 1) M_X13_areHeld Q 49 [(21, 92), (0, v1), (0, v2), (0, v3), (0, v4), (0, v5), (9, 0)] [] s
abbrev P_X13_areHeld_98 (g : GT) (e : Nat) (Q : Int → Sg → Prop) (s : Sg) (v1 : Int) (v2 : Int) (v3 : Int) (v4 : Int) : Prop := Wp g (e + 1) M_X13_areHeld Q 98 [(21, 92), (0, v1), (0, v2), (0, v3), (0, v4), (9, 0), (9, 0)] [] s
set_option maxRecDepth 20000 in
theorem S_X13_areHeld_2 {g : GT} {e : Nat} {Q : Int → Sg → Prop} {s : Sg} {v1 : Int} {v2 : Int} {v3 : Int} (h : ((0 ≤ (s 92 13) ∧ (s 92 13) < 2) ∧ (((s 97 (s 92 13)) ≤ v3 → Q 1 s) ∧ (¬ (s 97 (s 92 13)) ≤ v3 → (Mw g e M_X13_inWall [(21, 92), (0, 1), (0, v3)] s (fun r1 s2 => ((¬ r1 = v1 → P_X13_areHeld_2 g e Q s2 v1 v2 (w32 (v3 + 1))) ∧ (r1 = v1 → (Mw g e M_X13_has2 [(0, v2), (0, v3)] s2 (fun r3 s4 => ((r3 = 0 → (Mw g e M_X13_course [(21, 92), (0, 1), (0, v3)] s4 (fun r5 s6 => P_X13_areHeld_49 g e Q s6 v1 v2 v3 0 (w32 (r5 + 1))))) ∧ (¬ r3 = 0 → P_X13_areHeld_2 g e Q s4 v1 v2 (w32 (v3 + 1)))))))))))))) : P_X13_areHeld_2 g e Q s v1 v2 v3 := by
  refine r_iload_n dX13_areHeld_2 rfl ?_
  refine r_aload_n dX13_areHeld_3 rfl rfl ?_
  refine gf_X13_63 rfl dX13_areHeld_4 ?_
  refine r_aload_n dX13_areHeld_7 rfl rfl ?_
  refine gf_X13_51 rfl dX13_areHeld_8 ?_
  obtain ⟨hb, h⟩ := h
  refine r_iald (n := 2) rfl (by decide) dX13_areHeld_11 hb ?_
  refine r_icmp_ge (tgt := 123) dX13_areHeld_12 (by decide) (fun hc => ?_) (fun hc => ?_)
  · have h := h.1 hc
    refine r_iconst dX13_areHeld_123 (by decide) ?_
    exact r_zret dX13_areHeld_124 rfl (by decide) h
  · have h := h.2 hc
    refine r_aload_n dX13_areHeld_15 rfl rfl ?_
    refine r_iconst dX13_areHeld_16 (by decide) ?_
    refine r_iload_n dX13_areHeld_17 rfl ?_
    refine r_callV (ci := 11) (As := [(0, 1), (0, v3)]) (st := []) (by decide) ok_X13_507 rfl rfl (Nat.le_of_ble_eq_true rfl) dX13_areHeld_18 h (fun r1 s2 hv h => ?_)
    refine r_iload_n dX13_areHeld_21 rfl ?_
    refine r_icmp_ne (tgt := 117) dX13_areHeld_22 (by decide) (fun hc => ?_) (fun hc => ?_)
    · have h := h.1 hc
      refine r_iinc (ls2 := [(21, 92), (0, v1), (0, v2), (0, (w32 (v3 + 1))), (9, 0), (9, 0), (9, 0)]) dX13_areHeld_117 rfl (by decide) rfl ?_
      refine r_goto (tgt := 2) dX13_areHeld_120 (by decide) ?_
      exact h
    · have h := h.2 hc
      refine r_iload_n dX13_areHeld_25 rfl ?_
      refine r_iload_n dX13_areHeld_26 rfl ?_
      refine r_callS (As := [(0, v2), (0, v3)]) (st := []) ok_X13_389 rfl rfl (Nat.le_of_ble_eq_true rfl) dX13_areHeld_27 h (fun r3 s4 hv h => ?_)
      refine r_if_eq (tgt := 36) dX13_areHeld_30 (by decide) (fun hc => ?_) (fun hc => ?_)
      · have h := h.1 hc
        refine r_iconst dX13_areHeld_36 (by decide) ?_
        refine r_istore (ls2 := [(21, 92), (0, v1), (0, v2), (0, v3), (0, 0), (9, 0), (9, 0)]) dX13_areHeld_37 (by decide) rfl ?_
        refine r_aload_n dX13_areHeld_39 rfl rfl ?_
        refine r_iconst dX13_areHeld_40 (by decide) ?_
        refine r_iload_n dX13_areHeld_41 rfl ?_
        refine r_callV (ci := 11) (As := [(0, 1), (0, v3)]) (st := []) (by decide) ok_X13_513 rfl rfl (Nat.le_of_ble_eq_true rfl) dX13_areHeld_42 h (fun r5 s6 hv h => ?_)
        refine r_iconst dX13_areHeld_45 (by decide) ?_
        refine r_iadd dX13_areHeld_46 ?_
        refine r_istore (ls2 := [(21, 92), (0, v1), (0, v2), (0, v3), (0, 0), (0, (w32 (r5 + 1))), (9, 0)]) dX13_areHeld_47 (by decide) rfl ?_
        exact h
      · have h := h.2 hc
        refine r_goto (tgt := 117) dX13_areHeld_33 (by decide) ?_
        refine r_iinc (ls2 := [(21, 92), (0, v1), (0, v2), (0, (w32 (v3 + 1))), (9, 0), (9, 0), (9, 0)]) dX13_areHeld_117 rfl (by decide) rfl ?_
        refine r_goto (tgt := 2) dX13_areHeld_120 (by decide) ?_
        exact h
set_option maxRecDepth 20000 in
theorem S_X13_areHeld_49 {g : GT} {e : Nat} {Q : Int → Sg → Prop} {s : Sg} {v1 : Int} {v2 : Int} {v3 : Int} {v4 : Int} {v5 : Int} (h : ((4 ≤ v5 → P_X13_areHeld_98 g e Q s v1 v2 v3 v4) ∧ (¬ 4 ≤ v5 → (Mw g e M_X13_column [(21, 92), (0, 1), (0, v3)] s (fun r1 s2 => (Mw g e M_X13_lies [(21, 92), (0, 1), (0, v1), (0, r1), (0, v5)] s2 (fun r3 s4 => ((r3 = (-1) → P_X13_areHeld_98 g e Q s4 v1 v2 v3 v4) ∧ (¬ r3 = (-1) → (Mw g e M_X13_has2 [(0, v2), (0, r3)] s4 (fun r5 s6 => ((r5 = 0 → P_X13_areHeld_49 g e Q s6 v1 v2 v3 (w32 (v4 + 1)) (w32 (v5 + 1))) ∧ (¬ r5 = 0 → P_X13_areHeld_98 g e Q s6 v1 v2 v3 v4))))))))))))) : P_X13_areHeld_49 g e Q s v1 v2 v3 v4 v5 := by
  refine r_iload dX13_areHeld_49 rfl ?_
  refine r_iconst dX13_areHeld_51 (by decide) ?_
  refine r_icmp_ge (tgt := 98) dX13_areHeld_52 (by decide) (fun hc => ?_) (fun hc => ?_)
  · have h := h.1 hc
    exact r_fgt [true, true, true, true, true, false, false] rfl h
  · have h := h.2 hc
    refine r_aload_n dX13_areHeld_55 rfl rfl ?_
    refine r_iconst dX13_areHeld_56 (by decide) ?_
    refine r_iload_n dX13_areHeld_57 rfl ?_
    refine r_aload_n dX13_areHeld_58 rfl rfl ?_
    refine r_iconst dX13_areHeld_59 (by decide) ?_
    refine r_iload_n dX13_areHeld_60 rfl ?_
    refine r_callV (ci := 11) (As := [(0, 1), (0, v3)]) (st := [(0, v1), (0, 1), (21, 92)]) (by decide) ok_X13_510 rfl rfl (Nat.le_of_ble_eq_true rfl) dX13_areHeld_61 h (fun r1 s2 hv h => ?_)
    refine r_iload dX13_areHeld_64 rfl ?_
    refine r_callV (ci := 11) (As := [(0, 1), (0, v1), (0, r1), (0, v5)]) (st := []) (by decide) ok_X13_534 rfl rfl (Nat.le_of_ble_eq_true rfl) dX13_areHeld_66 h (fun r3 s4 hv h => ?_)
    refine r_istore (ls2 := [(21, 92), (0, v1), (0, v2), (0, v3), (0, v4), (0, v5), (0, r3)]) dX13_areHeld_69 (by decide) rfl ?_
    refine r_iload dX13_areHeld_71 rfl ?_
    refine r_iconst dX13_areHeld_73 (by decide) ?_
    refine r_icmp_eq (tgt := 98) dX13_areHeld_74 (by decide) (fun hc => ?_) (fun hc => ?_)
    · have h := h.1 hc
      exact r_fgt [true, true, true, true, true, false, false] rfl h
    · have h := h.2 hc
      refine r_iload_n dX13_areHeld_77 rfl ?_
      refine r_iload dX13_areHeld_78 rfl ?_
      refine r_callS (As := [(0, v2), (0, r3)]) (st := []) ok_X13_389 rfl rfl (Nat.le_of_ble_eq_true rfl) dX13_areHeld_80 h (fun r5 s6 hv h => ?_)
      refine r_if_eq (tgt := 89) dX13_areHeld_83 (by decide) (fun hc => ?_) (fun hc => ?_)
      · have h := h.1 hc
        refine r_iinc (ls2 := [(21, 92), (0, v1), (0, v2), (0, v3), (0, (w32 (v4 + 1))), (0, v5), (0, r3)]) dX13_areHeld_89 rfl (by decide) rfl ?_
        refine r_iinc (ls2 := [(21, 92), (0, v1), (0, v2), (0, v3), (0, (w32 (v4 + 1))), (0, (w32 (v5 + 1))), (0, r3)]) dX13_areHeld_92 rfl (by decide) rfl ?_
        refine r_goto (tgt := 49) dX13_areHeld_95 (by decide) ?_
        exact r_fgt [true, true, true, true, true, true, false] rfl h
      · have h := h.2 hc
        refine r_goto (tgt := 98) dX13_areHeld_86 (by decide) ?_
        exact r_fgt [true, true, true, true, true, false, false] rfl h
set_option maxRecDepth 20000 in
theorem S_X13_areHeld_98 {g : GT} {e : Nat} {Q : Int → Sg → Prop} {s : Sg} {v1 : Int} {v2 : Int} {v3 : Int} {v4 : Int} (h : (Mw g e M_X13_bears [(21, 92), (0, 1), (0, v3)] s (fun r1 s2 => (Mw g e M_X13_toldOf [(21, 92), (0, 2)] s2 (fun r3 s4 => (((w32 (v4 * r3)) ≤ r1 → P_X13_areHeld_2 g e Q s4 v1 v2 (w32 (v3 + 1))) ∧ (¬ (w32 (v4 * r3)) ≤ r1 → Q 0 s4))))))) : P_X13_areHeld_98 g e Q s v1 v2 v3 v4 := by
  refine r_aload_n dX13_areHeld_98 rfl rfl ?_
  refine r_iconst dX13_areHeld_99 (by decide) ?_
  refine r_iload_n dX13_areHeld_100 rfl ?_
  refine r_callV (ci := 11) (As := [(0, 1), (0, v3)]) (st := []) (by decide) ok_X13_525 rfl rfl (Nat.le_of_ble_eq_true rfl) dX13_areHeld_101 h (fun r1 s2 hv h => ?_)
  refine r_iload dX13_areHeld_104 rfl ?_
  refine r_aload_n dX13_areHeld_106 rfl rfl ?_
  refine r_iconst dX13_areHeld_107 (by decide) ?_
  refine r_callV (ci := 11) (As := [(0, 2)]) (st := [(0, v4), (0, r1)]) (by decide) ok_X13_501 rfl rfl (Nat.le_of_ble_eq_true rfl) dX13_areHeld_108 h (fun r3 s4 hv h => ?_)
  refine r_imul dX13_areHeld_111 ?_
  refine r_icmp_ge (tgt := 117) dX13_areHeld_112 (by decide) (fun hc => ?_) (fun hc => ?_)
  · have h := h.1 hc
    refine r_iinc (ls2 := [(21, 92), (0, v1), (0, v2), (0, (w32 (v3 + 1))), (0, v4), (9, 0), (9, 0)]) dX13_areHeld_117 rfl (by decide) rfl ?_
    refine r_goto (tgt := 2) dX13_areHeld_120 (by decide) ?_
    exact r_fgt [true, true, true, true, false, false, false] rfl h
  · have h := h.2 hc
    refine r_iconst dX13_areHeld_115 (by decide) ?_
    exact r_zret dX13_areHeld_116 rfl (by decide) h
set_option maxRecDepth 20000 in
theorem S_X13_areHeld {g : GT} {e : Nat} {Q : Int → Sg → Prop} {s : Sg} {v1 : Int} {v2 : Int} (h : inR v1 → inR v2 → P_X13_areHeld_2 g e Q s v1 v2 0) : Mw g (e + 1) M_X13_areHeld [(21, 92), (0, v1), (0, v2)] s Q := by
  refine Mw.of (ls := [(21, 92), (0, v1), (0, v2), (9, 0), (9, 0), (9, 0), (9, 0)]) pn_X13_areHeld (Nat.le_of_ble_eq_true rfl) rfl (fun hv => ?_)
  have h := h (hv _ (List.Mem.tail _ (List.Mem.head _))) (hv _ (List.Mem.tail _ (List.Mem.tail _ (List.Mem.head _))))
  refine r_iconst dX13_areHeld_0 (by decide) ?_
  refine r_istore_n (ls2 := [(21, 92), (0, v1), (0, v2), (0, 0), (9, 0), (9, 0), (9, 0)]) dX13_areHeld_1 (by decide) rfl ?_
  exact h
abbrev P_X13_props_32 (g : GT) (e : Nat) (Q : Int → Sg → Prop) (s : Sg) (v1 : Int) (v2 : Int) (v3 : Int) (v4 : Int) : Prop := Wp g (e + 1) M_X13_props Q 32 [(21, 92), (0, v1), (0, v2), (0, v3), (0, v4)] [] s
abbrev P_X13_props_67 (g : GT) (e : Nat) (Q : Int → Sg → Prop) (s : Sg) (v1 : Int) (v2 : Int) (v3 : Int) (v4 : Int) : Prop := Wp g (e + 1) M_X13_props Q 67 [(21, 92), (0, v1), (0, v2), (0, v3), (0, v4)] [] s
set_option maxRecDepth 20000 in
theorem S_X13_props_32 {g : GT} {e : Nat} {Q : Int → Sg → Prop} {s : Sg} {v1 : Int} {v2 : Int} {v3 : Int} {v4 : Int} (h : ((v2 < v4 → Q v3 s) ∧ (¬ v2 < v4 → ((¬ (bAnd v4 (bXor v2 (-1))) = 0 → P_X13_props_32 g e Q s v1 v2 v3 (w32 (v4 + 1))) ∧ ((bAnd v4 (bXor v2 (-1))) = 0 → ((v3 = (-1) → P_X13_props_67 g e Q s v1 v2 v3 v4) ∧ (¬ v3 = (-1) → (Mw g e M_X13_bits [(0, v4)] s (fun r1 s2 => (Mw g e M_X13_bits [(0, v3)] s2 (fun r3 s4 => ((r1 < r3 → P_X13_props_67 g e Q s4 v1 v2 v3 v4) ∧ (¬ r1 < r3 → P_X13_props_32 g e Q s4 v1 v2 v3 (w32 (v4 + 1))))))))))))))) : P_X13_props_32 g e Q s v1 v2 v3 v4 := by
  refine r_iload dX13_props_32 rfl ?_
  refine r_iload_n dX13_props_34 rfl ?_
  refine r_icmp_gt (tgt := 86) dX13_props_35 (by decide) (fun hc => ?_) (fun hc => ?_)
  · have h := h.1 hc
    refine r_iload_n dX13_props_86 rfl ?_
    exact r_iret dX13_props_87 rfl h
  · have h := h.2 hc
    refine r_iload dX13_props_38 rfl ?_
    refine r_iload_n dX13_props_40 rfl ?_
    refine r_iconst dX13_props_41 (by decide) ?_
    refine r_ixor dX13_props_42 ?_
    refine r_iand dX13_props_43 ?_
    refine r_if_ne (tgt := 80) dX13_props_44 (by decide) (fun hc => ?_) (fun hc => ?_)
    · have h := h.1 hc
      refine r_iinc (ls2 := [(21, 92), (0, v1), (0, v2), (0, v3), (0, (w32 (v4 + 1)))]) dX13_props_80 rfl (by decide) rfl ?_
      refine r_goto (tgt := 32) dX13_props_83 (by decide) ?_
      exact h
    · have h := h.2 hc
      refine r_iload_n dX13_props_47 rfl ?_
      refine r_iconst dX13_props_48 (by decide) ?_
      refine r_icmp_eq (tgt := 67) dX13_props_49 (by decide) (fun hc => ?_) (fun hc => ?_)
      · have h := h.1 hc
        exact h
      · have h := h.2 hc
        refine r_iload dX13_props_52 rfl ?_
        refine r_callS (As := [(0, v4)]) (st := []) ok_X13_568 rfl rfl (Nat.le_of_ble_eq_true rfl) dX13_props_54 h (fun r1 s2 hv h => ?_)
        refine r_iload_n dX13_props_57 rfl ?_
        refine r_callS (As := [(0, v3)]) (st := [(0, r1)]) ok_X13_568 rfl rfl (Nat.le_of_ble_eq_true rfl) dX13_props_58 h (fun r3 s4 hv h => ?_)
        refine r_icmp_lt (tgt := 67) dX13_props_61 (by decide) (fun hc => ?_) (fun hc => ?_)
        · have h := h.1 hc
          exact h
        · have h := h.2 hc
          refine r_goto (tgt := 80) dX13_props_64 (by decide) ?_
          refine r_iinc (ls2 := [(21, 92), (0, v1), (0, v2), (0, v3), (0, (w32 (v4 + 1)))]) dX13_props_80 rfl (by decide) rfl ?_
          refine r_goto (tgt := 32) dX13_props_83 (by decide) ?_
          exact h
set_option maxRecDepth 20000 in
theorem S_X13_props_67 {g : GT} {e : Nat} {Q : Int → Sg → Prop} {s : Sg} {v1 : Int} {v2 : Int} {v3 : Int} {v4 : Int} (h : (Mw g e M_X13_areHeld [(21, 92), (0, v1), (0, v4)] s (fun r1 s2 => ((r1 = 0 → P_X13_props_32 g e Q s2 v1 v2 v3 (w32 (v4 + 1))) ∧ (¬ r1 = 0 → P_X13_props_32 g e Q s2 v1 v2 v4 (w32 (v4 + 1))))))) : P_X13_props_67 g e Q s v1 v2 v3 v4 := by
  refine r_aload_n dX13_props_67 rfl rfl ?_
  refine r_iload_n dX13_props_68 rfl ?_
  refine r_iload dX13_props_69 rfl ?_
  refine r_callV (ci := 11) (As := [(0, v1), (0, v4)]) (st := []) (by decide) ok_X13_604 rfl rfl (Nat.le_of_ble_eq_true rfl) dX13_props_71 h (fun r1 s2 hv h => ?_)
  refine r_if_eq (tgt := 80) dX13_props_74 (by decide) (fun hc => ?_) (fun hc => ?_)
  · have h := h.1 hc
    refine r_iinc (ls2 := [(21, 92), (0, v1), (0, v2), (0, v3), (0, (w32 (v4 + 1)))]) dX13_props_80 rfl (by decide) rfl ?_
    refine r_goto (tgt := 32) dX13_props_83 (by decide) ?_
    exact h
  · have h := h.2 hc
    refine r_iload dX13_props_77 rfl ?_
    refine r_istore_n (ls2 := [(21, 92), (0, v1), (0, v2), (0, v4), (0, v4)]) dX13_props_79 (by decide) rfl ?_
    refine r_iinc (ls2 := [(21, 92), (0, v1), (0, v2), (0, v4), (0, (w32 (v4 + 1)))]) dX13_props_80 rfl (by decide) rfl ?_
    refine r_goto (tgt := 32) dX13_props_83 (by decide) ?_
    exact h
set_option maxRecDepth 20000 in
theorem S_X13_props {g : GT} {e : Nat} {Q : Int → Sg → Prop} {s : Sg} {v1 : Int} (h : inR v1 → (Mw g e M_X13_isWall [(21, 92), (0, v1)] s (fun r1 s2 => ((¬ r1 = 0 → (Mw g e M_X13_copies [(21, 92), (0, 1), (0, 0)] s2 (fun _ s4 => (Mw g e M_X13_freezes [(21, 92), (0, 1)] s4 (fun _ s6 => (Mw g e M_X13_stonesIn [(21, 92), (0, v1)] s6 (fun r7 s8 => P_X13_props_32 g e Q s8 v1 r7 (-1) 0))))))) ∧ (r1 = 0 → Q (-1) s2))))) : Mw g (e + 1) M_X13_props [(21, 92), (0, v1)] s Q := by
  refine Mw.of (ls := [(21, 92), (0, v1), (9, 0), (9, 0), (9, 0)]) pn_X13_props (Nat.le_of_ble_eq_true rfl) rfl (fun hv => ?_)
  have h := h (hv _ (List.Mem.tail _ (List.Mem.head _)))
  refine r_aload_n dX13_props_0 rfl rfl ?_
  refine r_iload_n dX13_props_1 rfl ?_
  refine r_callV (ci := 11) (As := [(0, v1)]) (st := []) (by decide) ok_X13_594 rfl rfl (Nat.le_of_ble_eq_true rfl) dX13_props_2 h (fun r1 s2 hv h => ?_)
  refine r_if_ne (tgt := 10) dX13_props_5 (by decide) (fun hc => ?_) (fun hc => ?_)
  · have h := h.1 hc
    refine r_aload_n dX13_props_10 rfl rfl ?_
    refine r_iconst dX13_props_11 (by decide) ?_
    refine r_iconst dX13_props_12 (by decide) ?_
    refine r_callV (ci := 11) (As := [(0, 1), (0, 0)]) (st := []) (by decide) ok_X13_461 rfl rfl (Nat.le_of_ble_eq_true rfl) dX13_props_13 h (fun r3 s4 hv h => ?_)
    refine r_aload_n dX13_props_16 rfl rfl ?_
    refine r_iconst dX13_props_17 (by decide) ?_
    refine r_callV (ci := 11) (As := [(0, 1)]) (st := []) (by decide) ok_X13_562 rfl rfl (Nat.le_of_ble_eq_true rfl) dX13_props_18 h (fun r5 s6 hv h => ?_)
    refine r_aload_n dX13_props_21 rfl rfl ?_
    refine r_iload_n dX13_props_22 rfl ?_
    refine r_callV (ci := 11) (As := [(0, v1)]) (st := []) (by decide) ok_X13_583 rfl rfl (Nat.le_of_ble_eq_true rfl) dX13_props_23 h (fun r7 s8 hv h => ?_)
    refine r_istore_n (ls2 := [(21, 92), (0, v1), (0, r7), (9, 0), (9, 0)]) dX13_props_26 (by decide) rfl ?_
    refine r_iconst dX13_props_27 (by decide) ?_
    refine r_istore_n (ls2 := [(21, 92), (0, v1), (0, r7), (0, (-1)), (9, 0)]) dX13_props_28 (by decide) rfl ?_
    refine r_iconst dX13_props_29 (by decide) ?_
    refine r_istore (ls2 := [(21, 92), (0, v1), (0, r7), (0, (-1)), (0, 0)]) dX13_props_30 (by decide) rfl ?_
    exact h
  · have h := h.2 hc
    refine r_iconst dX13_props_8 (by decide) ?_
    exact r_iret dX13_props_9 rfl h
abbrev P_X13_strongest_36 (g : GT) (e : Nat) (Q : Int → Sg → Prop) (s : Sg) (v1 : Int) (v2 : Int) (v3 : Int) (v4 : Int) (v5 : Int) : Prop := Wp g (e + 1) M_X13_strongest Q 36 [(21, 92), (0, v1), (0, v2), (0, v3), (0, v4), (0, v5), (9, 0), (9, 0)] [] s
abbrev P_X13_strongest_66 (g : GT) (e : Nat) (Q : Int → Sg → Prop) (s : Sg) (v1 : Int) (v2 : Int) (v3 : Int) (v4 : Int) (v5 : Int) (v6 : Int) (v7 : Int) : Prop := Wp g (e + 1) M_X13_strongest Q 66 [(21, 92), (0, v1), (0, v2), (0, v3), (0, v4), (0, v5), (0, v6), (0, v7)] [] s
set_option maxRecDepth 20000 in
theorem S_X13_strongest_36 {g : GT} {e : Nat} {Q : Int → Sg → Prop} {s : Sg} {v1 : Int} {v2 : Int} {v3 : Int} {v4 : Int} {v5 : Int} (h : ((0 ≤ (s 92 13) ∧ (s 92 13) < 2) ∧ (((s 94 (s 92 13)) ≤ v5 → ((¬ v2 = 0 → Q v4 s) ∧ (v2 = 0 → Q v3 s))) ∧ (¬ (s 94 (s 92 13)) ≤ v5 → (Mw g e M_X13_strong [(21, 92), (0, 0), (0, v1)] s (fun r1 s2 => P_X13_strongest_66 g e Q s2 v1 v2 v3 v4 v5 r1 (s2 122 0))))))) : P_X13_strongest_36 g e Q s v1 v2 v3 v4 v5 := by
  refine r_iload dX13_strongest_36 rfl ?_
  refine r_aload_n dX13_strongest_38 rfl rfl ?_
  refine gf_X13_54 rfl dX13_strongest_39 ?_
  refine r_aload_n dX13_strongest_42 rfl rfl ?_
  refine gf_X13_51 rfl dX13_strongest_43 ?_
  obtain ⟨hb, h⟩ := h
  refine r_iald (n := 2) rfl (by decide) dX13_strongest_46 hb ?_
  refine r_icmp_ge (tgt := 147) dX13_strongest_47 (by decide) (fun hc => ?_) (fun hc => ?_)
  · have h := h.1 hc
    refine r_iload_n dX13_strongest_147 rfl ?_
    refine r_if_ne (tgt := 155) dX13_strongest_148 (by decide) (fun hc => ?_) (fun hc => ?_)
    · have h := h.1 hc
      refine r_iload dX13_strongest_155 rfl ?_
      exact r_iret dX13_strongest_157 rfl h
    · have h := h.2 hc
      refine r_iload_n dX13_strongest_151 rfl ?_
      refine r_goto (tgt := 157) dX13_strongest_152 (by decide) ?_
      exact r_iret dX13_strongest_157 rfl h
  · have h := h.2 hc
    refine r_aload_n dX13_strongest_50 rfl rfl ?_
    refine r_iconst dX13_strongest_51 (by decide) ?_
    refine r_iload_n dX13_strongest_52 rfl ?_
    refine r_callV (ci := 11) (As := [(0, 0), (0, v1)]) (st := []) (by decide) ok_X13_522 rfl rfl (Nat.le_of_ble_eq_true rfl) dX13_strongest_53 h (fun r1 s2 hv h => ?_)
    refine r_istore (ls2 := [(21, 92), (0, v1), (0, v2), (0, v3), (0, v4), (0, v5), (0, r1), (9, 0)]) dX13_strongest_56 (by decide) rfl ?_
    refine r_aload_n dX13_strongest_58 rfl rfl ?_
    refine gf_X13_162 rfl dX13_strongest_59 ?_
    refine r_iconst dX13_strongest_62 (by decide) ?_
    refine r_iald (n := 23) rfl (by decide) dX13_strongest_63 (by decide) ?_
    refine r_istore (ls2 := [(21, 92), (0, v1), (0, v2), (0, v3), (0, v4), (0, v5), (0, r1), (0, (s2 122 0))]) dX13_strongest_64 (by decide) rfl ?_
    exact h
set_option maxRecDepth 20000 in
theorem S_X13_strongest_66 {g : GT} {e : Nat} {Q : Int → Sg → Prop} {s : Sg} {v1 : Int} {v2 : Int} {v3 : Int} {v4 : Int} {v5 : Int} {v6 : Int} {v7 : Int} (h : (Mw g e M_X13_born [(21, 92), (0, v1)] s (fun r1 s2 => (Mw g e M_X13_toldOf [(21, 92), (0, 1)] s2 (fun r3 s4 => (((w32 (r1 + r3)) ≤ v7 → ((v4 < v6 → P_X13_strongest_36 g e Q s4 v1 v2 v5 v6 (w32 (v5 + 1))) ∧ (¬ v4 < v6 → P_X13_strongest_36 g e Q s4 v1 v2 v3 v4 (w32 (v5 + 1))))) ∧ (¬ (w32 (r1 + r3)) ≤ v7 → (Mw g e M_X13_born [(21, 92), (0, v1)] s4 (fun r5 s6 => (Mw g e M_X13_toldOf [(21, 92), (0, 0)] s6 (fun r7 s8 => ((v7 < (w32 (r5 + r7)) → P_X13_strongest_66 g e Q s8 v1 v2 v3 v4 v5 v6 (w32 (v7 + 1))) ∧ (¬ v7 < (w32 (r5 + r7)) → (Mw g e M_X13_born [(21, 92), (0, v1)] s8 (fun r9 s10 => (Mw g e M_X13_raised [(21, 92), (0, v5), (0, (w32 (v7 - r9))), (0, v6), (0, v7)] s10 (fun r11 s12 => P_X13_strongest_66 g e Q s12 v1 v2 v3 v4 v5 r11 (w32 (v7 + 1))))))))))))))))))) : P_X13_strongest_66 g e Q s v1 v2 v3 v4 v5 v6 v7 := by
  refine r_iload dX13_strongest_66 rfl ?_
  refine r_aload_n dX13_strongest_68 rfl rfl ?_
  refine r_iload_n dX13_strongest_69 rfl ?_
  refine r_callV (ci := 11) (As := [(0, v1)]) (st := [(0, v7)]) (by decide) ok_X13_495 rfl rfl (Nat.le_of_ble_eq_true rfl) dX13_strongest_70 h (fun r1 s2 hv h => ?_)
  refine r_aload_n dX13_strongest_73 rfl rfl ?_
  refine r_iconst dX13_strongest_74 (by decide) ?_
  refine r_callV (ci := 11) (As := [(0, 1)]) (st := [(0, r1), (0, v7)]) (by decide) ok_X13_501 rfl rfl (Nat.le_of_ble_eq_true rfl) dX13_strongest_75 h (fun r3 s4 hv h => ?_)
  refine r_iadd dX13_strongest_78 ?_
  refine r_icmp_ge (tgt := 124) dX13_strongest_79 (by decide) (fun hc => ?_) (fun hc => ?_)
  · have h := h.1 hc
    refine r_iload dX13_strongest_124 rfl ?_
    refine r_iload dX13_strongest_126 rfl ?_
    refine r_icmp_gt (tgt := 134) dX13_strongest_128 (by decide) (fun hc => ?_) (fun hc => ?_)
    · have h := h.1 hc
      refine r_iload dX13_strongest_134 rfl ?_
      refine r_istore (ls2 := [(21, 92), (0, v1), (0, v2), (0, v3), (0, v6), (0, v5), (0, v6), (0, v7)]) dX13_strongest_136 (by decide) rfl ?_
      refine r_iload dX13_strongest_138 rfl ?_
      refine r_istore_n (ls2 := [(21, 92), (0, v1), (0, v2), (0, v5), (0, v6), (0, v5), (0, v6), (0, v7)]) dX13_strongest_140 (by decide) rfl ?_
      refine r_iinc (ls2 := [(21, 92), (0, v1), (0, v2), (0, v5), (0, v6), (0, (w32 (v5 + 1))), (0, v6), (0, v7)]) dX13_strongest_141 rfl (by decide) rfl ?_
      refine r_goto (tgt := 36) dX13_strongest_144 (by decide) ?_
      exact r_fgt [true, true, true, true, true, true, false, false] rfl h
    · have h := h.2 hc
      refine r_goto (tgt := 141) dX13_strongest_131 (by decide) ?_
      refine r_iinc (ls2 := [(21, 92), (0, v1), (0, v2), (0, v3), (0, v4), (0, (w32 (v5 + 1))), (0, v6), (0, v7)]) dX13_strongest_141 rfl (by decide) rfl ?_
      refine r_goto (tgt := 36) dX13_strongest_144 (by decide) ?_
      exact r_fgt [true, true, true, true, true, true, false, false] rfl h
  · have h := h.2 hc
    refine r_iload dX13_strongest_82 rfl ?_
    refine r_aload_n dX13_strongest_84 rfl rfl ?_
    refine r_iload_n dX13_strongest_85 rfl ?_
    refine r_callV (ci := 11) (As := [(0, v1)]) (st := [(0, v7)]) (by decide) ok_X13_495 rfl rfl (Nat.le_of_ble_eq_true rfl) dX13_strongest_86 h (fun r5 s6 hv h => ?_)
    refine r_aload_n dX13_strongest_89 rfl rfl ?_
    refine r_iconst dX13_strongest_90 (by decide) ?_
    refine r_callV (ci := 11) (As := [(0, 0)]) (st := [(0, r5), (0, v7)]) (by decide) ok_X13_501 rfl rfl (Nat.le_of_ble_eq_true rfl) dX13_strongest_91 h (fun r7 s8 hv h => ?_)
    refine r_iadd dX13_strongest_94 ?_
    refine r_icmp_lt (tgt := 118) dX13_strongest_95 (by decide) (fun hc => ?_) (fun hc => ?_)
    · have h := h.1 hc
      refine r_iinc (ls2 := [(21, 92), (0, v1), (0, v2), (0, v3), (0, v4), (0, v5), (0, v6), (0, (w32 (v7 + 1)))]) dX13_strongest_118 rfl (by decide) rfl ?_
      refine r_goto (tgt := 66) dX13_strongest_121 (by decide) ?_
      exact h
    · have h := h.2 hc
      refine r_aload_n dX13_strongest_98 rfl rfl ?_
      refine r_iload dX13_strongest_99 rfl ?_
      refine r_iload dX13_strongest_101 rfl ?_
      refine r_aload_n dX13_strongest_103 rfl rfl ?_
      refine r_iload_n dX13_strongest_104 rfl ?_
      refine r_callV (ci := 11) (As := [(0, v1)]) (st := [(0, v7), (0, v5), (21, 92)]) (by decide) ok_X13_495 rfl rfl (Nat.le_of_ble_eq_true rfl) dX13_strongest_105 h (fun r9 s10 hv h => ?_)
      refine r_isub dX13_strongest_108 ?_
      refine r_iload dX13_strongest_109 rfl ?_
      refine r_iload dX13_strongest_111 rfl ?_
      refine r_callV (ci := 11) (As := [(0, v5), (0, (w32 (v7 - r9))), (0, v6), (0, v7)]) (st := []) (by decide) ok_X13_559 rfl rfl (Nat.le_of_ble_eq_true rfl) dX13_strongest_113 h (fun r11 s12 hv h => ?_)
      refine r_istore (ls2 := [(21, 92), (0, v1), (0, v2), (0, v3), (0, v4), (0, v5), (0, r11), (0, v7)]) dX13_strongest_116 (by decide) rfl ?_
      refine r_iinc (ls2 := [(21, 92), (0, v1), (0, v2), (0, v3), (0, v4), (0, v5), (0, r11), (0, (w32 (v7 + 1)))]) dX13_strongest_118 rfl (by decide) rfl ?_
      refine r_goto (tgt := 66) dX13_strongest_121 (by decide) ?_
      exact h
set_option maxRecDepth 20000 in
theorem S_X13_strongest {g : GT} {e : Nat} {Q : Int → Sg → Prop} {s : Sg} {v1 : Int} {v2 : Int} (h : inR v1 → inR v2 → (Mw g e M_X13_isChild [(21, 92), (0, v1)] s (fun r1 s2 => ((r1 = 0 → Q (-1) s2) ∧ (¬ r1 = 0 → (Mw g e M_X13_isDone [(21, 92), (0, 0), (0, v1)] s2 (fun r3 s4 => ((¬ r3 = 0 → Q (-1) s4) ∧ (r3 = 0 → (Mw g e M_X13_is [(0, v2), (0, 0), (0, 1)] s4 (fun r5 s6 => ((¬ r5 = 0 → P_X13_strongest_36 g e Q s6 v1 v2 (-1) (-1) 0) ∧ (r5 = 0 → Q (-1) s6))))))))))))) : Mw g (e + 1) M_X13_strongest [(21, 92), (0, v1), (0, v2)] s Q := by
  refine Mw.of (ls := [(21, 92), (0, v1), (0, v2), (9, 0), (9, 0), (9, 0), (9, 0), (9, 0)]) pn_X13_strongest (Nat.le_of_ble_eq_true rfl) rfl (fun hv => ?_)
  have h := h (hv _ (List.Mem.tail _ (List.Mem.head _))) (hv _ (List.Mem.tail _ (List.Mem.tail _ (List.Mem.head _))))
  refine r_aload_n dX13_strongest_0 rfl rfl ?_
  refine r_iload_n dX13_strongest_1 rfl ?_
  refine r_callV (ci := 11) (As := [(0, v1)]) (st := []) (by decide) ok_X13_591 rfl rfl (Nat.le_of_ble_eq_true rfl) dX13_strongest_2 h (fun r1 s2 hv h => ?_)
  refine r_if_eq (tgt := 26) dX13_strongest_5 (by decide) (fun hc => ?_) (fun hc => ?_)
  · have h := h.1 hc
    refine r_iconst dX13_strongest_26 (by decide) ?_
    exact r_iret dX13_strongest_27 rfl h
  · have h := h.2 hc
    refine r_aload_n dX13_strongest_8 rfl rfl ?_
    refine r_iconst dX13_strongest_9 (by decide) ?_
    refine r_iload_n dX13_strongest_10 rfl ?_
    refine r_callV (ci := 11) (As := [(0, 0), (0, v1)]) (st := []) (by decide) ok_X13_504 rfl rfl (Nat.le_of_ble_eq_true rfl) dX13_strongest_11 h (fun r3 s4 hv h => ?_)
    refine r_if_ne (tgt := 26) dX13_strongest_14 (by decide) (fun hc => ?_) (fun hc => ?_)
    · have h := h.1 hc
      refine r_iconst dX13_strongest_26 (by decide) ?_
      exact r_iret dX13_strongest_27 rfl h
    · have h := h.2 hc
      refine r_iload_n dX13_strongest_17 rfl ?_
      refine r_iconst dX13_strongest_18 (by decide) ?_
      refine r_iconst dX13_strongest_19 (by decide) ?_
      refine r_callS (As := [(0, v2), (0, 0), (0, 1)]) (st := []) ok_X13_347 rfl rfl (Nat.le_of_ble_eq_true rfl) dX13_strongest_20 h (fun r5 s6 hv h => ?_)
      refine r_if_ne (tgt := 28) dX13_strongest_23 (by decide) (fun hc => ?_) (fun hc => ?_)
      · have h := h.1 hc
        refine r_iconst dX13_strongest_28 (by decide) ?_
        refine r_istore_n (ls2 := [(21, 92), (0, v1), (0, v2), (0, (-1)), (9, 0), (9, 0), (9, 0), (9, 0)]) dX13_strongest_29 (by decide) rfl ?_
        refine r_iconst dX13_strongest_30 (by decide) ?_
        refine r_istore (ls2 := [(21, 92), (0, v1), (0, v2), (0, (-1)), (0, (-1)), (9, 0), (9, 0), (9, 0)]) dX13_strongest_31 (by decide) rfl ?_
        refine r_iconst dX13_strongest_33 (by decide) ?_
        refine r_istore (ls2 := [(21, 92), (0, v1), (0, v2), (0, (-1)), (0, (-1)), (0, 0), (9, 0), (9, 0)]) dX13_strongest_34 (by decide) rfl ?_
        exact h
      · have h := h.2 hc
        refine r_iconst dX13_strongest_26 (by decide) ?_
        exact r_iret dX13_strongest_27 rfl h
abbrev P_X13_isRow_10 (g : GT) (e : Nat) (Q : Int → Sg → Prop) (s : Sg) (v2 : Int) (v3 : Int) (v4 : Int) (v5 : Int) : Prop := Wp g (e + 1) M_X13_isRow Q 10 [(21, 92), (9, 0), (0, v2), (0, v3), (0, v4), (0, v5)] [] s
set_option maxRecDepth 20000 in
theorem S_X13_isRow_10 {g : GT} {e : Nat} {Q : Int → Sg → Prop} {s : Sg} {v2 : Int} {v3 : Int} {v4 : Int} {v5 : Int} (h : ((v5 < 0 → ((¬ v4 = (w32 ((bShl 1 v2) - 1)) → Q 0 s) ∧ (v4 = (w32 ((bShl 1 v2) - 1)) → Q 1 s))) ∧ (¬ v5 < 0 → ((¬ v2 = 0) ∧ ((0 ≤ v5 ∧ v5 < 6) ∧ ∀ s1, s1 = ups s 134 v5 (Int.tmod v3 v2) → ((0 ≤ v5 ∧ v5 < 6) ∧ ((¬ v2 = 0) ∧ P_X13_isRow_10 g e Q s1 v2 (w32 (Int.tdiv v3 v2)) (bOr v4 (bShl 1 (s1 134 v5))) (w32 (v5 + (-1)))))))))) : P_X13_isRow_10 g e Q s v2 v3 v4 v5 := by
  refine r_iload dX13_isRow_10 rfl ?_
  refine r_if_lt (tgt := 49) dX13_isRow_12 (by decide) (fun hc => ?_) (fun hc => ?_)
  · have h := h.1 hc
    refine r_iload dX13_isRow_49 rfl ?_
    refine r_iconst dX13_isRow_51 (by decide) ?_
    refine r_iload_n dX13_isRow_52 rfl ?_
    refine r_ishl dX13_isRow_53 ?_
    refine r_iconst dX13_isRow_54 (by decide) ?_
    refine r_isub dX13_isRow_55 ?_
    refine r_icmp_ne (tgt := 63) dX13_isRow_56 (by decide) (fun hc => ?_) (fun hc => ?_)
    · have h := h.1 hc
      refine r_iconst dX13_isRow_63 (by decide) ?_
      exact r_zret dX13_isRow_64 rfl (by decide) h
    · have h := h.2 hc
      refine r_iconst dX13_isRow_59 (by decide) ?_
      refine r_goto (tgt := 64) dX13_isRow_60 (by decide) ?_
      exact r_zret dX13_isRow_64 rfl (by decide) h
  · have h := h.2 hc
    refine r_aload_n dX13_isRow_15 rfl rfl ?_
    refine gf_X13_213 rfl dX13_isRow_16 ?_
    refine r_iload dX13_isRow_19 rfl ?_
    refine r_iload_n dX13_isRow_21 rfl ?_
    refine r_iload_n dX13_isRow_22 rfl ?_
    obtain ⟨hz, h⟩ := h
    refine r_irem dX13_isRow_23 hz ?_
    obtain ⟨hb, h⟩ := h
    refine r_iast (n := 6) rfl (by decide) dX13_isRow_24 hb ?_
    have h := h _ rfl
    generalize hs_s1 : ups s 134 v5 (Int.tmod v3 v2) = s1 at h ⊢
    refine r_iload dX13_isRow_25 rfl ?_
    refine r_iconst dX13_isRow_27 (by decide) ?_
    refine r_aload_n dX13_isRow_28 rfl rfl ?_
    refine gf_X13_213 rfl dX13_isRow_29 ?_
    refine r_iload dX13_isRow_32 rfl ?_
    obtain ⟨hb, h⟩ := h
    refine r_iald (n := 6) rfl (by decide) dX13_isRow_34 hb ?_
    refine r_ishl dX13_isRow_35 ?_
    refine r_ior dX13_isRow_36 ?_
    refine r_istore (ls2 := [(21, 92), (9, 0), (0, v2), (0, v3), (0, (bOr v4 (bShl 1 (s1 134 v5)))), (0, v5)]) dX13_isRow_37 (by decide) rfl ?_
    refine r_iload_n dX13_isRow_39 rfl ?_
    refine r_iload_n dX13_isRow_40 rfl ?_
    obtain ⟨hz, h⟩ := h
    refine r_idiv dX13_isRow_41 hz ?_
    refine r_istore_n (ls2 := [(21, 92), (9, 0), (0, v2), (0, (w32 (Int.tdiv v3 v2))), (0, (bOr v4 (bShl 1 (s1 134 v5)))), (0, v5)]) dX13_isRow_42 (by decide) rfl ?_
    refine r_iinc (ls2 := [(21, 92), (9, 0), (0, v2), (0, (w32 (Int.tdiv v3 v2))), (0, (bOr v4 (bShl 1 (s1 134 v5)))), (0, (w32 (v5 + (-1))))]) dX13_isRow_43 rfl (by decide) rfl ?_
    refine r_goto (tgt := 10) dX13_isRow_46 (by decide) ?_
    exact h
set_option maxRecDepth 20000 in
theorem S_X13_isRow {g : GT} {e : Nat} {Q : Int → Sg → Prop} {s : Sg} {v1 : Int} {v2 : Int} (h : inR v1 → inR v2 → P_X13_isRow_10 g e Q s v2 v1 0 (w32 (v2 - 1))) : Mw g (e + 1) M_X13_isRow [(21, 92), (0, v1), (0, v2)] s Q := by
  refine Mw.of (ls := [(21, 92), (0, v1), (0, v2), (9, 0), (9, 0), (9, 0)]) pn_X13_isRow (Nat.le_of_ble_eq_true rfl) rfl (fun hv => ?_)
  have h := h (hv _ (List.Mem.tail _ (List.Mem.head _))) (hv _ (List.Mem.tail _ (List.Mem.tail _ (List.Mem.head _))))
  refine r_iload_n dX13_isRow_0 rfl ?_
  refine r_istore_n (ls2 := [(21, 92), (0, v1), (0, v2), (0, v1), (9, 0), (9, 0)]) dX13_isRow_1 (by decide) rfl ?_
  refine r_iconst dX13_isRow_2 (by decide) ?_
  refine r_istore (ls2 := [(21, 92), (0, v1), (0, v2), (0, v1), (0, 0), (9, 0)]) dX13_isRow_3 (by decide) rfl ?_
  refine r_iload_n dX13_isRow_5 rfl ?_
  refine r_iconst dX13_isRow_6 (by decide) ?_
  refine r_isub dX13_isRow_7 ?_
  refine r_istore (ls2 := [(21, 92), (0, v1), (0, v2), (0, v1), (0, 0), (0, (w32 (v2 - 1)))]) dX13_isRow_8 (by decide) rfl ?_
  exact r_fgt [true, false, true, true, true, true] rfl h
abbrev P_X13_order_41 (g : GT) (e : Nat) (Q : Int → Sg → Prop) (s : Sg) (v1 : Int) (v2 : Int) (v3 : Int) (v4 : Int) (v5 : Int) : Prop := Wp g (e + 1) M_X13_order Q 41 [(21, 92), (0, v1), (0, v2), (0, v3), (0, v4), (0, v5), (9, 0), (9, 0), (9, 0)] [] s
abbrev P_X13_order_97 (g : GT) (e : Nat) (Q : Int → Sg → Prop) (s : Sg) (v1 : Int) (v2 : Int) (v4 : Int) (v5 : Int) (v6 : Int) : Prop := Wp g (e + 1) M_X13_order Q 97 [(21, 92), (0, v1), (0, v2), (9, 0), (0, v4), (0, v5), (0, v6), (9, 0), (9, 0)] [] s
abbrev P_X13_order_129 (g : GT) (e : Nat) (Q : Int → Sg → Prop) (s : Sg) (v1 : Int) (v2 : Int) (v4 : Int) (v5 : Int) (v6 : Int) (v7 : Int) (v8 : Int) : Prop := Wp g (e + 1) M_X13_order Q 129 [(21, 92), (0, v1), (0, v2), (9, 0), (0, v4), (0, v5), (0, v6), (0, v7), (0, v8)] [] s
abbrev P_X13_order_188 (g : GT) (e : Nat) (Q : Int → Sg → Prop) (s : Sg) (v1 : Int) (v2 : Int) (v4 : Int) (v5 : Int) (v6 : Int) (v8 : Int) : Prop := Wp g (e + 1) M_X13_order Q 188 [(21, 92), (0, v1), (0, v2), (9, 0), (0, v4), (0, v5), (0, v6), (9, 0), (0, v8)] [] s
set_option maxRecDepth 20000 in
theorem S_X13_order_41 {g : GT} {e : Nat} {Q : Int → Sg → Prop} {s : Sg} {v1 : Int} {v2 : Int} {v3 : Int} {v4 : Int} {v5 : Int} (h : ((0 ≤ (s 92 13) ∧ (s 92 13) < 2) ∧ (((s 97 (s 92 13)) ≤ v5 → P_X13_order_97 g e Q s v1 v2 v4 (-1) 0) ∧ (¬ (s 97 (s 92 13)) ≤ v5 → (Mw g e M_X13_isOnShelf [(21, 92), (0, 0), (0, v5)] s (fun r1 s2 => ((¬ r1 = 0 → ((0 ≤ v3 ∧ v3 < 6) ∧ ∀ s3, s3 = ups s2 133 v3 v5 → P_X13_order_41 g e Q s3 v1 v2 (w32 (v3 + 1)) (w32 (v4 * v2)) (w32 (v5 + 1)))) ∧ (r1 = 0 → P_X13_order_41 g e Q s2 v1 v2 v3 v4 (w32 (v5 + 1)))))))))) : P_X13_order_41 g e Q s v1 v2 v3 v4 v5 := by
  refine r_iload dX13_order_41 rfl ?_
  refine r_aload_n dX13_order_43 rfl rfl ?_
  refine gf_X13_63 rfl dX13_order_44 ?_
  refine r_aload_n dX13_order_47 rfl rfl ?_
  refine gf_X13_51 rfl dX13_order_48 ?_
  obtain ⟨hb, h⟩ := h
  refine r_iald (n := 2) rfl (by decide) dX13_order_51 hb ?_
  refine r_icmp_ge (tgt := 91) dX13_order_52 (by decide) (fun hc => ?_) (fun hc => ?_)
  · have h := h.1 hc
    refine r_iconst dX13_order_91 (by decide) ?_
    refine r_istore (ls2 := [(21, 92), (0, v1), (0, v2), (0, v3), (0, v4), (0, (-1)), (9, 0), (9, 0), (9, 0)]) dX13_order_92 (by decide) rfl ?_
    refine r_iconst dX13_order_94 (by decide) ?_
    refine r_istore (ls2 := [(21, 92), (0, v1), (0, v2), (0, v3), (0, v4), (0, (-1)), (0, 0), (9, 0), (9, 0)]) dX13_order_95 (by decide) rfl ?_
    exact r_fgt [true, true, true, false, true, true, true, false, false] rfl h
  · have h := h.2 hc
    refine r_aload_n dX13_order_55 rfl rfl ?_
    refine r_iconst dX13_order_56 (by decide) ?_
    refine r_iload dX13_order_57 rfl ?_
    refine r_callV (ci := 11) (As := [(0, 0), (0, v5)]) (st := []) (by decide) ok_X13_571 rfl rfl (Nat.le_of_ble_eq_true rfl) dX13_order_59 h (fun r1 s2 hv h => ?_)
    refine r_if_ne (tgt := 68) dX13_order_62 (by decide) (fun hc => ?_) (fun hc => ?_)
    · have h := h.1 hc
      refine r_aload_n dX13_order_68 rfl rfl ?_
      refine gf_X13_210 rfl dX13_order_69 ?_
      refine r_iload_n dX13_order_72 rfl ?_
      refine r_iload dX13_order_73 rfl ?_
      obtain ⟨hb, h⟩ := h
      refine r_iast (n := 6) rfl (by decide) dX13_order_75 hb ?_
      have h := h _ rfl
      generalize hs_s3 : ups s2 133 v3 v5 = s3 at h ⊢
      refine r_iinc (ls2 := [(21, 92), (0, v1), (0, v2), (0, (w32 (v3 + 1))), (0, v4), (0, v5), (9, 0), (9, 0), (9, 0)]) dX13_order_76 rfl (by decide) rfl ?_
      refine r_iload dX13_order_79 rfl ?_
      refine r_iload_n dX13_order_81 rfl ?_
      refine r_imul dX13_order_82 ?_
      refine r_istore (ls2 := [(21, 92), (0, v1), (0, v2), (0, (w32 (v3 + 1))), (0, (w32 (v4 * v2))), (0, v5), (9, 0), (9, 0), (9, 0)]) dX13_order_83 (by decide) rfl ?_
      refine r_iinc (ls2 := [(21, 92), (0, v1), (0, v2), (0, (w32 (v3 + 1))), (0, (w32 (v4 * v2))), (0, (w32 (v5 + 1))), (9, 0), (9, 0), (9, 0)]) dX13_order_85 rfl (by decide) rfl ?_
      refine r_goto (tgt := 41) dX13_order_88 (by decide) ?_
      exact h
    · have h := h.2 hc
      refine r_goto (tgt := 85) dX13_order_65 (by decide) ?_
      refine r_iinc (ls2 := [(21, 92), (0, v1), (0, v2), (0, v3), (0, v4), (0, (w32 (v5 + 1))), (9, 0), (9, 0), (9, 0)]) dX13_order_85 rfl (by decide) rfl ?_
      refine r_goto (tgt := 41) dX13_order_88 (by decide) ?_
      exact h
set_option maxRecDepth 20000 in
theorem S_X13_order_97 {g : GT} {e : Nat} {Q : Int → Sg → Prop} {s : Sg} {v1 : Int} {v2 : Int} {v4 : Int} {v5 : Int} {v6 : Int} (h : ((v4 ≤ v6 → ((¬ v1 = (-1) → ((0 ≤ v1 ∧ v1 < 6) ∧ Q (s 135 v1) s)) ∧ (v1 = (-1) → Q v5 s))) ∧ (¬ v4 ≤ v6 → (Mw g e M_X13_isRow [(21, 92), (0, v6), (0, v2)] s (fun r1 s2 => ((¬ r1 = 0 → (Mw g e M_X13_copies [(21, 92), (0, 1), (0, 0)] s2 (fun _ s4 => P_X13_order_129 g e Q s4 v1 v2 v4 v5 v6 0 0))) ∧ (r1 = 0 → P_X13_order_97 g e Q s2 v1 v2 v4 v5 (w32 (v6 + 1))))))))) : P_X13_order_97 g e Q s v1 v2 v4 v5 v6 := by
  refine r_iload dX13_order_97 rfl ?_
  refine r_iload dX13_order_99 rfl ?_
  refine r_icmp_ge (tgt := 225) dX13_order_101 (by decide) (fun hc => ?_) (fun hc => ?_)
  · have h := h.1 hc
    refine r_iload_n dX13_order_225 rfl ?_
    refine r_iconst dX13_order_226 (by decide) ?_
    refine r_icmp_ne (tgt := 235) dX13_order_227 (by decide) (fun hc => ?_) (fun hc => ?_)
    · have h := h.1 hc
      refine r_aload_n dX13_order_235 rfl rfl ?_
      refine gf_X13_216 rfl dX13_order_236 ?_
      refine r_iload_n dX13_order_239 rfl ?_
      obtain ⟨hb, h⟩ := h
      refine r_iald (n := 6) rfl (by decide) dX13_order_240 hb ?_
      exact r_iret dX13_order_241 rfl h
    · have h := h.2 hc
      refine r_iload dX13_order_230 rfl ?_
      refine r_goto (tgt := 241) dX13_order_232 (by decide) ?_
      exact r_iret dX13_order_241 rfl h
  · have h := h.2 hc
    refine r_aload_n dX13_order_104 rfl rfl ?_
    refine r_iload dX13_order_105 rfl ?_
    refine r_iload_n dX13_order_107 rfl ?_
    refine r_callV (ci := 11) (As := [(0, v6), (0, v2)]) (st := []) (by decide) ok_X13_607 rfl rfl (Nat.le_of_ble_eq_true rfl) dX13_order_108 h (fun r1 s2 hv h => ?_)
    refine r_if_ne (tgt := 117) dX13_order_111 (by decide) (fun hc => ?_) (fun hc => ?_)
    · have h := h.1 hc
      refine r_aload_n dX13_order_117 rfl rfl ?_
      refine r_iconst dX13_order_118 (by decide) ?_
      refine r_iconst dX13_order_119 (by decide) ?_
      refine r_callV (ci := 11) (As := [(0, 1), (0, 0)]) (st := []) (by decide) ok_X13_461 rfl rfl (Nat.le_of_ble_eq_true rfl) dX13_order_120 h (fun r3 s4 hv h => ?_)
      refine r_iconst dX13_order_123 (by decide) ?_
      refine r_istore (ls2 := [(21, 92), (0, v1), (0, v2), (9, 0), (0, v4), (0, v5), (0, v6), (0, 0), (9, 0)]) dX13_order_124 (by decide) rfl ?_
      refine r_iconst dX13_order_126 (by decide) ?_
      refine r_istore (ls2 := [(21, 92), (0, v1), (0, v2), (9, 0), (0, v4), (0, v5), (0, v6), (0, 0), (0, 0)]) dX13_order_127 (by decide) rfl ?_
      exact h
    · have h := h.2 hc
      refine r_goto (tgt := 219) dX13_order_114 (by decide) ?_
      refine r_iinc (ls2 := [(21, 92), (0, v1), (0, v2), (9, 0), (0, v4), (0, v5), (0, (w32 (v6 + 1))), (9, 0), (9, 0)]) dX13_order_219 rfl (by decide) rfl ?_
      refine r_goto (tgt := 97) dX13_order_222 (by decide) ?_
      exact h
set_option maxRecDepth 20000 in
theorem S_X13_order_129 {g : GT} {e : Nat} {Q : Int → Sg → Prop} {s : Sg} {v1 : Int} {v2 : Int} {v4 : Int} {v5 : Int} {v6 : Int} {v7 : Int} {v8 : Int} (h : ((v2 ≤ v8 → ((v5 < v7 → P_X13_order_188 g e Q s v1 v2 v4 v7 v6 0) ∧ (¬ v5 < v7 → P_X13_order_97 g e Q s v1 v2 v4 v5 (w32 (v6 + 1))))) ∧ (¬ v2 ≤ v8 → ((0 ≤ v8 ∧ v8 < 6) ∧ ((0 ≤ (s 134 v8) ∧ (s 134 v8) < 6) ∧ (Mw g e M_X13_isBuilt [(21, 92), (0, 1), (0, (s 133 (s 134 v8)))] s (fun r1 s2 => ((r1 = 0 → P_X13_order_129 g e Q s2 v1 v2 v4 v5 v6 (w32 (v7 + 0)) (w32 (v8 + 1))) ∧ (¬ r1 = 0 → P_X13_order_129 g e Q s2 v1 v2 v4 v5 v6 (w32 (v7 + 1)) (w32 (v8 + 1))))))))))) : P_X13_order_129 g e Q s v1 v2 v4 v5 v6 v7 v8 := by
  refine r_iload dX13_order_129 rfl ?_
  refine r_iload_n dX13_order_131 rfl ?_
  refine r_icmp_ge (tgt := 171) dX13_order_132 (by decide) (fun hc => ?_) (fun hc => ?_)
  · have h := h.1 hc
    refine r_iload dX13_order_171 rfl ?_
    refine r_iload dX13_order_173 rfl ?_
    refine r_icmp_gt (tgt := 181) dX13_order_175 (by decide) (fun hc => ?_) (fun hc => ?_)
    · have h := h.1 hc
      refine r_iload dX13_order_181 rfl ?_
      refine r_istore (ls2 := [(21, 92), (0, v1), (0, v2), (9, 0), (0, v4), (0, v7), (0, v6), (0, v7), (0, v8)]) dX13_order_183 (by decide) rfl ?_
      refine r_iconst dX13_order_185 (by decide) ?_
      refine r_istore (ls2 := [(21, 92), (0, v1), (0, v2), (9, 0), (0, v4), (0, v7), (0, v6), (0, v7), (0, 0)]) dX13_order_186 (by decide) rfl ?_
      exact r_fgt [true, true, true, false, true, true, true, false, true] rfl h
    · have h := h.2 hc
      refine r_goto (tgt := 219) dX13_order_178 (by decide) ?_
      refine r_iinc (ls2 := [(21, 92), (0, v1), (0, v2), (9, 0), (0, v4), (0, v5), (0, (w32 (v6 + 1))), (0, v7), (0, v8)]) dX13_order_219 rfl (by decide) rfl ?_
      refine r_goto (tgt := 97) dX13_order_222 (by decide) ?_
      exact r_fgt [true, true, true, false, true, true, true, false, false] rfl h
  · have h := h.2 hc
    refine r_iload dX13_order_135 rfl ?_
    refine r_aload_n dX13_order_137 rfl rfl ?_
    refine r_iconst dX13_order_138 (by decide) ?_
    refine r_aload_n dX13_order_139 rfl rfl ?_
    refine gf_X13_210 rfl dX13_order_140 ?_
    refine r_aload_n dX13_order_143 rfl rfl ?_
    refine gf_X13_213 rfl dX13_order_144 ?_
    refine r_iload dX13_order_147 rfl ?_
    obtain ⟨hb, h⟩ := h
    refine r_iald (n := 6) rfl (by decide) dX13_order_149 hb ?_
    obtain ⟨hb, h⟩ := h
    refine r_iald (n := 6) rfl (by decide) dX13_order_150 hb ?_
    refine r_callV (ci := 11) (As := [(0, 1), (0, (s 133 (s 134 v8)))]) (st := [(0, v7)]) (by decide) ok_X13_574 rfl rfl (Nat.le_of_ble_eq_true rfl) dX13_order_151 h (fun r1 s2 hv h => ?_)
    refine r_if_eq (tgt := 161) dX13_order_154 (by decide) (fun hc => ?_) (fun hc => ?_)
    · have h := h.1 hc
      refine r_iconst dX13_order_161 (by decide) ?_
      refine r_iadd dX13_order_162 ?_
      refine r_istore (ls2 := [(21, 92), (0, v1), (0, v2), (9, 0), (0, v4), (0, v5), (0, v6), (0, (w32 (v7 + 0))), (0, v8)]) dX13_order_163 (by decide) rfl ?_
      refine r_iinc (ls2 := [(21, 92), (0, v1), (0, v2), (9, 0), (0, v4), (0, v5), (0, v6), (0, (w32 (v7 + 0))), (0, (w32 (v8 + 1)))]) dX13_order_165 rfl (by decide) rfl ?_
      refine r_goto (tgt := 129) dX13_order_168 (by decide) ?_
      exact h
    · have h := h.2 hc
      refine r_iconst dX13_order_157 (by decide) ?_
      refine r_goto (tgt := 162) dX13_order_158 (by decide) ?_
      refine r_iadd dX13_order_162 ?_
      refine r_istore (ls2 := [(21, 92), (0, v1), (0, v2), (9, 0), (0, v4), (0, v5), (0, v6), (0, (w32 (v7 + 1))), (0, v8)]) dX13_order_163 (by decide) rfl ?_
      refine r_iinc (ls2 := [(21, 92), (0, v1), (0, v2), (9, 0), (0, v4), (0, v5), (0, v6), (0, (w32 (v7 + 1))), (0, (w32 (v8 + 1)))]) dX13_order_165 rfl (by decide) rfl ?_
      refine r_goto (tgt := 129) dX13_order_168 (by decide) ?_
      exact h
set_option maxRecDepth 20000 in
theorem S_X13_order_188 {g : GT} {e : Nat} {Q : Int → Sg → Prop} {s : Sg} {v1 : Int} {v2 : Int} {v4 : Int} {v5 : Int} {v6 : Int} {v8 : Int} (h : ((v2 ≤ v8 → P_X13_order_97 g e Q s v1 v2 v4 v5 (w32 (v6 + 1))) ∧ (¬ v2 ≤ v8 → ((0 ≤ v8 ∧ v8 < 6) ∧ ((0 ≤ (s 134 v8) ∧ (s 134 v8) < 6) ∧ ((0 ≤ v8 ∧ v8 < 6) ∧ ∀ s1, s1 = ups s 135 v8 (s 133 (s 134 v8)) → P_X13_order_188 g e Q s1 v1 v2 v4 v5 v6 (w32 (v8 + 1)))))))) : P_X13_order_188 g e Q s v1 v2 v4 v5 v6 v8 := by
  refine r_iload dX13_order_188 rfl ?_
  refine r_iload_n dX13_order_190 rfl ?_
  refine r_icmp_ge (tgt := 219) dX13_order_191 (by decide) (fun hc => ?_) (fun hc => ?_)
  · have h := h.1 hc
    refine r_iinc (ls2 := [(21, 92), (0, v1), (0, v2), (9, 0), (0, v4), (0, v5), (0, (w32 (v6 + 1))), (9, 0), (0, v8)]) dX13_order_219 rfl (by decide) rfl ?_
    refine r_goto (tgt := 97) dX13_order_222 (by decide) ?_
    exact r_fgt [true, true, true, false, true, true, true, false, false] rfl h
  · have h := h.2 hc
    refine r_aload_n dX13_order_194 rfl rfl ?_
    refine gf_X13_216 rfl dX13_order_195 ?_
    refine r_iload dX13_order_198 rfl ?_
    refine r_aload_n dX13_order_200 rfl rfl ?_
    refine gf_X13_210 rfl dX13_order_201 ?_
    refine r_aload_n dX13_order_204 rfl rfl ?_
    refine gf_X13_213 rfl dX13_order_205 ?_
    refine r_iload dX13_order_208 rfl ?_
    obtain ⟨hb, h⟩ := h
    refine r_iald (n := 6) rfl (by decide) dX13_order_210 hb ?_
    obtain ⟨hb, h⟩ := h
    refine r_iald (n := 6) rfl (by decide) dX13_order_211 hb ?_
    obtain ⟨hb, h⟩ := h
    refine r_iast (n := 6) rfl (by decide) dX13_order_212 hb ?_
    have h := h _ rfl
    generalize hs_s1 : ups s 135 v8 (s 133 (s 134 v8)) = s1 at h ⊢
    refine r_iinc (ls2 := [(21, 92), (0, v1), (0, v2), (9, 0), (0, v4), (0, v5), (0, v6), (9, 0), (0, (w32 (v8 + 1)))]) dX13_order_213 rfl (by decide) rfl ?_
    refine r_goto (tgt := 188) dX13_order_216 (by decide) ?_
    exact h
set_option maxRecDepth 20000 in
theorem S_X13_order {g : GT} {e : Nat} {Q : Int → Sg → Prop} {s : Sg} {v1 : Int} (h : inR v1 → (Mw g e M_X13_onShelf [(21, 92), (0, 0)] s (fun r1 s2 => (Mw g e M_X13_bits [(0, r1)] s2 (fun r3 s4 => ((6 < r3 → Q (-1) s4) ∧ (¬ 6 < r3 → ((v1 = (-1) → P_X13_order_41 g e Q s4 v1 r3 0 1 0) ∧ (¬ v1 = (-1) → (Mw g e M_X13_is [(0, v1), (0, 0), (0, (w32 (r3 - 1)))] s4 (fun r5 s6 => ((¬ r5 = 0 → P_X13_order_41 g e Q s6 v1 r3 0 1 0) ∧ (r5 = 0 → Q (-1) s6))))))))))))) : Mw g (e + 1) M_X13_order [(21, 92), (0, v1)] s Q := by
  refine Mw.of (ls := [(21, 92), (0, v1), (9, 0), (9, 0), (9, 0), (9, 0), (9, 0), (9, 0), (9, 0)]) pn_X13_order (Nat.le_of_ble_eq_true rfl) rfl (fun hv => ?_)
  have h := h (hv _ (List.Mem.tail _ (List.Mem.head _)))
  refine r_aload_n dX13_order_0 rfl rfl ?_
  refine r_iconst dX13_order_1 (by decide) ?_
  refine r_callV (ci := 11) (As := [(0, 0)]) (st := []) (by decide) ok_X13_577 rfl rfl (Nat.le_of_ble_eq_true rfl) dX13_order_2 h (fun r1 s2 hv h => ?_)
  refine r_callS (As := [(0, r1)]) (st := []) ok_X13_568 rfl rfl (Nat.le_of_ble_eq_true rfl) dX13_order_5 h (fun r3 s4 hv h => ?_)
  refine r_istore_n (ls2 := [(21, 92), (0, v1), (0, r3), (9, 0), (9, 0), (9, 0), (9, 0), (9, 0), (9, 0)]) dX13_order_8 (by decide) rfl ?_
  refine r_iload_n dX13_order_9 rfl ?_
  refine r_bipush dX13_order_10 (by decide) rfl ?_
  refine r_icmp_gt (tgt := 31) dX13_order_12 (by decide) (fun hc => ?_) (fun hc => ?_)
  · have h := h.1 hc
    refine r_iconst dX13_order_31 (by decide) ?_
    exact r_iret dX13_order_32 rfl h
  · have h := h.2 hc
    refine r_iload_n dX13_order_15 rfl ?_
    refine r_iconst dX13_order_16 (by decide) ?_
    refine r_icmp_eq (tgt := 33) dX13_order_17 (by decide) (fun hc => ?_) (fun hc => ?_)
    · have h := h.1 hc
      refine r_iconst dX13_order_33 (by decide) ?_
      refine r_istore_n (ls2 := [(21, 92), (0, v1), (0, r3), (0, 0), (9, 0), (9, 0), (9, 0), (9, 0), (9, 0)]) dX13_order_34 (by decide) rfl ?_
      refine r_iconst dX13_order_35 (by decide) ?_
      refine r_istore (ls2 := [(21, 92), (0, v1), (0, r3), (0, 0), (0, 1), (9, 0), (9, 0), (9, 0), (9, 0)]) dX13_order_36 (by decide) rfl ?_
      refine r_iconst dX13_order_38 (by decide) ?_
      refine r_istore (ls2 := [(21, 92), (0, v1), (0, r3), (0, 0), (0, 1), (0, 0), (9, 0), (9, 0), (9, 0)]) dX13_order_39 (by decide) rfl ?_
      exact h
    · have h := h.2 hc
      refine r_iload_n dX13_order_20 rfl ?_
      refine r_iconst dX13_order_21 (by decide) ?_
      refine r_iload_n dX13_order_22 rfl ?_
      refine r_iconst dX13_order_23 (by decide) ?_
      refine r_isub dX13_order_24 ?_
      refine r_callS (As := [(0, v1), (0, 0), (0, (w32 (r3 - 1)))]) (st := []) ok_X13_347 rfl rfl (Nat.le_of_ble_eq_true rfl) dX13_order_25 h (fun r5 s6 hv h => ?_)
      refine r_if_ne (tgt := 33) dX13_order_28 (by decide) (fun hc => ?_) (fun hc => ?_)
      · have h := h.1 hc
        refine r_iconst dX13_order_33 (by decide) ?_
        refine r_istore_n (ls2 := [(21, 92), (0, v1), (0, r3), (0, 0), (9, 0), (9, 0), (9, 0), (9, 0), (9, 0)]) dX13_order_34 (by decide) rfl ?_
        refine r_iconst dX13_order_35 (by decide) ?_
        refine r_istore (ls2 := [(21, 92), (0, v1), (0, r3), (0, 0), (0, 1), (9, 0), (9, 0), (9, 0), (9, 0)]) dX13_order_36 (by decide) rfl ?_
        refine r_iconst dX13_order_38 (by decide) ?_
        refine r_istore (ls2 := [(21, 92), (0, v1), (0, r3), (0, 0), (0, 1), (0, 0), (9, 0), (9, 0), (9, 0)]) dX13_order_39 (by decide) rfl ?_
        exact h
      · have h := h.2 hc
        refine r_iconst dX13_order_31 (by decide) ?_
        exact r_iret dX13_order_32 rfl h
abbrev P_X13_reconcile_30 (g : GT) (e : Nat) (Q : Int → Sg → Prop) (s : Sg) (v1 : Int) (v2 : Int) (v3 : Int) : Prop := Wp g (e + 1) M_X13_reconcile Q 30 [(21, 92), (0, v1), (0, v2), (0, v3), (9, 0), (9, 0), (9, 0), (9, 0)] [] s
abbrev P_X13_reconcile_65 (g : GT) (e : Nat) (Q : Int → Sg → Prop) (s : Sg) (v1 : Int) (v2 : Int) (v3 : Int) (v4 : Int) (v5 : Int) (v6 : Int) : Prop := Wp g (e + 1) M_X13_reconcile Q 65 [(21, 92), (0, v1), (0, v2), (0, v3), (0, v4), (0, v5), (0, v6), (9, 0)] [] s
abbrev P_X13_reconcile_118 (g : GT) (e : Nat) (Q : Int → Sg → Prop) (s : Sg) (v1 : Int) (v2 : Int) (v3 : Int) (v4 : Int) (v5 : Int) (v6 : Int) (v7 : Int) : Prop := Wp g (e + 1) M_X13_reconcile Q 118 [(21, 92), (0, v1), (0, v2), (0, v3), (0, v4), (0, v5), (0, v6), (0, v7)] [] s
set_option maxRecDepth 20000 in
theorem S_X13_reconcile_30 {g : GT} {e : Nat} {Q : Int → Sg → Prop} {s : Sg} {v1 : Int} {v2 : Int} {v3 : Int} (h : ((v1 ≤ v3 → (Mw g e M_X13_builtIn [(21, 92), (0, 1)] s (fun r1 s2 => (Mw g e M_X13_bits [(0, r1)] s2 (fun r3 s4 => P_X13_reconcile_65 g e Q s4 v1 v2 r3 r3 (-1) 0))))) ∧ (¬ v1 ≤ v3 → (Mw g e M_X13_passes [(21, 92), (0, 1), (0, 0)] s (fun _ s6 => P_X13_reconcile_30 g e Q s6 v1 v2 (w32 (v3 + 1))))))) : P_X13_reconcile_30 g e Q s v1 v2 v3 := by
  refine r_iload_n dX13_reconcile_30 rfl ?_
  refine r_iload_n dX13_reconcile_31 rfl ?_
  refine r_icmp_ge (tgt := 47) dX13_reconcile_32 (by decide) (fun hc => ?_) (fun hc => ?_)
  · have h := h.1 hc
    refine r_aload_n dX13_reconcile_47 rfl rfl ?_
    refine r_iconst dX13_reconcile_48 (by decide) ?_
    refine r_callV (ci := 11) (As := [(0, 1)]) (st := []) (by decide) ok_X13_580 rfl rfl (Nat.le_of_ble_eq_true rfl) dX13_reconcile_49 h (fun r1 s2 hv h => ?_)
    refine r_callS (As := [(0, r1)]) (st := []) ok_X13_568 rfl rfl (Nat.le_of_ble_eq_true rfl) dX13_reconcile_52 h (fun r3 s4 hv h => ?_)
    refine r_istore_n (ls2 := [(21, 92), (0, v1), (0, v2), (0, r3), (9, 0), (9, 0), (9, 0), (9, 0)]) dX13_reconcile_55 (by decide) rfl ?_
    refine r_iload_n dX13_reconcile_56 rfl ?_
    refine r_istore (ls2 := [(21, 92), (0, v1), (0, v2), (0, r3), (0, r3), (9, 0), (9, 0), (9, 0)]) dX13_reconcile_57 (by decide) rfl ?_
    refine r_iconst dX13_reconcile_59 (by decide) ?_
    refine r_istore (ls2 := [(21, 92), (0, v1), (0, v2), (0, r3), (0, r3), (0, (-1)), (9, 0), (9, 0)]) dX13_reconcile_60 (by decide) rfl ?_
    refine r_iconst dX13_reconcile_62 (by decide) ?_
    refine r_istore (ls2 := [(21, 92), (0, v1), (0, v2), (0, r3), (0, r3), (0, (-1)), (0, 0), (9, 0)]) dX13_reconcile_63 (by decide) rfl ?_
    exact h
  · have h := h.2 hc
    refine r_aload_n dX13_reconcile_35 rfl rfl ?_
    refine r_iconst dX13_reconcile_36 (by decide) ?_
    refine r_iconst dX13_reconcile_37 (by decide) ?_
    refine r_callV (ci := 11) (As := [(0, 1), (0, 0)]) (st := []) (by decide) ok_X13_600 rfl rfl (Nat.le_of_ble_eq_true rfl) dX13_reconcile_38 h (fun r5 s6 hv h => ?_)
    refine r_iinc (ls2 := [(21, 92), (0, v1), (0, v2), (0, (w32 (v3 + 1))), (9, 0), (9, 0), (9, 0), (9, 0)]) dX13_reconcile_41 rfl (by decide) rfl ?_
    refine r_goto (tgt := 30) dX13_reconcile_44 (by decide) ?_
    exact h
set_option maxRecDepth 20000 in
theorem S_X13_reconcile_65 {g : GT} {e : Nat} {Q : Int → Sg → Prop} {s : Sg} {v1 : Int} {v2 : Int} {v3 : Int} {v4 : Int} {v5 : Int} {v6 : Int} (h : ((0 ≤ (s 92 13) ∧ (s 92 13) < 2) ∧ (((s 101 (s 92 13)) ≤ v6 → ((¬ v5 = (-1) → ((¬ v2 = 0 → Q (w32 (v4 - v3)) s) ∧ (v2 = 0 → Q v5 s))) ∧ (v5 = (-1) → Q (-1) s))) ∧ (¬ (s 101 (s 92 13)) ≤ v6 → (Mw g e M_X13_has2 [(0, (s 123 0)), (0, v6)] s (fun r1 s2 => ((r1 = 0 → (Mw g e M_X13_copies [(21, 92), (0, 1), (0, 0)] s2 (fun _ s4 => (∀ s5, s5 = ups s4 123 1 (bOr (s4 123 1) (bShl 1 v6)) → P_X13_reconcile_118 g e Q s5 v1 v2 v3 v4 v5 v6 0)))) ∧ (¬ r1 = 0 → P_X13_reconcile_65 g e Q s2 v1 v2 v3 v4 v5 (w32 (v6 + 1)))))))))) : P_X13_reconcile_65 g e Q s v1 v2 v3 v4 v5 v6 := by
  refine r_iload dX13_reconcile_65 rfl ?_
  refine r_aload_n dX13_reconcile_67 rfl rfl ?_
  refine gf_X13_75 rfl dX13_reconcile_68 ?_
  refine r_aload_n dX13_reconcile_71 rfl rfl ?_
  refine gf_X13_51 rfl dX13_reconcile_72 ?_
  obtain ⟨hb, h⟩ := h
  refine r_iald (n := 2) rfl (by decide) dX13_reconcile_75 hb ?_
  refine r_icmp_ge (tgt := 172) dX13_reconcile_76 (by decide) (fun hc => ?_) (fun hc => ?_)
  · have h := h.1 hc
    refine r_iload dX13_reconcile_172 rfl ?_
    refine r_iconst dX13_reconcile_174 (by decide) ?_
    refine r_icmp_ne (tgt := 182) dX13_reconcile_175 (by decide) (fun hc => ?_) (fun hc => ?_)
    · have h := h.1 hc
      refine r_iload_n dX13_reconcile_182 rfl ?_
      refine r_if_ne (tgt := 191) dX13_reconcile_183 (by decide) (fun hc => ?_) (fun hc => ?_)
      · have h := h.1 hc
        refine r_iload dX13_reconcile_191 rfl ?_
        refine r_iload_n dX13_reconcile_193 rfl ?_
        refine r_isub dX13_reconcile_194 ?_
        exact r_iret dX13_reconcile_195 rfl h
      · have h := h.2 hc
        refine r_iload dX13_reconcile_186 rfl ?_
        refine r_goto (tgt := 195) dX13_reconcile_188 (by decide) ?_
        exact r_iret dX13_reconcile_195 rfl h
    · have h := h.2 hc
      refine r_iconst dX13_reconcile_178 (by decide) ?_
      refine r_goto (tgt := 195) dX13_reconcile_179 (by decide) ?_
      exact r_iret dX13_reconcile_195 rfl h
  · have h := h.2 hc
    refine r_aload_n dX13_reconcile_79 rfl rfl ?_
    refine gf_X13_165 rfl dX13_reconcile_80 ?_
    refine r_iconst dX13_reconcile_83 (by decide) ?_
    refine r_iald (n := 23) rfl (by decide) dX13_reconcile_84 (by decide) ?_
    refine r_iload dX13_reconcile_85 rfl ?_
    refine r_callS (As := [(0, (s 123 0)), (0, v6)]) (st := []) ok_X13_389 rfl rfl (Nat.le_of_ble_eq_true rfl) dX13_reconcile_87 h (fun r1 s2 hv h => ?_)
    refine r_if_eq (tgt := 96) dX13_reconcile_90 (by decide) (fun hc => ?_) (fun hc => ?_)
    · have h := h.1 hc
      refine r_aload_n dX13_reconcile_96 rfl rfl ?_
      refine r_iconst dX13_reconcile_97 (by decide) ?_
      refine r_iconst dX13_reconcile_98 (by decide) ?_
      refine r_callV (ci := 11) (As := [(0, 1), (0, 0)]) (st := []) (by decide) ok_X13_461 rfl rfl (Nat.le_of_ble_eq_true rfl) dX13_reconcile_99 h (fun r3 s4 hv h => ?_)
      refine r_aload_n dX13_reconcile_102 rfl rfl ?_
      refine gf_X13_165 rfl dX13_reconcile_103 ?_
      refine r_iconst dX13_reconcile_106 (by decide) ?_
      refine r_dup2 dX13_reconcile_107 (show (0 : Nat) ≠ 2 by decide) (show (55 : Nat) ≠ 2 by decide) ?_
      refine r_iald (n := 23) rfl (by decide) dX13_reconcile_108 (by decide) ?_
      refine r_iconst dX13_reconcile_109 (by decide) ?_
      refine r_iload dX13_reconcile_110 rfl ?_
      refine r_ishl dX13_reconcile_112 ?_
      refine r_ior dX13_reconcile_113 ?_
      refine r_iast (n := 23) rfl (by decide) dX13_reconcile_114 (by decide) ?_
      have h := h _ rfl
      generalize hs_s5 : ups s4 123 1 (bOr (s4 123 1) (bShl 1 v6)) = s5 at h ⊢
      refine r_iconst dX13_reconcile_115 (by decide) ?_
      refine r_istore (ls2 := [(21, 92), (0, v1), (0, v2), (0, v3), (0, v4), (0, v5), (0, v6), (0, 0)]) dX13_reconcile_116 (by decide) rfl ?_
      exact h
    · have h := h.2 hc
      refine r_goto (tgt := 166) dX13_reconcile_93 (by decide) ?_
      refine r_iinc (ls2 := [(21, 92), (0, v1), (0, v2), (0, v3), (0, v4), (0, v5), (0, (w32 (v6 + 1))), (9, 0)]) dX13_reconcile_166 rfl (by decide) rfl ?_
      refine r_goto (tgt := 65) dX13_reconcile_169 (by decide) ?_
      exact h
set_option maxRecDepth 20000 in
theorem S_X13_reconcile_118 {g : GT} {e : Nat} {Q : Int → Sg → Prop} {s : Sg} {v1 : Int} {v2 : Int} {v3 : Int} {v4 : Int} {v5 : Int} {v6 : Int} {v7 : Int} (h : ((v1 ≤ v7 → (Mw g e M_X13_builtIn [(21, 92), (0, 1)] s (fun r1 s2 => (Mw g e M_X13_bits [(0, r1)] s2 (fun r3 s4 => ((v4 < r3 → (Mw g e M_X13_builtIn [(21, 92), (0, 1)] s4 (fun r5 s6 => (Mw g e M_X13_bits [(0, r5)] s6 (fun r7 s8 => P_X13_reconcile_65 g e Q s8 v1 v2 v3 r7 v6 (w32 (v6 + 1))))))) ∧ (¬ v4 < r3 → P_X13_reconcile_65 g e Q s4 v1 v2 v3 v4 v5 (w32 (v6 + 1))))))))) ∧ (¬ v1 ≤ v7 → (Mw g e M_X13_passes [(21, 92), (0, 1), (0, 0)] s (fun _ s10 => P_X13_reconcile_118 g e Q s10 v1 v2 v3 v4 v5 v6 (w32 (v7 + 1))))))) : P_X13_reconcile_118 g e Q s v1 v2 v3 v4 v5 v6 v7 := by
  refine r_iload dX13_reconcile_118 rfl ?_
  refine r_iload_n dX13_reconcile_120 rfl ?_
  refine r_icmp_ge (tgt := 136) dX13_reconcile_121 (by decide) (fun hc => ?_) (fun hc => ?_)
  · have h := h.1 hc
    refine r_aload_n dX13_reconcile_136 rfl rfl ?_
    refine r_iconst dX13_reconcile_137 (by decide) ?_
    refine r_callV (ci := 11) (As := [(0, 1)]) (st := []) (by decide) ok_X13_580 rfl rfl (Nat.le_of_ble_eq_true rfl) dX13_reconcile_138 h (fun r1 s2 hv h => ?_)
    refine r_callS (As := [(0, r1)]) (st := []) ok_X13_568 rfl rfl (Nat.le_of_ble_eq_true rfl) dX13_reconcile_141 h (fun r3 s4 hv h => ?_)
    refine r_iload dX13_reconcile_144 rfl ?_
    refine r_icmp_gt (tgt := 152) dX13_reconcile_146 (by decide) (fun hc => ?_) (fun hc => ?_)
    · have h := h.1 hc
      refine r_aload_n dX13_reconcile_152 rfl rfl ?_
      refine r_iconst dX13_reconcile_153 (by decide) ?_
      refine r_callV (ci := 11) (As := [(0, 1)]) (st := []) (by decide) ok_X13_580 rfl rfl (Nat.le_of_ble_eq_true rfl) dX13_reconcile_154 h (fun r5 s6 hv h => ?_)
      refine r_callS (As := [(0, r5)]) (st := []) ok_X13_568 rfl rfl (Nat.le_of_ble_eq_true rfl) dX13_reconcile_157 h (fun r7 s8 hv h => ?_)
      refine r_istore (ls2 := [(21, 92), (0, v1), (0, v2), (0, v3), (0, r7), (0, v5), (0, v6), (0, v7)]) dX13_reconcile_160 (by decide) rfl ?_
      refine r_iload dX13_reconcile_162 rfl ?_
      refine r_istore (ls2 := [(21, 92), (0, v1), (0, v2), (0, v3), (0, r7), (0, v6), (0, v6), (0, v7)]) dX13_reconcile_164 (by decide) rfl ?_
      refine r_iinc (ls2 := [(21, 92), (0, v1), (0, v2), (0, v3), (0, r7), (0, v6), (0, (w32 (v6 + 1))), (0, v7)]) dX13_reconcile_166 rfl (by decide) rfl ?_
      refine r_goto (tgt := 65) dX13_reconcile_169 (by decide) ?_
      exact r_fgt [true, true, true, true, true, true, true, false] rfl h
    · have h := h.2 hc
      refine r_goto (tgt := 166) dX13_reconcile_149 (by decide) ?_
      refine r_iinc (ls2 := [(21, 92), (0, v1), (0, v2), (0, v3), (0, v4), (0, v5), (0, (w32 (v6 + 1))), (0, v7)]) dX13_reconcile_166 rfl (by decide) rfl ?_
      refine r_goto (tgt := 65) dX13_reconcile_169 (by decide) ?_
      exact r_fgt [true, true, true, true, true, true, true, false] rfl h
  · have h := h.2 hc
    refine r_aload_n dX13_reconcile_124 rfl rfl ?_
    refine r_iconst dX13_reconcile_125 (by decide) ?_
    refine r_iconst dX13_reconcile_126 (by decide) ?_
    refine r_callV (ci := 11) (As := [(0, 1), (0, 0)]) (st := []) (by decide) ok_X13_600 rfl rfl (Nat.le_of_ble_eq_true rfl) dX13_reconcile_127 h (fun r9 s10 hv h => ?_)
    refine r_iinc (ls2 := [(21, 92), (0, v1), (0, v2), (0, v3), (0, v4), (0, v5), (0, v6), (0, (w32 (v7 + 1)))]) dX13_reconcile_130 rfl (by decide) rfl ?_
    refine r_goto (tgt := 118) dX13_reconcile_133 (by decide) ?_
    exact h
set_option maxRecDepth 20000 in
theorem S_X13_reconcile {g : GT} {e : Nat} {Q : Int → Sg → Prop} {s : Sg} {v1 : Int} {v2 : Int} (h : inR v1 → inR v2 → (Mw g e M_X13_isAhead [(21, 92), (0, v1), (0, 1), (0, 40)] s (fun r1 s2 => ((r1 = 0 → Q (-1) s2) ∧ (¬ r1 = 0 → (Mw g e M_X13_is [(0, v2), (0, 0), (0, 1)] s2 (fun r3 s4 => ((¬ r3 = 0 → (Mw g e M_X13_copies [(21, 92), (0, 1), (0, 0)] s4 (fun _ s6 => P_X13_reconcile_30 g e Q s6 v1 v2 0))) ∧ (r3 = 0 → Q (-1) s4))))))))) : Mw g (e + 1) M_X13_reconcile [(21, 92), (0, v1), (0, v2)] s Q := by
  refine Mw.of (ls := [(21, 92), (0, v1), (0, v2), (9, 0), (9, 0), (9, 0), (9, 0), (9, 0)]) pn_X13_reconcile (Nat.le_of_ble_eq_true rfl) rfl (fun hv => ?_)
  have h := h (hv _ (List.Mem.tail _ (List.Mem.head _))) (hv _ (List.Mem.tail _ (List.Mem.tail _ (List.Mem.head _))))
  refine r_aload_n dX13_reconcile_0 rfl rfl ?_
  refine r_iload_n dX13_reconcile_1 rfl ?_
  refine r_iconst dX13_reconcile_2 (by decide) ?_
  refine r_bipush dX13_reconcile_3 (by decide) rfl ?_
  refine r_callV (ci := 11) (As := [(0, v1), (0, 1), (0, 40)]) (st := []) (by decide) ok_X13_597 rfl rfl (Nat.le_of_ble_eq_true rfl) dX13_reconcile_5 h (fun r1 s2 hv h => ?_)
  refine r_if_eq (tgt := 20) dX13_reconcile_8 (by decide) (fun hc => ?_) (fun hc => ?_)
  · have h := h.1 hc
    refine r_iconst dX13_reconcile_20 (by decide) ?_
    exact r_iret dX13_reconcile_21 rfl h
  · have h := h.2 hc
    refine r_iload_n dX13_reconcile_11 rfl ?_
    refine r_iconst dX13_reconcile_12 (by decide) ?_
    refine r_iconst dX13_reconcile_13 (by decide) ?_
    refine r_callS (As := [(0, v2), (0, 0), (0, 1)]) (st := []) ok_X13_347 rfl rfl (Nat.le_of_ble_eq_true rfl) dX13_reconcile_14 h (fun r3 s4 hv h => ?_)
    refine r_if_ne (tgt := 22) dX13_reconcile_17 (by decide) (fun hc => ?_) (fun hc => ?_)
    · have h := h.1 hc
      refine r_aload_n dX13_reconcile_22 rfl rfl ?_
      refine r_iconst dX13_reconcile_23 (by decide) ?_
      refine r_iconst dX13_reconcile_24 (by decide) ?_
      refine r_callV (ci := 11) (As := [(0, 1), (0, 0)]) (st := []) (by decide) ok_X13_461 rfl rfl (Nat.le_of_ble_eq_true rfl) dX13_reconcile_25 h (fun r5 s6 hv h => ?_)
      refine r_iconst dX13_reconcile_28 (by decide) ?_
      refine r_istore_n (ls2 := [(21, 92), (0, v1), (0, v2), (0, 0), (9, 0), (9, 0), (9, 0), (9, 0)]) dX13_reconcile_29 (by decide) rfl ?_
      exact h
    · have h := h.2 hc
      refine r_iconst dX13_reconcile_20 (by decide) ?_
      exact r_iret dX13_reconcile_21 rfl h
set_option maxRecDepth 20000 in
theorem S_X13_raises {g : GT} {e : Nat} {Q : Int → Sg → Prop} {s : Sg} (h : (Mw g e M_X13_toldOf [(21, 92), (0, 1)] s (fun r1 s2 => (Mw g e M_X13_toldOf [(21, 92), (0, 0)] s2 (fun r3 s4 => Q (w32 (r1 - r3)) s4))))) : Mw g (e + 1) M_X13_raises [(21, 92)] s Q := by
  refine Mw.of (ls := [(21, 92)]) pn_X13_raises (Nat.le_of_ble_eq_true rfl) rfl (fun hv => ?_)
  refine r_aload_n dX13_raises_0 rfl rfl ?_
  refine r_iconst dX13_raises_1 (by decide) ?_
  refine r_callV (ci := 11) (As := [(0, 1)]) (st := []) (by decide) ok_X13_501 rfl rfl (Nat.le_of_ble_eq_true rfl) dX13_raises_2 h (fun r1 s2 hv h => ?_)
  refine r_aload_n dX13_raises_5 rfl rfl ?_
  refine r_iconst dX13_raises_6 (by decide) ?_
  refine r_callV (ci := 11) (As := [(0, 0)]) (st := [(0, r1)]) (by decide) ok_X13_501 rfl rfl (Nat.le_of_ble_eq_true rfl) dX13_raises_7 h (fun r3 s4 hv h => ?_)
  refine r_isub dX13_raises_10 ?_
  exact r_iret dX13_raises_11 rfl h
abbrev P_X13_strongBy_5 (g : GT) (e : Nat) (Q : Int → Sg → Prop) (s : Sg) (v1 : Int) (v2 : Int) (v3 : Int) (v4 : Int) : Prop := Wp g (e + 1) M_X13_strongBy Q 5 [(21, 92), (0, v1), (0, v2), (0, v3), (0, v4)] [] s
set_option maxRecDepth 20000 in
theorem S_X13_strongBy_5 {g : GT} {e : Nat} {Q : Int → Sg → Prop} {s : Sg} {v1 : Int} {v2 : Int} {v3 : Int} {v4 : Int} (h : ((v2 ≤ v4 → Q v3 s) ∧ (¬ v2 ≤ v4 → (Mw g e M_X13_toldOf [(21, 92), (0, 0)] s (fun r1 s2 => (Mw g e M_X13_toldOf [(21, 92), (0, 0)] s2 (fun r3 s4 => (Mw g e M_X13_raised [(21, 92), (0, v1), (0, (w32 (r1 + v4))), (0, v3), (0, (w32 ((w32 ((s2 92 69) + r3)) + v4)))] s4 (fun r5 s6 => P_X13_strongBy_5 g e Q s6 v1 v2 r5 (w32 (v4 + 1))))))))))) : P_X13_strongBy_5 g e Q s v1 v2 v3 v4 := by
  refine r_iload dX13_strongBy_5 rfl ?_
  refine r_iload_n dX13_strongBy_7 rfl ?_
  refine r_icmp_ge (tgt := 45) dX13_strongBy_8 (by decide) (fun hc => ?_) (fun hc => ?_)
  · have h := h.1 hc
    refine r_iload_n dX13_strongBy_45 rfl ?_
    exact r_iret dX13_strongBy_46 rfl h
  · have h := h.2 hc
    refine r_aload_n dX13_strongBy_11 rfl rfl ?_
    refine r_iload_n dX13_strongBy_12 rfl ?_
    refine r_aload_n dX13_strongBy_13 rfl rfl ?_
    refine r_iconst dX13_strongBy_14 (by decide) ?_
    refine r_callV (ci := 11) (As := [(0, 0)]) (st := [(0, v1), (21, 92)]) (by decide) ok_X13_501 rfl rfl (Nat.le_of_ble_eq_true rfl) dX13_strongBy_15 h (fun r1 s2 hv h => ?_)
    refine r_iload dX13_strongBy_18 rfl ?_
    refine r_iadd dX13_strongBy_20 ?_
    refine r_iload_n dX13_strongBy_21 rfl ?_
    refine r_aload_n dX13_strongBy_22 rfl rfl ?_
    refine gf_X13_222 rfl dX13_strongBy_23 ?_
    refine r_aload_n dX13_strongBy_26 rfl rfl ?_
    refine r_iconst dX13_strongBy_27 (by decide) ?_
    refine r_callV (ci := 11) (As := [(0, 0)]) (st := [(0, (s2 92 69)), (0, v3), (0, (w32 (r1 + v4))), (0, v1), (21, 92)]) (by decide) ok_X13_501 rfl rfl (Nat.le_of_ble_eq_true rfl) dX13_strongBy_28 h (fun r3 s4 hv h => ?_)
    refine r_iadd dX13_strongBy_31 ?_
    refine r_iload dX13_strongBy_32 rfl ?_
    refine r_iadd dX13_strongBy_34 ?_
    refine r_callV (ci := 11) (As := [(0, v1), (0, (w32 (r1 + v4))), (0, v3), (0, (w32 ((w32 ((s2 92 69) + r3)) + v4)))]) (st := []) (by decide) ok_X13_559 rfl rfl (Nat.le_of_ble_eq_true rfl) dX13_strongBy_35 h (fun r5 s6 hv h => ?_)
    refine r_istore_n (ls2 := [(21, 92), (0, v1), (0, v2), (0, r5), (0, v4)]) dX13_strongBy_38 (by decide) rfl ?_
    refine r_iinc (ls2 := [(21, 92), (0, v1), (0, v2), (0, r5), (0, (w32 (v4 + 1)))]) dX13_strongBy_39 rfl (by decide) rfl ?_
    refine r_goto (tgt := 5) dX13_strongBy_42 (by decide) ?_
    exact h
set_option maxRecDepth 20000 in
theorem S_X13_strongBy {g : GT} {e : Nat} {Q : Int → Sg → Prop} {s : Sg} {v1 : Int} {v2 : Int} (h : inR v1 → inR v2 → P_X13_strongBy_5 g e Q s v1 v2 0 0) : Mw g (e + 1) M_X13_strongBy [(21, 92), (0, v1), (0, v2)] s Q := by
  refine Mw.of (ls := [(21, 92), (0, v1), (0, v2), (9, 0), (9, 0)]) pn_X13_strongBy (Nat.le_of_ble_eq_true rfl) rfl (fun hv => ?_)
  have h := h (hv _ (List.Mem.tail _ (List.Mem.head _))) (hv _ (List.Mem.tail _ (List.Mem.tail _ (List.Mem.head _))))
  refine r_iconst dX13_strongBy_0 (by decide) ?_
  refine r_istore_n (ls2 := [(21, 92), (0, v1), (0, v2), (0, 0), (9, 0)]) dX13_strongBy_1 (by decide) rfl ?_
  refine r_iconst dX13_strongBy_2 (by decide) ?_
  refine r_istore (ls2 := [(21, 92), (0, v1), (0, v2), (0, 0), (0, 0)]) dX13_strongBy_3 (by decide) rfl ?_
  exact h
abbrev P_X13_isHomeBy_2 (g : GT) (e : Nat) (Q : Int → Sg → Prop) (s : Sg) (v1 : Int) (v2 : Int) : Prop := Wp g (e + 1) M_X13_isHomeBy Q 2 [(21, 92), (0, v1), (0, v2)] [] s
set_option maxRecDepth 20000 in
theorem S_X13_isHomeBy_2 {g : GT} {e : Nat} {Q : Int → Sg → Prop} {s : Sg} {v1 : Int} {v2 : Int} (h : (((s 92 68) ≤ v2 → Q 1 s) ∧ (¬ (s 92 68) ≤ v2 → ((0 ≤ v2 ∧ v2 < 16) ∧ (Mw g e M_X13_strongBy [(21, 92), (0, v1), (0, (s 136 v2))] s (fun r1 s2 => ((0 ≤ v2 ∧ v2 < 16) ∧ ((r1 = (s2 137 v2) → P_X13_isHomeBy_2 g e Q s2 v1 (w32 (v2 + 1))) ∧ (¬ r1 = (s2 137 v2) → Q 0 s2))))))))) : P_X13_isHomeBy_2 g e Q s v1 v2 := by
  refine r_iload_n dX13_isHomeBy_2 rfl ?_
  refine r_aload_n dX13_isHomeBy_3 rfl rfl ?_
  refine gf_X13_219 rfl dX13_isHomeBy_4 ?_
  refine r_icmp_ge (tgt := 38) dX13_isHomeBy_7 (by decide) (fun hc => ?_) (fun hc => ?_)
  · have h := h.1 hc
    refine r_iconst dX13_isHomeBy_38 (by decide) ?_
    exact r_zret dX13_isHomeBy_39 rfl (by decide) h
  · have h := h.2 hc
    refine r_aload_n dX13_isHomeBy_10 rfl rfl ?_
    refine r_iload_n dX13_isHomeBy_11 rfl ?_
    refine r_aload_n dX13_isHomeBy_12 rfl rfl ?_
    refine gf_X13_225 rfl dX13_isHomeBy_13 ?_
    refine r_iload_n dX13_isHomeBy_16 rfl ?_
    obtain ⟨hb, h⟩ := h
    refine r_iald (n := 16) rfl (by decide) dX13_isHomeBy_17 hb ?_
    refine r_callV (ci := 11) (As := [(0, v1), (0, (s 136 v2))]) (st := []) (by decide) ok_X13_610 rfl rfl (Nat.le_of_ble_eq_true rfl) dX13_isHomeBy_18 h (fun r1 s2 hv h => ?_)
    refine r_aload_n dX13_isHomeBy_21 rfl rfl ?_
    refine gf_X13_228 rfl dX13_isHomeBy_22 ?_
    refine r_iload_n dX13_isHomeBy_25 rfl ?_
    obtain ⟨hb, h⟩ := h
    refine r_iald (n := 16) rfl (by decide) dX13_isHomeBy_26 hb ?_
    refine r_icmp_eq (tgt := 32) dX13_isHomeBy_27 (by decide) (fun hc => ?_) (fun hc => ?_)
    · have h := h.1 hc
      refine r_iinc (ls2 := [(21, 92), (0, v1), (0, (w32 (v2 + 1)))]) dX13_isHomeBy_32 rfl (by decide) rfl ?_
      refine r_goto (tgt := 2) dX13_isHomeBy_35 (by decide) ?_
      exact h
    · have h := h.2 hc
      refine r_iconst dX13_isHomeBy_30 (by decide) ?_
      exact r_zret dX13_isHomeBy_31 rfl (by decide) h
set_option maxRecDepth 20000 in
theorem S_X13_isHomeBy {g : GT} {e : Nat} {Q : Int → Sg → Prop} {s : Sg} {v1 : Int} (h : inR v1 → P_X13_isHomeBy_2 g e Q s v1 0) : Mw g (e + 1) M_X13_isHomeBy [(21, 92), (0, v1)] s Q := by
  refine Mw.of (ls := [(21, 92), (0, v1), (9, 0)]) pn_X13_isHomeBy (Nat.le_of_ble_eq_true rfl) rfl (fun hv => ?_)
  have h := h (hv _ (List.Mem.tail _ (List.Mem.head _)))
  refine r_iconst dX13_isHomeBy_0 (by decide) ?_
  refine r_istore_n (ls2 := [(21, 92), (0, v1), (0, 0)]) dX13_isHomeBy_1 (by decide) rfl ?_
  exact h
abbrev P_X13_homesBy_4 (g : GT) (e : Nat) (Q : Int → Sg → Prop) (s : Sg) (v1 : Int) (v2 : Int) : Prop := Wp g (e + 1) M_X13_homesBy Q 4 [(21, 92), (0, v1), (0, v2)] [] s
set_option maxRecDepth 20000 in
theorem S_X13_homesBy_4 {g : GT} {e : Nat} {Q : Int → Sg → Prop} {s : Sg} {v1 : Int} {v2 : Int} (h : ((0 ≤ (s 92 13) ∧ (s 92 13) < 2) ∧ (((s 94 (s 92 13)) ≤ v2 → Q v1 s) ∧ (¬ (s 94 (s 92 13)) ≤ v2 → (Mw g e M_X13_isHomeBy [(21, 92), (0, v2)] s (fun r1 s2 => ((r1 = 0 → P_X13_homesBy_4 g e Q s2 (bOr v1 0) (w32 (v2 + 1))) ∧ (¬ r1 = 0 → P_X13_homesBy_4 g e Q s2 (bOr v1 (bShl 1 v2)) (w32 (v2 + 1)))))))))) : P_X13_homesBy_4 g e Q s v1 v2 := by
  refine r_iload_n dX13_homesBy_4 rfl ?_
  refine r_aload_n dX13_homesBy_5 rfl rfl ?_
  refine gf_X13_54 rfl dX13_homesBy_6 ?_
  refine r_aload_n dX13_homesBy_9 rfl rfl ?_
  refine gf_X13_51 rfl dX13_homesBy_10 ?_
  obtain ⟨hb, h⟩ := h
  refine r_iald (n := 2) rfl (by decide) dX13_homesBy_13 hb ?_
  refine r_icmp_ge (tgt := 41) dX13_homesBy_14 (by decide) (fun hc => ?_) (fun hc => ?_)
  · have h := h.1 hc
    refine r_iload_n dX13_homesBy_41 rfl ?_
    exact r_iret dX13_homesBy_42 rfl h
  · have h := h.2 hc
    refine r_iload_n dX13_homesBy_17 rfl ?_
    refine r_aload_n dX13_homesBy_18 rfl rfl ?_
    refine r_iload_n dX13_homesBy_19 rfl ?_
    refine r_callV (ci := 11) (As := [(0, v2)]) (st := [(0, v1)]) (by decide) ok_X13_613 rfl rfl (Nat.le_of_ble_eq_true rfl) dX13_homesBy_20 h (fun r1 s2 hv h => ?_)
    refine r_if_eq (tgt := 32) dX13_homesBy_23 (by decide) (fun hc => ?_) (fun hc => ?_)
    · have h := h.1 hc
      refine r_iconst dX13_homesBy_32 (by decide) ?_
      refine r_ior dX13_homesBy_33 ?_
      refine r_istore_n (ls2 := [(21, 92), (0, (bOr v1 0)), (0, v2)]) dX13_homesBy_34 (by decide) rfl ?_
      refine r_iinc (ls2 := [(21, 92), (0, (bOr v1 0)), (0, (w32 (v2 + 1)))]) dX13_homesBy_35 rfl (by decide) rfl ?_
      refine r_goto (tgt := 4) dX13_homesBy_38 (by decide) ?_
      exact h
    · have h := h.2 hc
      refine r_iconst dX13_homesBy_26 (by decide) ?_
      refine r_iload_n dX13_homesBy_27 rfl ?_
      refine r_ishl dX13_homesBy_28 ?_
      refine r_goto (tgt := 33) dX13_homesBy_29 (by decide) ?_
      refine r_ior dX13_homesBy_33 ?_
      refine r_istore_n (ls2 := [(21, 92), (0, (bOr v1 (bShl 1 v2))), (0, v2)]) dX13_homesBy_34 (by decide) rfl ?_
      refine r_iinc (ls2 := [(21, 92), (0, (bOr v1 (bShl 1 v2))), (0, (w32 (v2 + 1)))]) dX13_homesBy_35 rfl (by decide) rfl ?_
      refine r_goto (tgt := 4) dX13_homesBy_38 (by decide) ?_
      exact h
set_option maxRecDepth 20000 in
theorem S_X13_homesBy {g : GT} {e : Nat} {Q : Int → Sg → Prop} {s : Sg} (h : P_X13_homesBy_4 g e Q s 0 0) : Mw g (e + 1) M_X13_homesBy [(21, 92)] s Q := by
  refine Mw.of (ls := [(21, 92), (9, 0), (9, 0)]) pn_X13_homesBy (Nat.le_of_ble_eq_true rfl) rfl (fun hv => ?_)
  refine r_iconst dX13_homesBy_0 (by decide) ?_
  refine r_istore_n (ls2 := [(21, 92), (0, 0), (9, 0)]) dX13_homesBy_1 (by decide) rfl ?_
  refine r_iconst dX13_homesBy_2 (by decide) ?_
  refine r_istore_n (ls2 := [(21, 92), (0, 0), (0, 0)]) dX13_homesBy_3 (by decide) rfl ?_
  exact h
set_option maxRecDepth 20000 in
theorem S_X13_twoBytes {g : GT} {e : Nat} {Q : Int → Sg → Prop} {s : Sg} {v1 : Int} (h : inR v1 → ((0 ≤ v1 ∧ v1 < 1800) ∧ ((0 ≤ (w32 (v1 + 1)) ∧ (w32 (v1 + 1)) < 1800) ∧ Q (bOr (bShl (s 93 v1) 8) (s 93 (w32 (v1 + 1)))) s))) : Mw g (e + 1) M_X13_twoBytes [(21, 92), (0, v1)] s Q := by
  refine Mw.of (ls := [(21, 92), (0, v1)]) pn_X13_twoBytes (Nat.le_of_ble_eq_true rfl) rfl (fun hv => ?_)
  have h := h (hv _ (List.Mem.tail _ (List.Mem.head _)))
  refine r_aload_n dX13_twoBytes_0 rfl rfl ?_
  refine gf_X13_7 rfl dX13_twoBytes_1 ?_
  refine r_iload_n dX13_twoBytes_4 rfl ?_
  obtain ⟨hb, h⟩ := h
  refine r_iald (n := 1800) rfl (by decide) dX13_twoBytes_5 hb ?_
  refine r_bipush dX13_twoBytes_6 (by decide) rfl ?_
  refine r_ishl dX13_twoBytes_8 ?_
  refine r_aload_n dX13_twoBytes_9 rfl rfl ?_
  refine gf_X13_7 rfl dX13_twoBytes_10 ?_
  refine r_iload_n dX13_twoBytes_13 rfl ?_
  refine r_iconst dX13_twoBytes_14 (by decide) ?_
  refine r_iadd dX13_twoBytes_15 ?_
  obtain ⟨hb, h⟩ := h
  refine r_iald (n := 1800) rfl (by decide) dX13_twoBytes_16 hb ?_
  refine r_ior dX13_twoBytes_17 ?_
  exact r_iret dX13_twoBytes_18 rfl h
abbrev P_X13_seams_45 (g : GT) (e : Nat) (Q : Int → Sg → Prop) (s : Sg) (v1 : Int) (v2 : Int) (v3 : Int) (v4 : Int) : Prop := Wp g (e + 1) M_X13_seams Q 45 [(21, 92), (0, v1), (0, v2), (0, v3), (0, v4)] [] s
abbrev P_X13_seams_77 (g : GT) (e : Nat) (Q : Int → Sg → Prop) (s : Sg) (v1 : Int) (v2 : Int) (v3 : Int) : Prop := Wp g (e + 1) M_X13_seams Q 77 [(21, 92), (0, v1), (0, v2), (0, v3), (9, 0)] [] s
abbrev P_X13_seams_102 (g : GT) (e : Nat) (Q : Int → Sg → Prop) (s : Sg) (v4 : Int) : Prop := Wp g (e + 1) M_X13_seams Q 102 [(21, 92), (9, 0), (9, 0), (9, 0), (0, v4)] [] s
set_option maxRecDepth 20000 in
theorem S_X13_seams_45 {g : GT} {e : Nat} {Q : Int → Sg → Prop} {s : Sg} {v1 : Int} {v2 : Int} {v3 : Int} {v4 : Int} (h : ((v2 ≤ v4 → P_X13_seams_77 g e Q s v1 v2 v3) ∧ (¬ v2 ≤ v4 → ((v3 = 0 → P_X13_seams_77 g e Q s v1 v2 v3) ∧ (¬ v3 = 0 → ((0 ≤ v4 ∧ v4 < 1800) ∧ (Mw g e M_X13_raises [(21, 92)] s (fun r1 s2 => (Mw g e M_X13_is [(0, (s 93 v4)), (0, 1), (0, r1)] s2 (fun r3 s4 => P_X13_seams_45 g e Q s4 v1 v2 r3 (w32 (v4 + 3)))))))))))) : P_X13_seams_45 g e Q s v1 v2 v3 v4 := by
  refine r_iload dX13_seams_45 rfl ?_
  refine r_iload_n dX13_seams_47 rfl ?_
  refine r_icmp_ge (tgt := 77) dX13_seams_48 (by decide) (fun hc => ?_) (fun hc => ?_)
  · have h := h.1 hc
    exact r_fgt [true, true, true, true, false] rfl h
  · have h := h.2 hc
    refine r_iload_n dX13_seams_51 rfl ?_
    refine r_if_eq (tgt := 77) dX13_seams_52 (by decide) (fun hc => ?_) (fun hc => ?_)
    · have h := h.1 hc
      exact r_fgt [true, true, true, true, false] rfl h
    · have h := h.2 hc
      refine r_aload_n dX13_seams_55 rfl rfl ?_
      refine gf_X13_7 rfl dX13_seams_56 ?_
      refine r_iload dX13_seams_59 rfl ?_
      obtain ⟨hb, h⟩ := h
      refine r_iald (n := 1800) rfl (by decide) dX13_seams_61 hb ?_
      refine r_iconst dX13_seams_62 (by decide) ?_
      refine r_aload_n dX13_seams_63 rfl rfl ?_
      refine r_callV (ci := 11) (As := []) (st := [(0, 1), (0, (s 93 v4))]) (by decide) ok_X13_616 rfl rfl (Nat.le_of_ble_eq_true rfl) dX13_seams_64 h (fun r1 s2 hv h => ?_)
      refine r_callS (As := [(0, (s 93 v4)), (0, 1), (0, r1)]) (st := []) ok_X13_347 rfl rfl (Nat.le_of_ble_eq_true rfl) dX13_seams_67 h (fun r3 s4 hv h => ?_)
      refine r_istore_n (ls2 := [(21, 92), (0, v1), (0, v2), (0, r3), (0, v4)]) dX13_seams_70 (by decide) rfl ?_
      refine r_iinc (ls2 := [(21, 92), (0, v1), (0, v2), (0, r3), (0, (w32 (v4 + 3)))]) dX13_seams_71 rfl (by decide) rfl ?_
      refine r_goto (tgt := 45) dX13_seams_74 (by decide) ?_
      exact h
set_option maxRecDepth 20000 in
theorem S_X13_seams_77 {g : GT} {e : Nat} {Q : Int → Sg → Prop} {s : Sg} {v1 : Int} {v2 : Int} {v3 : Int} (h : ((¬ v3 = 0 → (∀ s1, s1 = ups s 92 68 (w32 (Int.tdiv v2 3)) → (∀ s2, s2 = ups s1 92 69 v1 → P_X13_seams_102 g e Q s2 0))) ∧ (v3 = 0 → (Mw g e M_X13_refuses [(21, 92), (0, 5)] s (fun r3 s4 => Q r3 s4))))) : P_X13_seams_77 g e Q s v1 v2 v3 := by
  refine r_iload_n dX13_seams_77 rfl ?_
  refine r_if_ne (tgt := 87) dX13_seams_78 (by decide) (fun hc => ?_) (fun hc => ?_)
  · have h := h.1 hc
    refine r_aload_n dX13_seams_87 rfl rfl ?_
    refine r_iload_n dX13_seams_88 rfl ?_
    refine r_iconst dX13_seams_89 (by decide) ?_
    refine r_idiv dX13_seams_90 (by decide) ?_
    refine pf_X13_219 rfl dX13_seams_91 ?_
    have h := h _ rfl
    generalize hs_s1 : ups s 92 68 (w32 (Int.tdiv v2 3)) = s1 at h ⊢
    refine r_aload_n dX13_seams_94 rfl rfl ?_
    refine r_iload_n dX13_seams_95 rfl ?_
    refine pf_X13_222 rfl dX13_seams_96 ?_
    have h := h _ rfl
    generalize hs_s2 : ups s1 92 69 v1 = s2 at h ⊢
    refine r_iconst dX13_seams_99 (by decide) ?_
    refine r_istore (ls2 := [(21, 92), (0, v1), (0, v2), (0, v3), (0, 0)]) dX13_seams_100 (by decide) rfl ?_
    exact r_fgt [true, false, false, false, true] rfl h
  · have h := h.2 hc
    refine r_aload_n dX13_seams_81 rfl rfl ?_
    refine r_iconst dX13_seams_82 (by decide) ?_
    refine r_callV (ci := 11) (As := [(0, 5)]) (st := []) (by decide) ok_X13_250 rfl rfl (Nat.le_of_ble_eq_true rfl) dX13_seams_83 h (fun r3 s4 hv h => ?_)
    exact r_iret dX13_seams_86 rfl h
set_option maxRecDepth 20000 in
theorem S_X13_seams_102 {g : GT} {e : Nat} {Q : Int → Sg → Prop} {s : Sg} {v4 : Int} (h : (((s 92 68) ≤ v4 → (Mw g e M_X13_homesBy [(21, 92)] s (fun r1 s2 => (Mw g e M_X13_bits [(0, r1)] s2 (fun r3 s4 => Q r3 s4))))) ∧ (¬ (s 92 68) ≤ v4 → ((0 ≤ (w32 (3 * v4)) ∧ (w32 (3 * v4)) < 1800) ∧ ((0 ≤ v4 ∧ v4 < 16) ∧ ∀ s5, s5 = ups s 136 v4 (s 93 (w32 (3 * v4))) → (Mw g e M_X13_twoBytes [(21, 92), (0, (w32 ((w32 (3 * v4)) + 1)))] s5 (fun r6 s7 => ((0 ≤ v4 ∧ v4 < 16) ∧ ∀ s8, s8 = ups s7 137 v4 r6 → P_X13_seams_102 g e Q s8 (w32 (v4 + 1)))))))))) : P_X13_seams_102 g e Q s v4 := by
  refine r_iload dX13_seams_102 rfl ?_
  refine r_aload_n dX13_seams_104 rfl rfl ?_
  refine gf_X13_219 rfl dX13_seams_105 ?_
  refine r_icmp_ge (tgt := 150) dX13_seams_108 (by decide) (fun hc => ?_) (fun hc => ?_)
  · have h := h.1 hc
    refine r_aload_n dX13_seams_150 rfl rfl ?_
    refine r_callV (ci := 11) (As := []) (st := []) (by decide) ok_X13_622 rfl rfl (Nat.le_of_ble_eq_true rfl) dX13_seams_151 h (fun r1 s2 hv h => ?_)
    refine r_callS (As := [(0, r1)]) (st := []) ok_X13_568 rfl rfl (Nat.le_of_ble_eq_true rfl) dX13_seams_154 h (fun r3 s4 hv h => ?_)
    exact r_iret dX13_seams_157 rfl h
  · have h := h.2 hc
    refine r_aload_n dX13_seams_111 rfl rfl ?_
    refine gf_X13_225 rfl dX13_seams_112 ?_
    refine r_iload dX13_seams_115 rfl ?_
    refine r_aload_n dX13_seams_117 rfl rfl ?_
    refine gf_X13_7 rfl dX13_seams_118 ?_
    refine r_iconst dX13_seams_121 (by decide) ?_
    refine r_iload dX13_seams_122 rfl ?_
    refine r_imul dX13_seams_124 ?_
    obtain ⟨hb, h⟩ := h
    refine r_iald (n := 1800) rfl (by decide) dX13_seams_125 hb ?_
    obtain ⟨hb, h⟩ := h
    refine r_iast (n := 16) rfl (by decide) dX13_seams_126 hb ?_
    have h := h _ rfl
    generalize hs_s5 : ups s 136 v4 (s 93 (w32 (3 * v4))) = s5 at h ⊢
    refine r_aload_n dX13_seams_127 rfl rfl ?_
    refine gf_X13_228 rfl dX13_seams_128 ?_
    refine r_iload dX13_seams_131 rfl ?_
    refine r_aload_n dX13_seams_133 rfl rfl ?_
    refine r_iconst dX13_seams_134 (by decide) ?_
    refine r_iload dX13_seams_135 rfl ?_
    refine r_imul dX13_seams_137 ?_
    refine r_iconst dX13_seams_138 (by decide) ?_
    refine r_iadd dX13_seams_139 ?_
    refine r_callV (ci := 11) (As := [(0, (w32 ((w32 (3 * v4)) + 1)))]) (st := [(0, v4), (40, 137)]) (by decide) ok_X13_619 rfl rfl (Nat.le_of_ble_eq_true rfl) dX13_seams_140 h (fun r6 s7 hv h => ?_)
    obtain ⟨hb, h⟩ := h
    refine r_iast (n := 16) rfl (by decide) dX13_seams_143 hb ?_
    have h := h _ rfl
    generalize hs_s8 : ups s7 137 v4 r6 = s8 at h ⊢
    refine r_iinc (ls2 := [(21, 92), (9, 0), (9, 0), (9, 0), (0, (w32 (v4 + 1)))]) dX13_seams_144 rfl (by decide) rfl ?_
    refine r_goto (tgt := 102) dX13_seams_147 (by decide) ?_
    exact h
set_option maxRecDepth 20000 in
theorem S_X13_seams {g : GT} {e : Nat} {Q : Int → Sg → Prop} {s : Sg} {v1 : Int} (h : inR v1 → (∀ s1, s1 = ups s 92 1 0 → (((s 92 1) ≤ 0 → P_X13_seams_45 g e Q s1 v1 (s 92 1) 0 0) ∧ (¬ (s 92 1) ≤ 0 → ((¬ (Int.tmod (s 92 1) 3) = 0 → P_X13_seams_45 g e Q s1 v1 (s 92 1) 0 0) ∧ ((Int.tmod (s 92 1) 3) = 0 → ((48 < (s 92 1) → P_X13_seams_45 g e Q s1 v1 (s 92 1) 0 0) ∧ (¬ 48 < (s 92 1) → (Mw g e M_X13_is [(0, v1), (0, 0), (0, 99)] s1 (fun r2 s3 => ((r2 = 0 → P_X13_seams_45 g e Q s3 v1 (s 92 1) 0 0) ∧ (¬ r2 = 0 → P_X13_seams_45 g e Q s3 v1 (s 92 1) 1 0)))))))))))) : Mw g (e + 1) M_X13_seams [(21, 92), (0, v1)] s Q := by
  refine Mw.of (ls := [(21, 92), (0, v1), (9, 0), (9, 0), (9, 0)]) pn_X13_seams (Nat.le_of_ble_eq_true rfl) rfl (fun hv => ?_)
  have h := h (hv _ (List.Mem.tail _ (List.Mem.head _)))
  refine r_aload_n dX13_seams_0 rfl rfl ?_
  refine gf_X13_13 rfl dX13_seams_1 ?_
  refine r_istore_n (ls2 := [(21, 92), (0, v1), (0, (s 92 1)), (9, 0), (9, 0)]) dX13_seams_4 (by decide) rfl ?_
  refine r_aload_n dX13_seams_5 rfl rfl ?_
  refine r_iconst dX13_seams_6 (by decide) ?_
  refine pf_X13_13 rfl dX13_seams_7 ?_
  have h := h _ rfl
  generalize hs_s1 : ups s 92 1 0 = s1 at h ⊢
  refine r_iload_n dX13_seams_10 rfl ?_
  refine r_if_le (tgt := 40) dX13_seams_11 (by decide) (fun hc => ?_) (fun hc => ?_)
  · have h := h.1 hc
    refine r_iconst dX13_seams_40 (by decide) ?_
    refine r_istore_n (ls2 := [(21, 92), (0, v1), (0, (s 92 1)), (0, 0), (9, 0)]) dX13_seams_41 (by decide) rfl ?_
    refine r_iconst dX13_seams_42 (by decide) ?_
    refine r_istore (ls2 := [(21, 92), (0, v1), (0, (s 92 1)), (0, 0), (0, 0)]) dX13_seams_43 (by decide) rfl ?_
    exact h
  · have h := h.2 hc
    refine r_iload_n dX13_seams_14 rfl ?_
    refine r_iconst dX13_seams_15 (by decide) ?_
    refine r_irem dX13_seams_16 (by decide) ?_
    refine r_if_ne (tgt := 40) dX13_seams_17 (by decide) (fun hc => ?_) (fun hc => ?_)
    · have h := h.1 hc
      refine r_iconst dX13_seams_40 (by decide) ?_
      refine r_istore_n (ls2 := [(21, 92), (0, v1), (0, (s 92 1)), (0, 0), (9, 0)]) dX13_seams_41 (by decide) rfl ?_
      refine r_iconst dX13_seams_42 (by decide) ?_
      refine r_istore (ls2 := [(21, 92), (0, v1), (0, (s 92 1)), (0, 0), (0, 0)]) dX13_seams_43 (by decide) rfl ?_
      exact h
    · have h := h.2 hc
      refine r_iload_n dX13_seams_20 rfl ?_
      refine r_bipush dX13_seams_21 (by decide) rfl ?_
      refine r_icmp_gt (tgt := 40) dX13_seams_23 (by decide) (fun hc => ?_) (fun hc => ?_)
      · have h := h.1 hc
        refine r_iconst dX13_seams_40 (by decide) ?_
        refine r_istore_n (ls2 := [(21, 92), (0, v1), (0, (s 92 1)), (0, 0), (9, 0)]) dX13_seams_41 (by decide) rfl ?_
        refine r_iconst dX13_seams_42 (by decide) ?_
        refine r_istore (ls2 := [(21, 92), (0, v1), (0, (s 92 1)), (0, 0), (0, 0)]) dX13_seams_43 (by decide) rfl ?_
        exact h
      · have h := h.2 hc
        refine r_iload_n dX13_seams_26 rfl ?_
        refine r_iconst dX13_seams_27 (by decide) ?_
        refine r_bipush dX13_seams_28 (by decide) rfl ?_
        refine r_callS (As := [(0, v1), (0, 0), (0, 99)]) (st := []) ok_X13_347 rfl rfl (Nat.le_of_ble_eq_true rfl) dX13_seams_30 h (fun r2 s3 hv h => ?_)
        refine r_if_eq (tgt := 40) dX13_seams_33 (by decide) (fun hc => ?_) (fun hc => ?_)
        · have h := h.1 hc
          refine r_iconst dX13_seams_40 (by decide) ?_
          refine r_istore_n (ls2 := [(21, 92), (0, v1), (0, (s 92 1)), (0, 0), (9, 0)]) dX13_seams_41 (by decide) rfl ?_
          refine r_iconst dX13_seams_42 (by decide) ?_
          refine r_istore (ls2 := [(21, 92), (0, v1), (0, (s 92 1)), (0, 0), (0, 0)]) dX13_seams_43 (by decide) rfl ?_
          exact h
        · have h := h.2 hc
          refine r_iconst dX13_seams_36 (by decide) ?_
          refine r_goto (tgt := 41) dX13_seams_37 (by decide) ?_
          refine r_istore_n (ls2 := [(21, 92), (0, v1), (0, (s 92 1)), (0, 1), (9, 0)]) dX13_seams_41 (by decide) rfl ?_
          refine r_iconst dX13_seams_42 (by decide) ?_
          refine r_istore (ls2 := [(21, 92), (0, v1), (0, (s 92 1)), (0, 1), (0, 0)]) dX13_seams_43 (by decide) rfl ?_
          exact h
abbrev P_X13_homes_32 (g : GT) (e : Nat) (Q : Int → Sg → Prop) (s : Sg) (v2 : Int) (v3 : Int) (v4 : Int) (v5 : Int) : Prop := Wp g (e + 1) M_X13_homes Q 32 [(21, 92), (9, 0), (0, v2), (0, v3), (0, v4), (0, v5), (9, 0), (9, 0), (9, 0), (9, 0)] [] s
abbrev P_X13_homes_44 (g : GT) (e : Nat) (Q : Int → Sg → Prop) (s : Sg) (v2 : Int) (v3 : Int) (v4 : Int) (v5 : Int) (v6 : Int) : Prop := Wp g (e + 1) M_X13_homes Q 44 [(21, 92), (9, 0), (0, v2), (0, v3), (0, v4), (0, v5), (0, v6), (9, 0), (9, 0), (9, 0)] [] s
abbrev P_X13_homes_85 (g : GT) (e : Nat) (Q : Int → Sg → Prop) (s : Sg) (v2 : Int) (v3 : Int) (v4 : Int) (v5 : Int) (v6 : Int) (v7 : Int) : Prop := Wp g (e + 1) M_X13_homes Q 85 [(21, 92), (9, 0), (0, v2), (0, v3), (0, v4), (0, v5), (0, v6), (0, v7), (9, 0), (9, 0)] [] s
abbrev P_X13_homes_105 (g : GT) (e : Nat) (Q : Int → Sg → Prop) (s : Sg) (v2 : Int) (v3 : Int) (v4 : Int) (v5 : Int) (v6 : Int) (v7 : Int) (v8 : Int) (v9 : Int) : Prop := Wp g (e + 1) M_X13_homes Q 105 [(21, 92), (9, 0), (0, v2), (0, v3), (0, v4), (0, v5), (0, v6), (0, v7), (0, v8), (0, v9)] [] s
set_option maxRecDepth 20000 in
theorem S_X13_homes_32 {g : GT} {e : Nat} {Q : Int → Sg → Prop} {s : Sg} {v2 : Int} {v3 : Int} {v4 : Int} {v5 : Int} (h : (Mw g e M_X13_raises [(21, 92)] s (fun r1 s2 => ((r1 < v5 → Q v3 s2) ∧ (¬ r1 < v5 → P_X13_homes_44 g e Q s2 v2 v3 v4 v5 0))))) : P_X13_homes_32 g e Q s v2 v3 v4 v5 := by
  refine r_iload dX13_homes_32 rfl ?_
  refine r_aload_n dX13_homes_34 rfl rfl ?_
  refine r_callV (ci := 11) (As := []) (st := [(0, v5)]) (by decide) ok_X13_616 rfl rfl (Nat.le_of_ble_eq_true rfl) dX13_homes_35 h (fun r1 s2 hv h => ?_)
  refine r_icmp_gt (tgt := 215) dX13_homes_38 (by decide) (fun hc => ?_) (fun hc => ?_)
  · have h := h.1 hc
    refine r_iload_n dX13_homes_215 rfl ?_
    exact r_iret dX13_homes_216 rfl h
  · have h := h.2 hc
    refine r_iconst dX13_homes_41 (by decide) ?_
    refine r_istore (ls2 := [(21, 92), (9, 0), (0, v2), (0, v3), (0, v4), (0, v5), (0, 0), (9, 0), (9, 0), (9, 0)]) dX13_homes_42 (by decide) rfl ?_
    exact h
set_option maxRecDepth 20000 in
theorem S_X13_homes_44 {g : GT} {e : Nat} {Q : Int → Sg → Prop} {s : Sg} {v2 : Int} {v3 : Int} {v4 : Int} {v5 : Int} {v6 : Int} (h : ((0 ≤ (s 92 13) ∧ (s 92 13) < 2) ∧ (((s 94 (s 92 13)) ≤ v6 → P_X13_homes_85 g e Q s v2 v3 v4 v5 0 0) ∧ (¬ (s 94 (s 92 13)) ≤ v6 → (Mw g e M_X13_strongBy [(21, 92), (0, v6), (0, v5)] s (fun r1 s2 => ((0 ≤ v6 ∧ v6 < 6) ∧ ∀ s3, s3 = ups s2 138 v6 r1 → P_X13_homes_44 g e Q s3 v2 v3 v4 v5 (w32 (v6 + 1))))))))) : P_X13_homes_44 g e Q s v2 v3 v4 v5 v6 := by
  refine r_iload dX13_homes_44 rfl ?_
  refine r_aload_n dX13_homes_46 rfl rfl ?_
  refine gf_X13_54 rfl dX13_homes_47 ?_
  refine r_aload_n dX13_homes_50 rfl rfl ?_
  refine gf_X13_51 rfl dX13_homes_51 ?_
  obtain ⟨hb, h⟩ := h
  refine r_iald (n := 2) rfl (by decide) dX13_homes_54 hb ?_
  refine r_icmp_ge (tgt := 79) dX13_homes_55 (by decide) (fun hc => ?_) (fun hc => ?_)
  · have h := h.1 hc
    refine r_iconst dX13_homes_79 (by decide) ?_
    refine r_istore (ls2 := [(21, 92), (9, 0), (0, v2), (0, v3), (0, v4), (0, v5), (0, 0), (9, 0), (9, 0), (9, 0)]) dX13_homes_80 (by decide) rfl ?_
    refine r_iconst dX13_homes_82 (by decide) ?_
    refine r_istore (ls2 := [(21, 92), (9, 0), (0, v2), (0, v3), (0, v4), (0, v5), (0, 0), (0, 0), (9, 0), (9, 0)]) dX13_homes_83 (by decide) rfl ?_
    exact h
  · have h := h.2 hc
    refine r_aload_n dX13_homes_58 rfl rfl ?_
    refine gf_X13_231 rfl dX13_homes_59 ?_
    refine r_iload dX13_homes_62 rfl ?_
    refine r_aload_n dX13_homes_64 rfl rfl ?_
    refine r_iload dX13_homes_65 rfl ?_
    refine r_iload dX13_homes_67 rfl ?_
    refine r_callV (ci := 11) (As := [(0, v6), (0, v5)]) (st := [(0, v6), (34, 138)]) (by decide) ok_X13_610 rfl rfl (Nat.le_of_ble_eq_true rfl) dX13_homes_69 h (fun r1 s2 hv h => ?_)
    obtain ⟨hb, h⟩ := h
    refine r_iast (n := 6) rfl (by decide) dX13_homes_72 hb ?_
    have h := h _ rfl
    generalize hs_s3 : ups s2 138 v6 r1 = s3 at h ⊢
    refine r_iinc (ls2 := [(21, 92), (9, 0), (0, v2), (0, v3), (0, v4), (0, v5), (0, (w32 (v6 + 1))), (9, 0), (9, 0), (9, 0)]) dX13_homes_73 rfl (by decide) rfl ?_
    refine r_goto (tgt := 44) dX13_homes_76 (by decide) ?_
    exact h
set_option maxRecDepth 20000 in
theorem S_X13_homes_85 {g : GT} {e : Nat} {Q : Int → Sg → Prop} {s : Sg} {v2 : Int} {v3 : Int} {v4 : Int} {v5 : Int} {v6 : Int} {v7 : Int} (h : ((0 ≤ (s 92 13) ∧ (s 92 13) < 2) ∧ (((s 94 (s 92 13)) ≤ v7 → ((v6 < v4 → P_X13_homes_32 g e Q s v2 v5 v6 (w32 (v5 + 1))) ∧ (¬ v6 < v4 → P_X13_homes_32 g e Q s v2 v3 v4 (w32 (v5 + 1))))) ∧ (¬ (s 94 (s 92 13)) ≤ v7 → P_X13_homes_105 g e Q s v2 v3 v4 v5 v6 v7 0 0)))) : P_X13_homes_85 g e Q s v2 v3 v4 v5 v6 v7 := by
  refine r_iload dX13_homes_85 rfl ?_
  refine r_aload_n dX13_homes_87 rfl rfl ?_
  refine gf_X13_54 rfl dX13_homes_88 ?_
  refine r_aload_n dX13_homes_91 rfl rfl ?_
  refine gf_X13_51 rfl dX13_homes_92 ?_
  obtain ⟨hb, h⟩ := h
  refine r_iald (n := 2) rfl (by decide) dX13_homes_95 hb ?_
  refine r_icmp_ge (tgt := 192) dX13_homes_96 (by decide) (fun hc => ?_) (fun hc => ?_)
  · have h := h.1 hc
    refine r_iload dX13_homes_192 rfl ?_
    refine r_iload dX13_homes_194 rfl ?_
    refine r_icmp_lt (tgt := 202) dX13_homes_196 (by decide) (fun hc => ?_) (fun hc => ?_)
    · have h := h.1 hc
      refine r_iload dX13_homes_202 rfl ?_
      refine r_istore (ls2 := [(21, 92), (9, 0), (0, v2), (0, v3), (0, v6), (0, v5), (0, v6), (0, v7), (9, 0), (9, 0)]) dX13_homes_204 (by decide) rfl ?_
      refine r_iload dX13_homes_206 rfl ?_
      refine r_istore_n (ls2 := [(21, 92), (9, 0), (0, v2), (0, v5), (0, v6), (0, v5), (0, v6), (0, v7), (9, 0), (9, 0)]) dX13_homes_208 (by decide) rfl ?_
      refine r_iinc (ls2 := [(21, 92), (9, 0), (0, v2), (0, v5), (0, v6), (0, (w32 (v5 + 1))), (0, v6), (0, v7), (9, 0), (9, 0)]) dX13_homes_209 rfl (by decide) rfl ?_
      refine r_goto (tgt := 32) dX13_homes_212 (by decide) ?_
      exact r_fgt [true, false, true, true, true, true, false, false, false, false] rfl h
    · have h := h.2 hc
      refine r_goto (tgt := 209) dX13_homes_199 (by decide) ?_
      refine r_iinc (ls2 := [(21, 92), (9, 0), (0, v2), (0, v3), (0, v4), (0, (w32 (v5 + 1))), (0, v6), (0, v7), (9, 0), (9, 0)]) dX13_homes_209 rfl (by decide) rfl ?_
      refine r_goto (tgt := 32) dX13_homes_212 (by decide) ?_
      exact r_fgt [true, false, true, true, true, true, false, false, false, false] rfl h
  · have h := h.2 hc
    refine r_iconst dX13_homes_99 (by decide) ?_
    refine r_istore (ls2 := [(21, 92), (9, 0), (0, v2), (0, v3), (0, v4), (0, v5), (0, v6), (0, v7), (0, 0), (9, 0)]) dX13_homes_100 (by decide) rfl ?_
    refine r_iconst dX13_homes_102 (by decide) ?_
    refine r_istore (ls2 := [(21, 92), (9, 0), (0, v2), (0, v3), (0, v4), (0, v5), (0, v6), (0, v7), (0, 0), (0, 0)]) dX13_homes_103 (by decide) rfl ?_
    exact h
set_option maxRecDepth 20000 in
theorem S_X13_homes_105 {g : GT} {e : Nat} {Q : Int → Sg → Prop} {s : Sg} {v2 : Int} {v3 : Int} {v4 : Int} {v5 : Int} {v6 : Int} {v7 : Int} {v8 : Int} {v9 : Int} (h : ((0 ≤ (s 92 13) ∧ (s 92 13) < 2) ∧ (((s 94 (s 92 13)) ≤ v9 → ((v8 ≤ v6 → P_X13_homes_85 g e Q s v2 v3 v4 v5 v6 (w32 (v7 + 1))) ∧ (¬ v8 ≤ v6 → P_X13_homes_85 g e Q s v2 v3 v4 v5 v8 (w32 (v7 + 1))))) ∧ (¬ (s 94 (s 92 13)) ≤ v9 → (Mw g e M_X13_has2 [(0, v2), (0, v7)] s (fun r1 s2 => ((r1 = 0 → P_X13_homes_105 g e Q s2 v2 v3 v4 v5 v6 v7 (w32 (v8 + 0)) (w32 (v9 + 1))) ∧ (¬ r1 = 0 → (Mw g e M_X13_has2 [(0, v2), (0, v9)] s2 (fun r3 s4 => ((r3 = 0 → P_X13_homes_105 g e Q s4 v2 v3 v4 v5 v6 v7 (w32 (v8 + 0)) (w32 (v9 + 1))) ∧ (¬ r3 = 0 → ((0 ≤ v7 ∧ v7 < 6) ∧ ((0 ≤ v9 ∧ v9 < 6) ∧ ((¬ (s4 138 v7) = (s4 138 v9) → P_X13_homes_105 g e Q s4 v2 v3 v4 v5 v6 v7 (w32 (v8 + 0)) (w32 (v9 + 1))) ∧ ((s4 138 v7) = (s4 138 v9) → P_X13_homes_105 g e Q s4 v2 v3 v4 v5 v6 v7 (w32 (v8 + 1)) (w32 (v9 + 1)))))))))))))))))) : P_X13_homes_105 g e Q s v2 v3 v4 v5 v6 v7 v8 v9 := by
  refine r_iload dX13_homes_105 rfl ?_
  refine r_aload_n dX13_homes_107 rfl rfl ?_
  refine gf_X13_54 rfl dX13_homes_108 ?_
  refine r_aload_n dX13_homes_111 rfl rfl ?_
  refine gf_X13_51 rfl dX13_homes_112 ?_
  obtain ⟨hb, h⟩ := h
  refine r_iald (n := 2) rfl (by decide) dX13_homes_115 hb ?_
  refine r_icmp_ge (tgt := 170) dX13_homes_116 (by decide) (fun hc => ?_) (fun hc => ?_)
  · have h := h.1 hc
    refine r_iload dX13_homes_170 rfl ?_
    refine r_iload dX13_homes_172 rfl ?_
    refine r_icmp_le (tgt := 182) dX13_homes_174 (by decide) (fun hc => ?_) (fun hc => ?_)
    · have h := h.1 hc
      refine r_iload dX13_homes_182 rfl ?_
      refine r_istore (ls2 := [(21, 92), (9, 0), (0, v2), (0, v3), (0, v4), (0, v5), (0, v6), (0, v7), (0, v8), (0, v9)]) dX13_homes_184 (by decide) rfl ?_
      refine r_iinc (ls2 := [(21, 92), (9, 0), (0, v2), (0, v3), (0, v4), (0, v5), (0, v6), (0, (w32 (v7 + 1))), (0, v8), (0, v9)]) dX13_homes_186 rfl (by decide) rfl ?_
      refine r_goto (tgt := 85) dX13_homes_189 (by decide) ?_
      exact r_fgt [true, false, true, true, true, true, true, true, false, false] rfl h
    · have h := h.2 hc
      refine r_iload dX13_homes_177 rfl ?_
      refine r_goto (tgt := 184) dX13_homes_179 (by decide) ?_
      refine r_istore (ls2 := [(21, 92), (9, 0), (0, v2), (0, v3), (0, v4), (0, v5), (0, v8), (0, v7), (0, v8), (0, v9)]) dX13_homes_184 (by decide) rfl ?_
      refine r_iinc (ls2 := [(21, 92), (9, 0), (0, v2), (0, v3), (0, v4), (0, v5), (0, v8), (0, (w32 (v7 + 1))), (0, v8), (0, v9)]) dX13_homes_186 rfl (by decide) rfl ?_
      refine r_goto (tgt := 85) dX13_homes_189 (by decide) ?_
      exact r_fgt [true, false, true, true, true, true, true, true, false, false] rfl h
  · have h := h.2 hc
    refine r_iload dX13_homes_119 rfl ?_
    refine r_iload_n dX13_homes_121 rfl ?_
    refine r_iload dX13_homes_122 rfl ?_
    refine r_callS (As := [(0, v2), (0, v7)]) (st := [(0, v8)]) ok_X13_389 rfl rfl (Nat.le_of_ble_eq_true rfl) dX13_homes_124 h (fun r1 s2 hv h => ?_)
    refine r_if_eq (tgt := 160) dX13_homes_127 (by decide) (fun hc => ?_) (fun hc => ?_)
    · have h := h.1 hc
      refine r_iconst dX13_homes_160 (by decide) ?_
      refine r_iadd dX13_homes_161 ?_
      refine r_istore (ls2 := [(21, 92), (9, 0), (0, v2), (0, v3), (0, v4), (0, v5), (0, v6), (0, v7), (0, (w32 (v8 + 0))), (0, v9)]) dX13_homes_162 (by decide) rfl ?_
      refine r_iinc (ls2 := [(21, 92), (9, 0), (0, v2), (0, v3), (0, v4), (0, v5), (0, v6), (0, v7), (0, (w32 (v8 + 0))), (0, (w32 (v9 + 1)))]) dX13_homes_164 rfl (by decide) rfl ?_
      refine r_goto (tgt := 105) dX13_homes_167 (by decide) ?_
      exact h
    · have h := h.2 hc
      refine r_iload_n dX13_homes_130 rfl ?_
      refine r_iload dX13_homes_131 rfl ?_
      refine r_callS (As := [(0, v2), (0, v9)]) (st := [(0, v8)]) ok_X13_389 rfl rfl (Nat.le_of_ble_eq_true rfl) dX13_homes_133 h (fun r3 s4 hv h => ?_)
      refine r_if_eq (tgt := 160) dX13_homes_136 (by decide) (fun hc => ?_) (fun hc => ?_)
      · have h := h.1 hc
        refine r_iconst dX13_homes_160 (by decide) ?_
        refine r_iadd dX13_homes_161 ?_
        refine r_istore (ls2 := [(21, 92), (9, 0), (0, v2), (0, v3), (0, v4), (0, v5), (0, v6), (0, v7), (0, (w32 (v8 + 0))), (0, v9)]) dX13_homes_162 (by decide) rfl ?_
        refine r_iinc (ls2 := [(21, 92), (9, 0), (0, v2), (0, v3), (0, v4), (0, v5), (0, v6), (0, v7), (0, (w32 (v8 + 0))), (0, (w32 (v9 + 1)))]) dX13_homes_164 rfl (by decide) rfl ?_
        refine r_goto (tgt := 105) dX13_homes_167 (by decide) ?_
        exact h
      · have h := h.2 hc
        refine r_aload_n dX13_homes_139 rfl rfl ?_
        refine gf_X13_231 rfl dX13_homes_140 ?_
        refine r_iload dX13_homes_143 rfl ?_
        obtain ⟨hb, h⟩ := h
        refine r_iald (n := 6) rfl (by decide) dX13_homes_145 hb ?_
        refine r_aload_n dX13_homes_146 rfl rfl ?_
        refine gf_X13_231 rfl dX13_homes_147 ?_
        refine r_iload dX13_homes_150 rfl ?_
        obtain ⟨hb, h⟩ := h
        refine r_iald (n := 6) rfl (by decide) dX13_homes_152 hb ?_
        refine r_icmp_ne (tgt := 160) dX13_homes_153 (by decide) (fun hc => ?_) (fun hc => ?_)
        · have h := h.1 hc
          refine r_iconst dX13_homes_160 (by decide) ?_
          refine r_iadd dX13_homes_161 ?_
          refine r_istore (ls2 := [(21, 92), (9, 0), (0, v2), (0, v3), (0, v4), (0, v5), (0, v6), (0, v7), (0, (w32 (v8 + 0))), (0, v9)]) dX13_homes_162 (by decide) rfl ?_
          refine r_iinc (ls2 := [(21, 92), (9, 0), (0, v2), (0, v3), (0, v4), (0, v5), (0, v6), (0, v7), (0, (w32 (v8 + 0))), (0, (w32 (v9 + 1)))]) dX13_homes_164 rfl (by decide) rfl ?_
          refine r_goto (tgt := 105) dX13_homes_167 (by decide) ?_
          exact h
        · have h := h.2 hc
          refine r_iconst dX13_homes_156 (by decide) ?_
          refine r_goto (tgt := 161) dX13_homes_157 (by decide) ?_
          refine r_iadd dX13_homes_161 ?_
          refine r_istore (ls2 := [(21, 92), (9, 0), (0, v2), (0, v3), (0, v4), (0, v5), (0, v6), (0, v7), (0, (w32 (v8 + 1))), (0, v9)]) dX13_homes_162 (by decide) rfl ?_
          refine r_iinc (ls2 := [(21, 92), (9, 0), (0, v2), (0, v3), (0, v4), (0, v5), (0, v6), (0, v7), (0, (w32 (v8 + 1))), (0, (w32 (v9 + 1)))]) dX13_homes_164 rfl (by decide) rfl ?_
          refine r_goto (tgt := 105) dX13_homes_167 (by decide) ?_
          exact h
set_option maxRecDepth 20000 in
theorem S_X13_homes {g : GT} {e : Nat} {Q : Int → Sg → Prop} {s : Sg} {v1 : Int} (h : inR v1 → (Mw g e M_X13_homesBy [(21, 92)] s (fun r1 s2 => ((¬ v1 = 0 → ((¬ v1 = 1 → Q (-1) s2) ∧ (v1 = 1 → ((¬ r1 = 0 → P_X13_homes_32 g e Q s2 r1 (-1) 100000000 1) ∧ (r1 = 0 → Q (-1) s2))))) ∧ (v1 = 0 → Q r1 s2))))) : Mw g (e + 1) M_X13_homes [(21, 92), (0, v1)] s Q := by
  refine Mw.of (ls := [(21, 92), (0, v1), (9, 0), (9, 0), (9, 0), (9, 0), (9, 0), (9, 0), (9, 0), (9, 0)]) pn_X13_homes (Nat.le_of_ble_eq_true rfl) rfl (fun hv => ?_)
  have h := h (hv _ (List.Mem.tail _ (List.Mem.head _)))
  refine r_aload_n dX13_homes_0 rfl rfl ?_
  refine r_callV (ci := 11) (As := []) (st := []) (by decide) ok_X13_622 rfl rfl (Nat.le_of_ble_eq_true rfl) dX13_homes_1 h (fun r1 s2 hv h => ?_)
  refine r_istore_n (ls2 := [(21, 92), (0, v1), (0, r1), (9, 0), (9, 0), (9, 0), (9, 0), (9, 0), (9, 0), (9, 0)]) dX13_homes_4 (by decide) rfl ?_
  refine r_iload_n dX13_homes_5 rfl ?_
  refine r_if_ne (tgt := 11) dX13_homes_6 (by decide) (fun hc => ?_) (fun hc => ?_)
  · have h := h.1 hc
    refine r_iload_n dX13_homes_11 rfl ?_
    refine r_iconst dX13_homes_12 (by decide) ?_
    refine r_icmp_ne (tgt := 20) dX13_homes_13 (by decide) (fun hc => ?_) (fun hc => ?_)
    · have h := h.1 hc
      refine r_iconst dX13_homes_20 (by decide) ?_
      exact r_iret dX13_homes_21 rfl h
    · have h := h.2 hc
      refine r_iload_n dX13_homes_16 rfl ?_
      refine r_if_ne (tgt := 22) dX13_homes_17 (by decide) (fun hc => ?_) (fun hc => ?_)
      · have h := h.1 hc
        refine r_iconst dX13_homes_22 (by decide) ?_
        refine r_istore_n (ls2 := [(21, 92), (0, v1), (0, r1), (0, (-1)), (9, 0), (9, 0), (9, 0), (9, 0), (9, 0), (9, 0)]) dX13_homes_23 (by decide) rfl ?_
        refine r_ldcw (v := 100000000) dX13_homes_24 lk_X13_625 (by decide) ?_
        refine r_istore (ls2 := [(21, 92), (0, v1), (0, r1), (0, (-1)), (0, 100000000), (9, 0), (9, 0), (9, 0), (9, 0), (9, 0)]) dX13_homes_27 (by decide) rfl ?_
        refine r_iconst dX13_homes_29 (by decide) ?_
        refine r_istore (ls2 := [(21, 92), (0, v1), (0, r1), (0, (-1)), (0, 100000000), (0, 1), (9, 0), (9, 0), (9, 0), (9, 0)]) dX13_homes_30 (by decide) rfl ?_
        exact r_fgt [true, false, true, true, true, true, false, false, false, false] rfl h
      · have h := h.2 hc
        refine r_iconst dX13_homes_20 (by decide) ?_
        exact r_iret dX13_homes_21 rfl h
  · have h := h.2 hc
    refine r_iload_n dX13_homes_9 rfl ?_
    exact r_iret dX13_homes_10 rfl h
abbrev P_X13_areLeftHolding_8 (g : GT) (e : Nat) (Q : Int → Sg → Prop) (s : Sg) (v1 : Int) (v2 : Int) : Prop := Wp g (e + 1) M_X13_areLeftHolding Q 8 [(21, 92), (0, v1), (0, v2)] [] s
set_option maxRecDepth 20000 in
theorem S_X13_areLeftHolding_8 {g : GT} {e : Nat} {Q : Int → Sg → Prop} {s : Sg} {v1 : Int} {v2 : Int} (h : ((0 ≤ (s 92 13) ∧ (s 92 13) < 2) ∧ (((s 97 (s 92 13)) ≤ v2 → (Mw g e M_X13_allHold [(21, 92), (0, 1), (0, v1)] s (fun r1 s2 => ((r1 = 0 ∨ r1 = 1) ∧ Q r1 s2)))) ∧ (¬ (s 97 (s 92 13)) ≤ v2 → (Mw g e M_X13_inWall [(21, 92), (0, 0), (0, v2)] s (fun r3 s4 => ((¬ r3 = v1 → P_X13_areLeftHolding_8 g e Q s4 v1 (w32 (v2 + 1))) ∧ (r3 = v1 → (Mw g e M_X13_course [(21, 92), (0, 0), (0, v2)] s4 (fun r5 s6 => (Mw g e M_X13_column [(21, 92), (0, 0), (0, v2)] s6 (fun r7 s8 => ((0 ≤ r7 ∧ r7 < 4) ∧ ((r5 < (s8 140 r7) → P_X13_areLeftHolding_8 g e Q s8 v1 (w32 (v2 + 1))) ∧ (¬ r5 < (s8 140 r7) → ((0 ≤ (w32 (8 + v2)) ∧ (w32 (8 + v2)) < 184) ∧ ∀ s9, s9 = ups s8 126 (w32 (8 + v2)) (-1) → P_X13_areLeftHolding_8 g e Q s9 v1 (w32 (v2 + 1)))))))))))))))))) : P_X13_areLeftHolding_8 g e Q s v1 v2 := by
  refine r_iload_n dX13_areLeftHolding_8 rfl ?_
  refine r_aload_n dX13_areLeftHolding_9 rfl rfl ?_
  refine gf_X13_63 rfl dX13_areLeftHolding_10 ?_
  refine r_aload_n dX13_areLeftHolding_13 rfl rfl ?_
  refine gf_X13_51 rfl dX13_areLeftHolding_14 ?_
  obtain ⟨hb, h⟩ := h
  refine r_iald (n := 2) rfl (by decide) dX13_areLeftHolding_17 hb ?_
  refine r_icmp_ge (tgt := 67) dX13_areLeftHolding_18 (by decide) (fun hc => ?_) (fun hc => ?_)
  · have h := h.1 hc
    refine r_aload_n dX13_areLeftHolding_67 rfl rfl ?_
    refine r_iconst dX13_areLeftHolding_68 (by decide) ?_
    refine r_iload_n dX13_areLeftHolding_69 rfl ?_
    refine r_callV (ci := 11) (As := [(0, 1), (0, v1)]) (st := []) (by decide) ok_X13_550 rfl rfl (Nat.le_of_ble_eq_true rfl) dX13_areLeftHolding_70 h (fun r1 s2 hv h => ?_)
    exact r_zret dX13_areLeftHolding_73 rfl h.1 h.2
  · have h := h.2 hc
    refine r_aload_n dX13_areLeftHolding_21 rfl rfl ?_
    refine r_iconst dX13_areLeftHolding_22 (by decide) ?_
    refine r_iload_n dX13_areLeftHolding_23 rfl ?_
    refine r_callV (ci := 11) (As := [(0, 0), (0, v2)]) (st := []) (by decide) ok_X13_507 rfl rfl (Nat.le_of_ble_eq_true rfl) dX13_areLeftHolding_24 h (fun r3 s4 hv h => ?_)
    refine r_iload_n dX13_areLeftHolding_27 rfl ?_
    refine r_icmp_ne (tgt := 61) dX13_areLeftHolding_28 (by decide) (fun hc => ?_) (fun hc => ?_)
    · have h := h.1 hc
      refine r_iinc (ls2 := [(21, 92), (0, v1), (0, (w32 (v2 + 1)))]) dX13_areLeftHolding_61 rfl (by decide) rfl ?_
      refine r_goto (tgt := 8) dX13_areLeftHolding_64 (by decide) ?_
      exact h
    · have h := h.2 hc
      refine r_aload_n dX13_areLeftHolding_31 rfl rfl ?_
      refine r_iconst dX13_areLeftHolding_32 (by decide) ?_
      refine r_iload_n dX13_areLeftHolding_33 rfl ?_
      refine r_callV (ci := 11) (As := [(0, 0), (0, v2)]) (st := []) (by decide) ok_X13_513 rfl rfl (Nat.le_of_ble_eq_true rfl) dX13_areLeftHolding_34 h (fun r5 s6 hv h => ?_)
      refine r_aload_n dX13_areLeftHolding_37 rfl rfl ?_
      refine gf_X13_237 rfl dX13_areLeftHolding_38 ?_
      refine r_aload_n dX13_areLeftHolding_41 rfl rfl ?_
      refine r_iconst dX13_areLeftHolding_42 (by decide) ?_
      refine r_iload_n dX13_areLeftHolding_43 rfl ?_
      refine r_callV (ci := 11) (As := [(0, 0), (0, v2)]) (st := [(35, 140), (0, r5)]) (by decide) ok_X13_510 rfl rfl (Nat.le_of_ble_eq_true rfl) dX13_areLeftHolding_44 h (fun r7 s8 hv h => ?_)
      obtain ⟨hb, h⟩ := h
      refine r_iald (n := 4) rfl (by decide) dX13_areLeftHolding_47 hb ?_
      refine r_icmp_lt (tgt := 61) dX13_areLeftHolding_48 (by decide) (fun hc => ?_) (fun hc => ?_)
      · have h := h.1 hc
        refine r_iinc (ls2 := [(21, 92), (0, v1), (0, (w32 (v2 + 1)))]) dX13_areLeftHolding_61 rfl (by decide) rfl ?_
        refine r_goto (tgt := 8) dX13_areLeftHolding_64 (by decide) ?_
        exact h
      · have h := h.2 hc
        refine r_aload_n dX13_areLeftHolding_51 rfl rfl ?_
        refine gf_X13_174 rfl dX13_areLeftHolding_52 ?_
        refine r_bipush dX13_areLeftHolding_55 (by decide) rfl ?_
        refine r_iload_n dX13_areLeftHolding_57 rfl ?_
        refine r_iadd dX13_areLeftHolding_58 ?_
        refine r_iconst dX13_areLeftHolding_59 (by decide) ?_
        obtain ⟨hb, h⟩ := h
        refine r_iast (n := 184) rfl (by decide) dX13_areLeftHolding_60 hb ?_
        have h := h _ rfl
        generalize hs_s9 : ups s8 126 (w32 (8 + v2)) (-1) = s9 at h ⊢
        refine r_iinc (ls2 := [(21, 92), (0, v1), (0, (w32 (v2 + 1)))]) dX13_areLeftHolding_61 rfl (by decide) rfl ?_
        refine r_goto (tgt := 8) dX13_areLeftHolding_64 (by decide) ?_
        exact h
set_option maxRecDepth 20000 in
theorem S_X13_areLeftHolding {g : GT} {e : Nat} {Q : Int → Sg → Prop} {s : Sg} {v1 : Int} (h : inR v1 → (Mw g e M_X13_copies [(21, 92), (0, 1), (0, 0)] s (fun _ s2 => P_X13_areLeftHolding_8 g e Q s2 v1 0))) : Mw g (e + 1) M_X13_areLeftHolding [(21, 92), (0, v1)] s Q := by
  refine Mw.of (ls := [(21, 92), (0, v1), (9, 0)]) pn_X13_areLeftHolding (Nat.le_of_ble_eq_true rfl) rfl (fun hv => ?_)
  have h := h (hv _ (List.Mem.tail _ (List.Mem.head _)))
  refine r_aload_n dX13_areLeftHolding_0 rfl rfl ?_
  refine r_iconst dX13_areLeftHolding_1 (by decide) ?_
  refine r_iconst dX13_areLeftHolding_2 (by decide) ?_
  refine r_callV (ci := 11) (As := [(0, 1), (0, 0)]) (st := []) (by decide) ok_X13_461 rfl rfl (Nat.le_of_ble_eq_true rfl) dX13_areLeftHolding_3 h (fun r1 s2 hv h => ?_)
  refine r_iconst dX13_areLeftHolding_6 (by decide) ?_
  refine r_istore_n (ls2 := [(21, 92), (0, v1), (0, 0)]) dX13_areLeftHolding_7 (by decide) rfl ?_
  exact h
abbrev P_X13_pulling_14 (g : GT) (e : Nat) (Q : Int → Sg → Prop) (s : Sg) (v1 : Int) (v2 : Int) (v3 : Int) : Prop := Wp g (e + 1) M_X13_pulling Q 14 [(21, 92), (0, v1), (0, v2), (0, v3), (9, 0), (9, 0), (9, 0), (9, 0), (9, 0), (9, 0)] [] s
abbrev P_X13_pulling_38 (g : GT) (e : Nat) (Q : Int → Sg → Prop) (s : Sg) (v1 : Int) (v2 : Int) (v3 : Int) : Prop := Wp g (e + 1) M_X13_pulling Q 38 [(21, 92), (0, v1), (0, v2), (0, v3), (9, 0), (9, 0), (9, 0), (9, 0), (9, 0), (9, 0)] [] s
abbrev P_X13_pulling_52 (g : GT) (e : Nat) (Q : Int → Sg → Prop) (s : Sg) (v1 : Int) (v2 : Int) (v3 : Int) (v4 : Int) (v5 : Int) (v6 : Int) : Prop := Wp g (e + 1) M_X13_pulling Q 52 [(21, 92), (0, v1), (0, v2), (0, v3), (0, v4), (0, v5), (0, v6), (9, 0), (9, 0), (9, 0)] [] s
abbrev P_X13_pulling_105 (g : GT) (e : Nat) (Q : Int → Sg → Prop) (s : Sg) (v1 : Int) (v2 : Int) (v3 : Int) (v4 : Int) (v5 : Int) (v6 : Int) (v8 : Int) (v9 : Int) : Prop := Wp g (e + 1) M_X13_pulling Q 105 [(21, 92), (0, v1), (0, v2), (0, v3), (0, v4), (0, v5), (0, v6), (9, 0), (0, v8), (0, v9)] [] s
set_option maxRecDepth 20000 in
theorem S_X13_pulling_14 {g : GT} {e : Nat} {Q : Int → Sg → Prop} {s : Sg} {v1 : Int} {v2 : Int} {v3 : Int} (h : ((v3 < 0 → P_X13_pulling_38 g e Q s v1 v2 0) ∧ (¬ v3 < 0 → (Mw g e M_X13_tall [(21, 92), (0, 0), (0, v1), (0, v3)] s (fun r1 s2 => P_X13_pulling_14 g e Q s2 v1 (w32 ((w32 (5 * v2)) + r1)) (w32 (v3 + (-1)))))))) : P_X13_pulling_14 g e Q s v1 v2 v3 := by
  refine r_iload_n dX13_pulling_14 rfl ?_
  refine r_if_lt (tgt := 36) dX13_pulling_15 (by decide) (fun hc => ?_) (fun hc => ?_)
  · have h := h.1 hc
    refine r_iconst dX13_pulling_36 (by decide) ?_
    refine r_istore_n (ls2 := [(21, 92), (0, v1), (0, v2), (0, 0), (9, 0), (9, 0), (9, 0), (9, 0), (9, 0), (9, 0)]) dX13_pulling_37 (by decide) rfl ?_
    exact h
  · have h := h.2 hc
    refine r_iconst dX13_pulling_18 (by decide) ?_
    refine r_iload_n dX13_pulling_19 rfl ?_
    refine r_imul dX13_pulling_20 ?_
    refine r_aload_n dX13_pulling_21 rfl rfl ?_
    refine r_iconst dX13_pulling_22 (by decide) ?_
    refine r_iload_n dX13_pulling_23 rfl ?_
    refine r_iload_n dX13_pulling_24 rfl ?_
    refine r_callV (ci := 11) (As := [(0, 0), (0, v1), (0, v3)]) (st := [(0, (w32 (5 * v2)))]) (by decide) ok_X13_516 rfl rfl (Nat.le_of_ble_eq_true rfl) dX13_pulling_25 h (fun r1 s2 hv h => ?_)
    refine r_iadd dX13_pulling_28 ?_
    refine r_istore_n (ls2 := [(21, 92), (0, v1), (0, (w32 ((w32 (5 * v2)) + r1))), (0, v3), (9, 0), (9, 0), (9, 0), (9, 0), (9, 0), (9, 0)]) dX13_pulling_29 (by decide) rfl ?_
    refine r_iinc (ls2 := [(21, 92), (0, v1), (0, (w32 ((w32 (5 * v2)) + r1))), (0, (w32 (v3 + (-1)))), (9, 0), (9, 0), (9, 0), (9, 0), (9, 0), (9, 0)]) dX13_pulling_30 rfl (by decide) rfl ?_
    refine r_goto (tgt := 14) dX13_pulling_33 (by decide) ?_
    exact h
set_option maxRecDepth 20000 in
theorem S_X13_pulling_38 {g : GT} {e : Nat} {Q : Int → Sg → Prop} {s : Sg} {v1 : Int} {v2 : Int} {v3 : Int} (h : ((v2 < v3 → ((0 ≤ v2 ∧ v2 < 625) ∧ (((s 139 v2) = 0 → Q 0 s) ∧ (¬ (s 139 v2) = 0 → Q 1 s)))) ∧ (¬ v2 < v3 → P_X13_pulling_52 g e Q s v1 v2 v3 1 0 0))) : P_X13_pulling_38 g e Q s v1 v2 v3 := by
  refine r_iload_n dX13_pulling_38 rfl ?_
  refine r_iload_n dX13_pulling_39 rfl ?_
  refine r_icmp_gt (tgt := 180) dX13_pulling_40 (by decide) (fun hc => ?_) (fun hc => ?_)
  · have h := h.1 hc
    refine r_aload_n dX13_pulling_180 rfl rfl ?_
    refine gf_X13_234 rfl dX13_pulling_181 ?_
    refine r_iload_n dX13_pulling_184 rfl ?_
    obtain ⟨hb, h⟩ := h
    refine r_zald (n := 625) rfl (by decide) dX13_pulling_185 hb ?_
    refine r_if_eq (tgt := 193) dX13_pulling_186 (by decide) (fun hc => ?_) (fun hc => ?_)
    · have h := h.1 hc
      refine r_iconst dX13_pulling_193 (by decide) ?_
      exact r_iret dX13_pulling_194 rfl h
    · have h := h.2 hc
      refine r_iconst dX13_pulling_189 (by decide) ?_
      refine r_goto (tgt := 194) dX13_pulling_190 (by decide) ?_
      exact r_iret dX13_pulling_194 rfl h
  · have h := h.2 hc
    refine r_iconst dX13_pulling_43 (by decide) ?_
    refine r_istore (ls2 := [(21, 92), (0, v1), (0, v2), (0, v3), (0, 1), (9, 0), (9, 0), (9, 0), (9, 0), (9, 0)]) dX13_pulling_44 (by decide) rfl ?_
    refine r_iconst dX13_pulling_46 (by decide) ?_
    refine r_istore (ls2 := [(21, 92), (0, v1), (0, v2), (0, v3), (0, 1), (0, 0), (9, 0), (9, 0), (9, 0), (9, 0)]) dX13_pulling_47 (by decide) rfl ?_
    refine r_iconst dX13_pulling_49 (by decide) ?_
    refine r_istore (ls2 := [(21, 92), (0, v1), (0, v2), (0, v3), (0, 1), (0, 0), (0, 0), (9, 0), (9, 0), (9, 0)]) dX13_pulling_50 (by decide) rfl ?_
    exact h
set_option maxRecDepth 20000 in
theorem S_X13_pulling_52 {g : GT} {e : Nat} {Q : Int → Sg → Prop} {s : Sg} {v1 : Int} {v2 : Int} {v3 : Int} {v4 : Int} {v5 : Int} {v6 : Int} (h : ((4 ≤ v6 → ((0 ≤ v3 ∧ v3 < 625) ∧ (v5 = 0 ∨ v5 = 1) ∧ ∀ s1, s1 = ups s 139 v3 v5 → P_X13_pulling_38 g e Q s1 v1 v2 (w32 (v3 + 1)))) ∧ (¬ 4 ≤ v6 → ((¬ v4 = 0) ∧ (((Int.tmod (w32 (Int.tdiv v3 v4)) 5) ≤ 0 → P_X13_pulling_52 g e Q s v1 v2 v3 (w32 (v4 * 5)) v5 (w32 (v6 + 1))) ∧ (¬ (Int.tmod (w32 (Int.tdiv v3 v4)) 5) ≤ 0 → (Mw g e M_X13_tall [(21, 92), (0, 0), (0, v1), (0, v6)] s (fun r2 s3 => ((r2 < (Int.tmod (w32 (Int.tdiv v3 v4)) 5) → P_X13_pulling_52 g e Q s3 v1 v2 v3 (w32 (v4 * 5)) v5 (w32 (v6 + 1))) ∧ (¬ r2 < (Int.tmod (w32 (Int.tdiv v3 v4)) 5) → ((0 ≤ (w32 (v3 - v4)) ∧ (w32 (v3 - v4)) < 625) ∧ ((¬ (s3 139 (w32 (v3 - v4))) = 0 → P_X13_pulling_52 g e Q s3 v1 v2 v3 (w32 (v4 * 5)) v5 (w32 (v6 + 1))) ∧ ((s3 139 (w32 (v3 - v4))) = 0 → P_X13_pulling_105 g e Q s3 v1 v2 v3 v4 v5 v6 (w32 (v3 - v4)) 0))))))))))))) : P_X13_pulling_52 g e Q s v1 v2 v3 v4 v5 v6 := by
  refine r_iload dX13_pulling_52 rfl ?_
  refine r_iconst dX13_pulling_54 (by decide) ?_
  refine r_icmp_ge (tgt := 166) dX13_pulling_55 (by decide) (fun hc => ?_) (fun hc => ?_)
  · have h := h.1 hc
    refine r_aload_n dX13_pulling_166 rfl rfl ?_
    refine gf_X13_234 rfl dX13_pulling_167 ?_
    refine r_iload_n dX13_pulling_170 rfl ?_
    refine r_iload dX13_pulling_171 rfl ?_
    obtain ⟨hb, h⟩ := h
    obtain ⟨hz, h⟩ := h
    refine r_zast (n := 625) rfl (by decide) dX13_pulling_173 hb hz ?_
    have h := h _ rfl
    generalize hs_s1 : ups s 139 v3 v5 = s1 at h ⊢
    refine r_iinc (ls2 := [(21, 92), (0, v1), (0, v2), (0, (w32 (v3 + 1))), (0, v4), (0, v5), (0, v6), (9, 0), (9, 0), (9, 0)]) dX13_pulling_174 rfl (by decide) rfl ?_
    refine r_goto (tgt := 38) dX13_pulling_177 (by decide) ?_
    exact r_fgt [true, true, true, true, false, false, false, false, false, false] rfl h
  · have h := h.2 hc
    refine r_iload_n dX13_pulling_58 rfl ?_
    refine r_iload dX13_pulling_59 rfl ?_
    obtain ⟨hz, h⟩ := h
    refine r_idiv dX13_pulling_61 hz ?_
    refine r_iconst dX13_pulling_62 (by decide) ?_
    refine r_irem dX13_pulling_63 (by decide) ?_
    refine r_istore (ls2 := [(21, 92), (0, v1), (0, v2), (0, v3), (0, v4), (0, v5), (0, v6), (0, (Int.tmod (w32 (Int.tdiv v3 v4)) 5)), (9, 0), (9, 0)]) dX13_pulling_64 (by decide) rfl ?_
    refine r_iload dX13_pulling_66 rfl ?_
    refine r_if_le (tgt := 154) dX13_pulling_68 (by decide) (fun hc => ?_) (fun hc => ?_)
    · have h := h.1 hc
      refine r_iload dX13_pulling_154 rfl ?_
      refine r_iconst dX13_pulling_156 (by decide) ?_
      refine r_imul dX13_pulling_157 ?_
      refine r_istore (ls2 := [(21, 92), (0, v1), (0, v2), (0, v3), (0, (w32 (v4 * 5))), (0, v5), (0, v6), (0, (Int.tmod (w32 (Int.tdiv v3 v4)) 5)), (9, 0), (9, 0)]) dX13_pulling_158 (by decide) rfl ?_
      refine r_iinc (ls2 := [(21, 92), (0, v1), (0, v2), (0, v3), (0, (w32 (v4 * 5))), (0, v5), (0, (w32 (v6 + 1))), (0, (Int.tmod (w32 (Int.tdiv v3 v4)) 5)), (9, 0), (9, 0)]) dX13_pulling_160 rfl (by decide) rfl ?_
      refine r_goto (tgt := 52) dX13_pulling_163 (by decide) ?_
      exact r_fgt [true, true, true, true, true, true, true, false, false, false] rfl h
    · have h := h.2 hc
      refine r_iload dX13_pulling_71 rfl ?_
      refine r_aload_n dX13_pulling_73 rfl rfl ?_
      refine r_iconst dX13_pulling_74 (by decide) ?_
      refine r_iload_n dX13_pulling_75 rfl ?_
      refine r_iload dX13_pulling_76 rfl ?_
      refine r_callV (ci := 11) (As := [(0, 0), (0, v1), (0, v6)]) (st := [(0, (Int.tmod (w32 (Int.tdiv v3 v4)) 5))]) (by decide) ok_X13_516 rfl rfl (Nat.le_of_ble_eq_true rfl) dX13_pulling_78 h (fun r2 s3 hv h => ?_)
      refine r_icmp_gt (tgt := 154) dX13_pulling_81 (by decide) (fun hc => ?_) (fun hc => ?_)
      · have h := h.1 hc
        refine r_iload dX13_pulling_154 rfl ?_
        refine r_iconst dX13_pulling_156 (by decide) ?_
        refine r_imul dX13_pulling_157 ?_
        refine r_istore (ls2 := [(21, 92), (0, v1), (0, v2), (0, v3), (0, (w32 (v4 * 5))), (0, v5), (0, v6), (0, (Int.tmod (w32 (Int.tdiv v3 v4)) 5)), (9, 0), (9, 0)]) dX13_pulling_158 (by decide) rfl ?_
        refine r_iinc (ls2 := [(21, 92), (0, v1), (0, v2), (0, v3), (0, (w32 (v4 * 5))), (0, v5), (0, (w32 (v6 + 1))), (0, (Int.tmod (w32 (Int.tdiv v3 v4)) 5)), (9, 0), (9, 0)]) dX13_pulling_160 rfl (by decide) rfl ?_
        refine r_goto (tgt := 52) dX13_pulling_163 (by decide) ?_
        exact r_fgt [true, true, true, true, true, true, true, false, false, false] rfl h
      · have h := h.2 hc
        refine r_aload_n dX13_pulling_84 rfl rfl ?_
        refine gf_X13_234 rfl dX13_pulling_85 ?_
        refine r_iload_n dX13_pulling_88 rfl ?_
        refine r_iload dX13_pulling_89 rfl ?_
        refine r_isub dX13_pulling_91 ?_
        obtain ⟨hb, h⟩ := h
        refine r_zald (n := 625) rfl (by decide) dX13_pulling_92 hb ?_
        refine r_if_ne (tgt := 154) dX13_pulling_93 (by decide) (fun hc => ?_) (fun hc => ?_)
        · have h := h.1 hc
          refine r_iload dX13_pulling_154 rfl ?_
          refine r_iconst dX13_pulling_156 (by decide) ?_
          refine r_imul dX13_pulling_157 ?_
          refine r_istore (ls2 := [(21, 92), (0, v1), (0, v2), (0, v3), (0, (w32 (v4 * 5))), (0, v5), (0, v6), (0, (Int.tmod (w32 (Int.tdiv v3 v4)) 5)), (9, 0), (9, 0)]) dX13_pulling_158 (by decide) rfl ?_
          refine r_iinc (ls2 := [(21, 92), (0, v1), (0, v2), (0, v3), (0, (w32 (v4 * 5))), (0, v5), (0, (w32 (v6 + 1))), (0, (Int.tmod (w32 (Int.tdiv v3 v4)) 5)), (9, 0), (9, 0)]) dX13_pulling_160 rfl (by decide) rfl ?_
          refine r_goto (tgt := 52) dX13_pulling_163 (by decide) ?_
          exact r_fgt [true, true, true, true, true, true, true, false, false, false] rfl h
        · have h := h.2 hc
          refine r_iload_n dX13_pulling_96 rfl ?_
          refine r_iload dX13_pulling_97 rfl ?_
          refine r_isub dX13_pulling_99 ?_
          refine r_istore (ls2 := [(21, 92), (0, v1), (0, v2), (0, v3), (0, v4), (0, v5), (0, v6), (0, (Int.tmod (w32 (Int.tdiv v3 v4)) 5)), (0, (w32 (v3 - v4))), (9, 0)]) dX13_pulling_100 (by decide) rfl ?_
          refine r_iconst dX13_pulling_102 (by decide) ?_
          refine r_istore (ls2 := [(21, 92), (0, v1), (0, v2), (0, v3), (0, v4), (0, v5), (0, v6), (0, (Int.tmod (w32 (Int.tdiv v3 v4)) 5)), (0, (w32 (v3 - v4))), (0, 0)]) dX13_pulling_103 (by decide) rfl ?_
          exact r_fgt [true, true, true, true, true, true, true, false, true, true] rfl h
set_option maxRecDepth 20000 in
theorem S_X13_pulling_105 {g : GT} {e : Nat} {Q : Int → Sg → Prop} {s : Sg} {v1 : Int} {v2 : Int} {v3 : Int} {v4 : Int} {v5 : Int} {v6 : Int} {v8 : Int} {v9 : Int} (h : ((4 ≤ v9 → ((¬ v5 = 0 → P_X13_pulling_52 g e Q s v1 v2 v3 (w32 (v4 * 5)) 1 (w32 (v6 + 1))) ∧ (v5 = 0 → (Mw g e M_X13_areLeftHolding [(21, 92), (0, v1)] s (fun r1 s2 => ((r1 = 0 → P_X13_pulling_52 g e Q s2 v1 v2 v3 (w32 (v4 * 5)) 0 (w32 (v6 + 1))) ∧ (¬ r1 = 0 → P_X13_pulling_52 g e Q s2 v1 v2 v3 (w32 (v4 * 5)) 1 (w32 (v6 + 1))))))))) ∧ (¬ 4 ≤ v9 → ((0 ≤ v9 ∧ v9 < 4) ∧ ∀ s3, s3 = ups s 140 v9 (Int.tmod v8 5) → P_X13_pulling_105 g e Q s3 v1 v2 v3 v4 v5 v6 (w32 (Int.tdiv v8 5)) (w32 (v9 + 1)))))) : P_X13_pulling_105 g e Q s v1 v2 v3 v4 v5 v6 v8 v9 := by
  refine r_iload dX13_pulling_105 rfl ?_
  refine r_iconst dX13_pulling_107 (by decide) ?_
  refine r_icmp_ge (tgt := 134) dX13_pulling_108 (by decide) (fun hc => ?_) (fun hc => ?_)
  · have h := h.1 hc
    refine r_iload dX13_pulling_134 rfl ?_
    refine r_if_ne (tgt := 147) dX13_pulling_136 (by decide) (fun hc => ?_) (fun hc => ?_)
    · have h := h.1 hc
      refine r_iconst dX13_pulling_147 (by decide) ?_
      refine r_goto (tgt := 152) dX13_pulling_148 (by decide) ?_
      refine r_istore (ls2 := [(21, 92), (0, v1), (0, v2), (0, v3), (0, v4), (0, 1), (0, v6), (9, 0), (0, v8), (0, v9)]) dX13_pulling_152 (by decide) rfl ?_
      refine r_iload dX13_pulling_154 rfl ?_
      refine r_iconst dX13_pulling_156 (by decide) ?_
      refine r_imul dX13_pulling_157 ?_
      refine r_istore (ls2 := [(21, 92), (0, v1), (0, v2), (0, v3), (0, (w32 (v4 * 5))), (0, 1), (0, v6), (9, 0), (0, v8), (0, v9)]) dX13_pulling_158 (by decide) rfl ?_
      refine r_iinc (ls2 := [(21, 92), (0, v1), (0, v2), (0, v3), (0, (w32 (v4 * 5))), (0, 1), (0, (w32 (v6 + 1))), (9, 0), (0, v8), (0, v9)]) dX13_pulling_160 rfl (by decide) rfl ?_
      refine r_goto (tgt := 52) dX13_pulling_163 (by decide) ?_
      exact r_fgt [true, true, true, true, true, true, true, false, false, false] rfl h
    · have h := h.2 hc
      refine r_aload_n dX13_pulling_139 rfl rfl ?_
      refine r_iload_n dX13_pulling_140 rfl ?_
      refine r_callV (ci := 11) (As := [(0, v1)]) (st := []) (by decide) ok_X13_626 rfl rfl (Nat.le_of_ble_eq_true rfl) dX13_pulling_141 h (fun r1 s2 hv h => ?_)
      refine r_if_eq (tgt := 151) dX13_pulling_144 (by decide) (fun hc => ?_) (fun hc => ?_)
      · have h := h.1 hc
        refine r_iconst dX13_pulling_151 (by decide) ?_
        refine r_istore (ls2 := [(21, 92), (0, v1), (0, v2), (0, v3), (0, v4), (0, 0), (0, v6), (9, 0), (0, v8), (0, v9)]) dX13_pulling_152 (by decide) rfl ?_
        refine r_iload dX13_pulling_154 rfl ?_
        refine r_iconst dX13_pulling_156 (by decide) ?_
        refine r_imul dX13_pulling_157 ?_
        refine r_istore (ls2 := [(21, 92), (0, v1), (0, v2), (0, v3), (0, (w32 (v4 * 5))), (0, 0), (0, v6), (9, 0), (0, v8), (0, v9)]) dX13_pulling_158 (by decide) rfl ?_
        refine r_iinc (ls2 := [(21, 92), (0, v1), (0, v2), (0, v3), (0, (w32 (v4 * 5))), (0, 0), (0, (w32 (v6 + 1))), (9, 0), (0, v8), (0, v9)]) dX13_pulling_160 rfl (by decide) rfl ?_
        refine r_goto (tgt := 52) dX13_pulling_163 (by decide) ?_
        exact r_fgt [true, true, true, true, true, true, true, false, false, false] rfl h
      · have h := h.2 hc
        refine r_iconst dX13_pulling_147 (by decide) ?_
        refine r_goto (tgt := 152) dX13_pulling_148 (by decide) ?_
        refine r_istore (ls2 := [(21, 92), (0, v1), (0, v2), (0, v3), (0, v4), (0, 1), (0, v6), (9, 0), (0, v8), (0, v9)]) dX13_pulling_152 (by decide) rfl ?_
        refine r_iload dX13_pulling_154 rfl ?_
        refine r_iconst dX13_pulling_156 (by decide) ?_
        refine r_imul dX13_pulling_157 ?_
        refine r_istore (ls2 := [(21, 92), (0, v1), (0, v2), (0, v3), (0, (w32 (v4 * 5))), (0, 1), (0, v6), (9, 0), (0, v8), (0, v9)]) dX13_pulling_158 (by decide) rfl ?_
        refine r_iinc (ls2 := [(21, 92), (0, v1), (0, v2), (0, v3), (0, (w32 (v4 * 5))), (0, 1), (0, (w32 (v6 + 1))), (9, 0), (0, v8), (0, v9)]) dX13_pulling_160 rfl (by decide) rfl ?_
        refine r_goto (tgt := 52) dX13_pulling_163 (by decide) ?_
        exact r_fgt [true, true, true, true, true, true, true, false, false, false] rfl h
  · have h := h.2 hc
    refine r_aload_n dX13_pulling_111 rfl rfl ?_
    refine gf_X13_237 rfl dX13_pulling_112 ?_
    refine r_iload dX13_pulling_115 rfl ?_
    refine r_iload dX13_pulling_117 rfl ?_
    refine r_iconst dX13_pulling_119 (by decide) ?_
    refine r_irem dX13_pulling_120 (by decide) ?_
    obtain ⟨hb, h⟩ := h
    refine r_iast (n := 4) rfl (by decide) dX13_pulling_121 hb ?_
    have h := h _ rfl
    generalize hs_s3 : ups s 140 v9 (Int.tmod v8 5) = s3 at h ⊢
    refine r_iload dX13_pulling_122 rfl ?_
    refine r_iconst dX13_pulling_124 (by decide) ?_
    refine r_idiv dX13_pulling_125 (by decide) ?_
    refine r_istore (ls2 := [(21, 92), (0, v1), (0, v2), (0, v3), (0, v4), (0, v5), (0, v6), (9, 0), (0, (w32 (Int.tdiv v8 5))), (0, v9)]) dX13_pulling_126 (by decide) rfl ?_
    refine r_iinc (ls2 := [(21, 92), (0, v1), (0, v2), (0, v3), (0, v4), (0, v5), (0, v6), (9, 0), (0, (w32 (Int.tdiv v8 5))), (0, (w32 (v9 + 1)))]) dX13_pulling_128 rfl (by decide) rfl ?_
    refine r_goto (tgt := 105) dX13_pulling_131 (by decide) ?_
    exact h
set_option maxRecDepth 20000 in
theorem S_X13_pulling {g : GT} {e : Nat} {Q : Int → Sg → Prop} {s : Sg} {v1 : Int} (h : inR v1 → (Mw g e M_X13_isWall [(21, 92), (0, v1)] s (fun r1 s2 => ((¬ r1 = 0 → P_X13_pulling_14 g e Q s2 v1 0 3) ∧ (r1 = 0 → Q (-1) s2))))) : Mw g (e + 1) M_X13_pulling [(21, 92), (0, v1)] s Q := by
  refine Mw.of (ls := [(21, 92), (0, v1), (9, 0), (9, 0), (9, 0), (9, 0), (9, 0), (9, 0), (9, 0), (9, 0)]) pn_X13_pulling (Nat.le_of_ble_eq_true rfl) rfl (fun hv => ?_)
  have h := h (hv _ (List.Mem.tail _ (List.Mem.head _)))
  refine r_aload_n dX13_pulling_0 rfl rfl ?_
  refine r_iload_n dX13_pulling_1 rfl ?_
  refine r_callV (ci := 11) (As := [(0, v1)]) (st := []) (by decide) ok_X13_594 rfl rfl (Nat.le_of_ble_eq_true rfl) dX13_pulling_2 h (fun r1 s2 hv h => ?_)
  refine r_if_ne (tgt := 10) dX13_pulling_5 (by decide) (fun hc => ?_) (fun hc => ?_)
  · have h := h.1 hc
    refine r_iconst dX13_pulling_10 (by decide) ?_
    refine r_istore_n (ls2 := [(21, 92), (0, v1), (0, 0), (9, 0), (9, 0), (9, 0), (9, 0), (9, 0), (9, 0), (9, 0)]) dX13_pulling_11 (by decide) rfl ?_
    refine r_iconst dX13_pulling_12 (by decide) ?_
    refine r_istore_n (ls2 := [(21, 92), (0, v1), (0, 0), (0, 3), (9, 0), (9, 0), (9, 0), (9, 0), (9, 0), (9, 0)]) dX13_pulling_13 (by decide) rfl ?_
    exact h
  · have h := h.2 hc
    refine r_iconst dX13_pulling_8 (by decide) ?_
    exact r_iret dX13_pulling_9 rfl h
abbrev P_X13_years_25 (g : GT) (e : Nat) (Q : Int → Sg → Prop) (s : Sg) (v1 : Int) (v2 : Int) (v3 : Int) : Prop := Wp g (e + 1) M_X13_years Q 25 [(21, 92), (0, v1), (0, v2), (0, v3)] [] s
set_option maxRecDepth 20000 in
theorem S_X13_years_25 {g : GT} {e : Nat} {Q : Int → Sg → Prop} {s : Sg} {v1 : Int} {v2 : Int} {v3 : Int} (h : ((v1 ≤ v3 → Q v2 s) ∧ (¬ v1 ≤ v3 → (Mw g e M_X13_passes [(21, 92), (0, 0), (0, 0)] s (fun _ s2 => P_X13_years_25 g e Q s2 v1 (w32 (v2 + (s2 92 63))) (w32 (v3 + 1))))))) : P_X13_years_25 g e Q s v1 v2 v3 := by
  refine r_iload_n dX13_years_25 rfl ?_
  refine r_iload_n dX13_years_26 rfl ?_
  refine r_icmp_ge (tgt := 49) dX13_years_27 (by decide) (fun hc => ?_) (fun hc => ?_)
  · have h := h.1 hc
    refine r_iload_n dX13_years_49 rfl ?_
    exact r_iret dX13_years_50 rfl h
  · have h := h.2 hc
    refine r_aload_n dX13_years_30 rfl rfl ?_
    refine r_iconst dX13_years_31 (by decide) ?_
    refine r_iconst dX13_years_32 (by decide) ?_
    refine r_callV (ci := 11) (As := [(0, 0), (0, 0)]) (st := []) (by decide) ok_X13_600 rfl rfl (Nat.le_of_ble_eq_true rfl) dX13_years_33 h (fun r1 s2 hv h => ?_)
    refine r_iload_n dX13_years_36 rfl ?_
    refine r_aload_n dX13_years_37 rfl rfl ?_
    refine gf_X13_204 rfl dX13_years_38 ?_
    refine r_iadd dX13_years_41 ?_
    refine r_istore_n (ls2 := [(21, 92), (0, v1), (0, (w32 (v2 + (s2 92 63)))), (0, v3)]) dX13_years_42 (by decide) rfl ?_
    refine r_iinc (ls2 := [(21, 92), (0, v1), (0, (w32 (v2 + (s2 92 63)))), (0, (w32 (v3 + 1)))]) dX13_years_43 rfl (by decide) rfl ?_
    refine r_goto (tgt := 25) dX13_years_46 (by decide) ?_
    exact h
set_option maxRecDepth 20000 in
theorem S_X13_years {g : GT} {e : Nat} {Q : Int → Sg → Prop} {s : Sg} {v1 : Int} (h : inR v1 → (Mw g e M_X13_isAhead [(21, 92), (0, v1), (0, 1), (0, 100)] s (fun r1 s2 => ((¬ r1 = 0 → (Mw g e M_X13_keeps [(21, 92)] s2 (fun _ s4 => P_X13_years_25 g e Q s4 v1 0 0))) ∧ (r1 = 0 → (Mw g e M_X13_refuses [(21, 92), (0, 2)] s2 (fun r5 s6 => Q r5 s6))))))) : Mw g (e + 1) M_X13_years [(21, 92), (0, v1)] s Q := by
  refine Mw.of (ls := [(21, 92), (0, v1), (9, 0), (9, 0)]) pn_X13_years (Nat.le_of_ble_eq_true rfl) rfl (fun hv => ?_)
  have h := h (hv _ (List.Mem.tail _ (List.Mem.head _)))
  refine r_aload_n dX13_years_0 rfl rfl ?_
  refine r_iload_n dX13_years_1 rfl ?_
  refine r_iconst dX13_years_2 (by decide) ?_
  refine r_bipush dX13_years_3 (by decide) rfl ?_
  refine r_callV (ci := 11) (As := [(0, v1), (0, 1), (0, 100)]) (st := []) (by decide) ok_X13_597 rfl rfl (Nat.le_of_ble_eq_true rfl) dX13_years_5 h (fun r1 s2 hv h => ?_)
  refine r_if_ne (tgt := 17) dX13_years_8 (by decide) (fun hc => ?_) (fun hc => ?_)
  · have h := h.1 hc
    refine r_aload_n dX13_years_17 rfl rfl ?_
    refine r_callV (ci := 11) (As := []) (st := []) (by decide) ok_X13_629 rfl rfl (Nat.le_of_ble_eq_true rfl) dX13_years_18 h (fun r3 s4 hv h => ?_)
    refine r_iconst dX13_years_21 (by decide) ?_
    refine r_istore_n (ls2 := [(21, 92), (0, v1), (0, 0), (9, 0)]) dX13_years_22 (by decide) rfl ?_
    refine r_iconst dX13_years_23 (by decide) ?_
    refine r_istore_n (ls2 := [(21, 92), (0, v1), (0, 0), (0, 0)]) dX13_years_24 (by decide) rfl ?_
    exact h
  · have h := h.2 hc
    refine r_aload_n dX13_years_11 rfl rfl ?_
    refine r_iconst dX13_years_12 (by decide) ?_
    refine r_callV (ci := 11) (As := [(0, 2)]) (st := []) (by decide) ok_X13_250 rfl rfl (Nat.le_of_ble_eq_true rfl) dX13_years_13 h (fun r5 s6 hv h => ?_)
    exact r_iret dX13_years_16 rfl h
set_option maxRecDepth 20000 in
theorem S_X13_draw {g : GT} {e : Nat} {Q : Int → Sg → Prop} {s : Sg} {v1 : Int} (h : inR v1 → (∀ s1, s1 = ups s 92 60 (Int.tmod (w64 ((w64 (1103515245 * (s 92 60))) + 12345)) 2147483648) → ((¬ v1 = 0) ∧ Q (w32 (Int.tmod (w64 (Int.tdiv (s1 92 60) 64)) v1)) s1))) : Mw g (e + 1) M_X13_draw [(21, 92), (0, v1)] s Q := by
  refine Mw.of (ls := [(21, 92), (0, v1)]) pn_X13_draw (Nat.le_of_ble_eq_true rfl) rfl (fun hv => ?_)
  have h := h (hv _ (List.Mem.tail _ (List.Mem.head _)))
  refine r_aload_n dX13_draw_0 rfl rfl ?_
  refine r_ldc2 (v := 1103515245) dX13_draw_1 lk_X13_632 (by decide) ?_
  refine r_aload_n dX13_draw_4 rfl rfl ?_
  refine gf_X13_195 rfl dX13_draw_5 ?_
  refine r_lmul dX13_draw_8 ?_
  refine r_ldc2 (v := 12345) dX13_draw_9 lk_X13_634 (by decide) ?_
  refine r_ladd dX13_draw_12 ?_
  refine r_ldc2 (v := 2147483648) dX13_draw_13 lk_X13_636 (by decide) ?_
  refine r_lrem dX13_draw_16 (by decide) ?_
  refine pf_X13_195 rfl dX13_draw_17 ?_
  have h := h _ rfl
  generalize hs_s1 : ups s 92 60 (Int.tmod (w64 ((w64 (1103515245 * (s 92 60))) + 12345)) 2147483648) = s1 at h ⊢
  refine r_aload_n dX13_draw_20 rfl rfl ?_
  refine gf_X13_195 rfl dX13_draw_21 ?_
  refine r_ldc2 (v := 64) dX13_draw_24 lk_X13_638 (by decide) ?_
  refine r_ldiv dX13_draw_27 (by decide) ?_
  refine r_iload_n dX13_draw_28 rfl ?_
  refine r_i2l dX13_draw_29 ?_
  obtain ⟨hz, h⟩ := h
  refine r_lrem dX13_draw_30 hz ?_
  refine r_l2i dX13_draw_31 ?_
  exact r_iret dX13_draw_32 rfl h
abbrev P_X13_chance_25 (g : GT) (e : Nat) (Q : Int → Sg → Prop) (s : Sg) (v1 : Int) (v2 : Int) (v3 : Int) : Prop := Wp g (e + 1) M_X13_chance Q 25 [(21, 92), (0, v1), (0, v2), (0, v3), (9, 0)] [] s
abbrev P_X13_chance_49 (g : GT) (e : Nat) (Q : Int → Sg → Prop) (s : Sg) (v1 : Int) (v2 : Int) (v3 : Int) (x0 : Int) : Prop := Wp g (e + 1) M_X13_chance Q 49 [(21, 92), (0, v1), (0, v2), (0, v3), (9, 0)] [(0, x0)] s
abbrev P_X13_chance_62 (g : GT) (e : Nat) (Q : Int → Sg → Prop) (s : Sg) (v1 : Int) (v3 : Int) (v4 : Int) (x0 : Int) (x1 : Int) : Prop := Wp g (e + 1) M_X13_chance Q 62 [(21, 92), (0, v1), (9, 0), (0, v3), (0, v4)] [(0, x1), (0, x0)] s
set_option maxRecDepth 20000 in
theorem S_X13_chance_25 {g : GT} {e : Nat} {Q : Int → Sg → Prop} {s : Sg} {v1 : Int} {v2 : Int} {v3 : Int} (h : ((v1 ≤ v3 → Q v2 s) ∧ (¬ v1 ≤ v3 → (Mw g e M_X13_draw [(21, 92), (0, 100)] s (fun r1 s2 => (Mw g e M_X13_toldOf [(21, 92), (0, 3)] s2 (fun r3 s4 => ((r3 ≤ r1 → P_X13_chance_49 g e Q s4 v1 v2 v3 0) ∧ (¬ r3 ≤ r1 → P_X13_chance_49 g e Q s4 v1 v2 v3 1))))))))) : P_X13_chance_25 g e Q s v1 v2 v3 := by
  refine r_iload_n dX13_chance_25 rfl ?_
  refine r_iload_n dX13_chance_26 rfl ?_
  refine r_icmp_ge (tgt := 77) dX13_chance_27 (by decide) (fun hc => ?_) (fun hc => ?_)
  · have h := h.1 hc
    refine r_iload_n dX13_chance_77 rfl ?_
    exact r_iret dX13_chance_78 rfl h
  · have h := h.2 hc
    refine r_aload_n dX13_chance_30 rfl rfl ?_
    refine r_bipush dX13_chance_31 (by decide) rfl ?_
    refine r_callV (ci := 11) (As := [(0, 100)]) (st := []) (by decide) ok_X13_640 rfl rfl (Nat.le_of_ble_eq_true rfl) dX13_chance_33 h (fun r1 s2 hv h => ?_)
    refine r_aload_n dX13_chance_36 rfl rfl ?_
    refine r_iconst dX13_chance_37 (by decide) ?_
    refine r_callV (ci := 11) (As := [(0, 3)]) (st := [(0, r1)]) (by decide) ok_X13_501 rfl rfl (Nat.le_of_ble_eq_true rfl) dX13_chance_38 h (fun r3 s4 hv h => ?_)
    refine r_icmp_ge (tgt := 48) dX13_chance_41 (by decide) (fun hc => ?_) (fun hc => ?_)
    · have h := h.1 hc
      refine r_iconst dX13_chance_48 (by decide) ?_
      exact h
    · have h := h.2 hc
      refine r_iconst dX13_chance_44 (by decide) ?_
      refine r_goto (tgt := 49) dX13_chance_45 (by decide) ?_
      exact h
set_option maxRecDepth 20000 in
theorem S_X13_chance_49 {g : GT} {e : Nat} {Q : Int → Sg → Prop} {s : Sg} {v1 : Int} {v2 : Int} {v3 : Int} {x0 : Int} (h : ((x0 = 0 → P_X13_chance_62 g e Q s v1 v3 x0 v2 0) ∧ (¬ x0 = 0 → P_X13_chance_62 g e Q s v1 v3 x0 v2 1))) : P_X13_chance_49 g e Q s v1 v2 v3 x0 := by
  refine r_istore (ls2 := [(21, 92), (0, v1), (0, v2), (0, v3), (0, x0)]) dX13_chance_49 (by decide) rfl ?_
  refine r_iload_n dX13_chance_51 rfl ?_
  refine r_iload dX13_chance_52 rfl ?_
  refine r_if_eq (tgt := 61) dX13_chance_54 (by decide) (fun hc => ?_) (fun hc => ?_)
  · have h := h.1 hc
    refine r_iconst dX13_chance_61 (by decide) ?_
    exact r_fgt [true, true, false, true, true] rfl h
  · have h := h.2 hc
    refine r_iconst dX13_chance_57 (by decide) ?_
    refine r_goto (tgt := 62) dX13_chance_58 (by decide) ?_
    exact r_fgt [true, true, false, true, true] rfl h
set_option maxRecDepth 20000 in
theorem S_X13_chance_62 {g : GT} {e : Nat} {Q : Int → Sg → Prop} {s : Sg} {v1 : Int} {v3 : Int} {v4 : Int} {x0 : Int} {x1 : Int} (h : (Mw g e M_X13_passes [(21, 92), (0, 0), (0, v4)] s (fun _ s2 => P_X13_chance_25 g e Q s2 v1 (w32 (x0 + x1)) (w32 (v3 + 1))))) : P_X13_chance_62 g e Q s v1 v3 v4 x0 x1 := by
  refine r_iadd dX13_chance_62 ?_
  refine r_istore_n (ls2 := [(21, 92), (0, v1), (0, (w32 (x0 + x1))), (0, v3), (0, v4)]) dX13_chance_63 (by decide) rfl ?_
  refine r_aload_n dX13_chance_64 rfl rfl ?_
  refine r_iconst dX13_chance_65 (by decide) ?_
  refine r_iload dX13_chance_66 rfl ?_
  refine r_callV (ci := 11) (As := [(0, 0), (0, v4)]) (st := []) (by decide) ok_X13_600 rfl rfl (Nat.le_of_ble_eq_true rfl) dX13_chance_68 h (fun r1 s2 hv h => ?_)
  refine r_iinc (ls2 := [(21, 92), (0, v1), (0, (w32 (x0 + x1))), (0, (w32 (v3 + 1))), (0, v4)]) dX13_chance_71 rfl (by decide) rfl ?_
  refine r_goto (tgt := 25) dX13_chance_74 (by decide) ?_
  exact r_fgt [true, true, true, true, false] rfl h
set_option maxRecDepth 20000 in
theorem S_X13_chance {g : GT} {e : Nat} {Q : Int → Sg → Prop} {s : Sg} {v1 : Int} (h : inR v1 → (Mw g e M_X13_isAhead [(21, 92), (0, v1), (0, 1), (0, 100)] s (fun r1 s2 => ((¬ r1 = 0 → (Mw g e M_X13_keeps [(21, 92)] s2 (fun _ s4 => P_X13_chance_25 g e Q s4 v1 0 0))) ∧ (r1 = 0 → (Mw g e M_X13_refuses [(21, 92), (0, 2)] s2 (fun r5 s6 => Q r5 s6))))))) : Mw g (e + 1) M_X13_chance [(21, 92), (0, v1)] s Q := by
  refine Mw.of (ls := [(21, 92), (0, v1), (9, 0), (9, 0), (9, 0)]) pn_X13_chance (Nat.le_of_ble_eq_true rfl) rfl (fun hv => ?_)
  have h := h (hv _ (List.Mem.tail _ (List.Mem.head _)))
  refine r_aload_n dX13_chance_0 rfl rfl ?_
  refine r_iload_n dX13_chance_1 rfl ?_
  refine r_iconst dX13_chance_2 (by decide) ?_
  refine r_bipush dX13_chance_3 (by decide) rfl ?_
  refine r_callV (ci := 11) (As := [(0, v1), (0, 1), (0, 100)]) (st := []) (by decide) ok_X13_597 rfl rfl (Nat.le_of_ble_eq_true rfl) dX13_chance_5 h (fun r1 s2 hv h => ?_)
  refine r_if_ne (tgt := 17) dX13_chance_8 (by decide) (fun hc => ?_) (fun hc => ?_)
  · have h := h.1 hc
    refine r_aload_n dX13_chance_17 rfl rfl ?_
    refine r_callV (ci := 11) (As := []) (st := []) (by decide) ok_X13_629 rfl rfl (Nat.le_of_ble_eq_true rfl) dX13_chance_18 h (fun r3 s4 hv h => ?_)
    refine r_iconst dX13_chance_21 (by decide) ?_
    refine r_istore_n (ls2 := [(21, 92), (0, v1), (0, 0), (9, 0), (9, 0)]) dX13_chance_22 (by decide) rfl ?_
    refine r_iconst dX13_chance_23 (by decide) ?_
    refine r_istore_n (ls2 := [(21, 92), (0, v1), (0, 0), (0, 0), (9, 0)]) dX13_chance_24 (by decide) rfl ?_
    exact h
  · have h := h.2 hc
    refine r_aload_n dX13_chance_11 rfl rfl ?_
    refine r_iconst dX13_chance_12 (by decide) ?_
    refine r_callV (ci := 11) (As := [(0, 2)]) (st := []) (by decide) ok_X13_250 rfl rfl (Nat.le_of_ble_eq_true rfl) dX13_chance_13 h (fun r5 s6 hv h => ?_)
    exact r_iret dX13_chance_16 rfl h
abbrev P_X13_go_26 (g : GT) (e : Nat) (Q : Int → Sg → Prop) (s : Sg) : Prop := Wp g (e + 1) M_X13_go Q 26 [(21, 92), (9, 0), (9, 0)] [] s
set_option maxRecDepth 20000 in
theorem S_X13_go_26 {g : GT} {e : Nat} {Q : Int → Sg → Prop} {s : Sg} (h : (Mw g e M_X13_refuses [(21, 92), (0, 3)] s (fun r1 s2 => ((r1 < 0 → Q 0 s2) ∧ (¬ r1 < 0 → Q 1 s2))))) : P_X13_go_26 g e Q s := by
  refine r_aload_n dX13_go_26 rfl rfl ?_
  refine r_iconst dX13_go_27 (by decide) ?_
  refine r_callV (ci := 11) (As := [(0, 3)]) (st := []) (by decide) ok_X13_250 rfl rfl (Nat.le_of_ble_eq_true rfl) dX13_go_28 h (fun r1 s2 hv h => ?_)
  refine r_if_lt (tgt := 38) dX13_go_31 (by decide) (fun hc => ?_) (fun hc => ?_)
  · have h := h.1 hc
    refine r_iconst dX13_go_38 (by decide) ?_
    exact r_zret dX13_go_39 rfl (by decide) h
  · have h := h.2 hc
    refine r_iconst dX13_go_34 (by decide) ?_
    refine r_goto (tgt := 39) dX13_go_35 (by decide) ?_
    exact r_zret dX13_go_39 rfl (by decide) h
set_option maxRecDepth 20000 in
theorem S_X13_go {g : GT} {e : Nat} {Q : Int → Sg → Prop} {s : Sg} {v1 : Int} {v2 : Int} (h : inR v1 → inR v2 → (Mw g e M_X13_isChild [(21, 92), (0, v1)] s (fun r1 s2 => ((r1 = 0 → P_X13_go_26 g e Q s2) ∧ (¬ r1 = 0 → (Mw g e M_X13_isHome [(21, 92), (0, v2)] s2 (fun r3 s4 => ((r3 = 0 → P_X13_go_26 g e Q s4) ∧ (¬ r3 = 0 → ((0 ≤ v1 ∧ v1 < 184) ∧ ((¬ (s4 124 v1) = v2 → (Mw g e M_X13_keeps [(21, 92)] s4 (fun _ s6 => ((0 ≤ v1 ∧ v1 < 184) ∧ ∀ s7, s7 = ups s6 124 v1 v2 → Q 1 s7)))) ∧ ((s4 124 v1) = v2 → P_X13_go_26 g e Q s4)))))))))))) : Mw g (e + 1) M_X13_go [(21, 92), (0, v1), (0, v2)] s Q := by
  refine Mw.of (ls := [(21, 92), (0, v1), (0, v2)]) pn_X13_go (Nat.le_of_ble_eq_true rfl) rfl (fun hv => ?_)
  have h := h (hv _ (List.Mem.tail _ (List.Mem.head _))) (hv _ (List.Mem.tail _ (List.Mem.tail _ (List.Mem.head _))))
  refine r_aload_n dX13_go_0 rfl rfl ?_
  refine r_iload_n dX13_go_1 rfl ?_
  refine r_callV (ci := 11) (As := [(0, v1)]) (st := []) (by decide) ok_X13_591 rfl rfl (Nat.le_of_ble_eq_true rfl) dX13_go_2 h (fun r1 s2 hv h => ?_)
  refine r_if_eq (tgt := 26) dX13_go_5 (by decide) (fun hc => ?_) (fun hc => ?_)
  · have h := h.1 hc
    exact r_fgt [true, false, false] rfl h
  · have h := h.2 hc
    refine r_aload_n dX13_go_8 rfl rfl ?_
    refine r_iload_n dX13_go_9 rfl ?_
    refine r_callV (ci := 11) (As := [(0, v2)]) (st := []) (by decide) ok_X13_588 rfl rfl (Nat.le_of_ble_eq_true rfl) dX13_go_10 h (fun r3 s4 hv h => ?_)
    refine r_if_eq (tgt := 26) dX13_go_13 (by decide) (fun hc => ?_) (fun hc => ?_)
    · have h := h.1 hc
      exact r_fgt [true, false, false] rfl h
    · have h := h.2 hc
      refine r_aload_n dX13_go_16 rfl rfl ?_
      refine gf_X13_168 rfl dX13_go_17 ?_
      refine r_iload_n dX13_go_20 rfl ?_
      obtain ⟨hb, h⟩ := h
      refine r_iald (n := 184) rfl (by decide) dX13_go_21 hb ?_
      refine r_iload_n dX13_go_22 rfl ?_
      refine r_icmp_ne (tgt := 40) dX13_go_23 (by decide) (fun hc => ?_) (fun hc => ?_)
      · have h := h.1 hc
        refine r_aload_n dX13_go_40 rfl rfl ?_
        refine r_callV (ci := 11) (As := []) (st := []) (by decide) ok_X13_629 rfl rfl (Nat.le_of_ble_eq_true rfl) dX13_go_41 h (fun r5 s6 hv h => ?_)
        refine r_aload_n dX13_go_44 rfl rfl ?_
        refine gf_X13_168 rfl dX13_go_45 ?_
        refine r_iload_n dX13_go_48 rfl ?_
        refine r_iload_n dX13_go_49 rfl ?_
        obtain ⟨hb, h⟩ := h
        refine r_iast (n := 184) rfl (by decide) dX13_go_50 hb ?_
        have h := h _ rfl
        generalize hs_s7 : ups s6 124 v1 v2 = s7 at h ⊢
        refine r_iconst dX13_go_51 (by decide) ?_
        exact r_zret dX13_go_52 rfl (by decide) h
      · have h := h.2 hc
        exact r_fgt [true, false, false] rfl h
abbrev P_X13_pull_18 (g : GT) (e : Nat) (Q : Int → Sg → Prop) (s : Sg) : Prop := Wp g (e + 1) M_X13_pull Q 18 [(21, 92), (9, 0), (9, 0)] [] s
set_option maxRecDepth 20000 in
theorem S_X13_pull_18 {g : GT} {e : Nat} {Q : Int → Sg → Prop} {s : Sg} (h : (Mw g e M_X13_refuses [(21, 92), (0, 3)] s (fun r1 s2 => Q r1 s2))) : P_X13_pull_18 g e Q s := by
  refine r_aload_n dX13_pull_18 rfl rfl ?_
  refine r_iconst dX13_pull_19 (by decide) ?_
  refine r_callV (ci := 11) (As := [(0, 3)]) (st := []) (by decide) ok_X13_250 rfl rfl (Nat.le_of_ble_eq_true rfl) dX13_pull_20 h (fun r1 s2 hv h => ?_)
  exact r_iret dX13_pull_23 rfl h
set_option maxRecDepth 20000 in
theorem S_X13_pull {g : GT} {e : Nat} {Q : Int → Sg → Prop} {s : Sg} {v1 : Int} (h : inR v1 → (Mw g e M_X13_isChild [(21, 92), (0, v1)] s (fun r1 s2 => ((r1 = 0 → P_X13_pull_18 g e Q s2) ∧ (¬ r1 = 0 → (Mw g e M_X13_inWall [(21, 92), (0, 0), (0, v1)] s2 (fun r3 s4 => ((¬ r3 = (-1) → (Mw g e M_X13_keeps [(21, 92)] s4 (fun _ s6 => (Mw g e M_X13_takesDown [(21, 92), (0, 0), (0, v1)] s6 (fun r7 s8 => (Mw g e M_X13_falls [(21, 92), (0, 0)] s8 (fun r9 s10 => (Mw g e M_X13_bits [(0, (bOr r7 r9))] s10 (fun r11 s12 => Q r11 s12))))))))) ∧ (r3 = (-1) → P_X13_pull_18 g e Q s4))))))))) : Mw g (e + 1) M_X13_pull [(21, 92), (0, v1)] s Q := by
  refine Mw.of (ls := [(21, 92), (0, v1), (9, 0)]) pn_X13_pull (Nat.le_of_ble_eq_true rfl) rfl (fun hv => ?_)
  have h := h (hv _ (List.Mem.tail _ (List.Mem.head _)))
  refine r_aload_n dX13_pull_0 rfl rfl ?_
  refine r_iload_n dX13_pull_1 rfl ?_
  refine r_callV (ci := 11) (As := [(0, v1)]) (st := []) (by decide) ok_X13_591 rfl rfl (Nat.le_of_ble_eq_true rfl) dX13_pull_2 h (fun r1 s2 hv h => ?_)
  refine r_if_eq (tgt := 18) dX13_pull_5 (by decide) (fun hc => ?_) (fun hc => ?_)
  · have h := h.1 hc
    exact r_fgt [true, false, false] rfl h
  · have h := h.2 hc
    refine r_aload_n dX13_pull_8 rfl rfl ?_
    refine r_iconst dX13_pull_9 (by decide) ?_
    refine r_iload_n dX13_pull_10 rfl ?_
    refine r_callV (ci := 11) (As := [(0, 0), (0, v1)]) (st := []) (by decide) ok_X13_507 rfl rfl (Nat.le_of_ble_eq_true rfl) dX13_pull_11 h (fun r3 s4 hv h => ?_)
    refine r_iconst dX13_pull_14 (by decide) ?_
    refine r_icmp_ne (tgt := 24) dX13_pull_15 (by decide) (fun hc => ?_) (fun hc => ?_)
    · have h := h.1 hc
      refine r_aload_n dX13_pull_24 rfl rfl ?_
      refine r_callV (ci := 11) (As := []) (st := []) (by decide) ok_X13_629 rfl rfl (Nat.le_of_ble_eq_true rfl) dX13_pull_25 h (fun r5 s6 hv h => ?_)
      refine r_aload_n dX13_pull_28 rfl rfl ?_
      refine r_iconst dX13_pull_29 (by decide) ?_
      refine r_iload_n dX13_pull_30 rfl ?_
      refine r_callV (ci := 11) (As := [(0, 0), (0, v1)]) (st := []) (by decide) ok_X13_544 rfl rfl (Nat.le_of_ble_eq_true rfl) dX13_pull_31 h (fun r7 s8 hv h => ?_)
      refine r_istore_n (ls2 := [(21, 92), (0, v1), (0, r7)]) dX13_pull_34 (by decide) rfl ?_
      refine r_iload_n dX13_pull_35 rfl ?_
      refine r_aload_n dX13_pull_36 rfl rfl ?_
      refine r_iconst dX13_pull_37 (by decide) ?_
      refine r_callV (ci := 11) (As := [(0, 0)]) (st := [(0, r7)]) (by decide) ok_X13_565 rfl rfl (Nat.le_of_ble_eq_true rfl) dX13_pull_38 h (fun r9 s10 hv h => ?_)
      refine r_ior dX13_pull_41 ?_
      refine r_callS (As := [(0, (bOr r7 r9))]) (st := []) ok_X13_568 rfl rfl (Nat.le_of_ble_eq_true rfl) dX13_pull_42 h (fun r11 s12 hv h => ?_)
      exact r_iret dX13_pull_45 rfl h
    · have h := h.2 hc
      exact r_fgt [true, false, false] rfl h
abbrev P_X13_peace_32 (g : GT) (e : Nat) (Q : Int → Sg → Prop) (s : Sg) : Prop := Wp g (e + 1) M_X13_peace Q 32 [(21, 92), (9, 0)] [] s
set_option maxRecDepth 20000 in
theorem S_X13_peace_32 {g : GT} {e : Nat} {Q : Int → Sg → Prop} {s : Sg} (h : (Mw g e M_X13_refuses [(21, 92), (0, 3)] s (fun r1 s2 => ((r1 < 0 → Q 0 s2) ∧ (¬ r1 < 0 → Q 1 s2))))) : P_X13_peace_32 g e Q s := by
  refine r_aload_n dX13_peace_32 rfl rfl ?_
  refine r_iconst dX13_peace_33 (by decide) ?_
  refine r_callV (ci := 11) (As := [(0, 3)]) (st := []) (by decide) ok_X13_250 rfl rfl (Nat.le_of_ble_eq_true rfl) dX13_peace_34 h (fun r1 s2 hv h => ?_)
  refine r_if_lt (tgt := 44) dX13_peace_37 (by decide) (fun hc => ?_) (fun hc => ?_)
  · have h := h.1 hc
    refine r_iconst dX13_peace_44 (by decide) ?_
    exact r_zret dX13_peace_45 rfl (by decide) h
  · have h := h.2 hc
    refine r_iconst dX13_peace_40 (by decide) ?_
    refine r_goto (tgt := 45) dX13_peace_41 (by decide) ?_
    exact r_zret dX13_peace_45 rfl (by decide) h
set_option maxRecDepth 20000 in
theorem S_X13_peace {g : GT} {e : Nat} {Q : Int → Sg → Prop} {s : Sg} {v1 : Int} (h : inR v1 → ((0 ≤ (s 92 13) ∧ (s 92 13) < 2) ∧ (Mw g e M_X13_is [(0, v1), (0, 0), (0, (w32 ((s 101 (s 92 13)) - 1)))] s (fun r1 s2 => ((r1 = 0 → P_X13_peace_32 g e Q s2) ∧ (¬ r1 = 0 → (Mw g e M_X13_has2 [(0, (s2 123 0)), (0, v1)] s2 (fun r3 s4 => ((r3 = 0 → (Mw g e M_X13_keeps [(21, 92)] s4 (fun _ s6 => (∀ s7, s7 = ups s6 123 0 (bOr (s6 123 0) (bShl 1 v1)) → Q 1 s7)))) ∧ (¬ r3 = 0 → P_X13_peace_32 g e Q s4)))))))))) : Mw g (e + 1) M_X13_peace [(21, 92), (0, v1)] s Q := by
  refine Mw.of (ls := [(21, 92), (0, v1)]) pn_X13_peace (Nat.le_of_ble_eq_true rfl) rfl (fun hv => ?_)
  have h := h (hv _ (List.Mem.tail _ (List.Mem.head _)))
  refine r_iload_n dX13_peace_0 rfl ?_
  refine r_iconst dX13_peace_1 (by decide) ?_
  refine r_aload_n dX13_peace_2 rfl rfl ?_
  refine gf_X13_75 rfl dX13_peace_3 ?_
  refine r_aload_n dX13_peace_6 rfl rfl ?_
  refine gf_X13_51 rfl dX13_peace_7 ?_
  obtain ⟨hb, h⟩ := h
  refine r_iald (n := 2) rfl (by decide) dX13_peace_10 hb ?_
  refine r_iconst dX13_peace_11 (by decide) ?_
  refine r_isub dX13_peace_12 ?_
  refine r_callS (As := [(0, v1), (0, 0), (0, (w32 ((s 101 (s 92 13)) - 1)))]) (st := []) ok_X13_347 rfl rfl (Nat.le_of_ble_eq_true rfl) dX13_peace_13 h (fun r1 s2 hv h => ?_)
  refine r_if_eq (tgt := 32) dX13_peace_16 (by decide) (fun hc => ?_) (fun hc => ?_)
  · have h := h.1 hc
    exact r_fgt [true, false] rfl h
  · have h := h.2 hc
    refine r_aload_n dX13_peace_19 rfl rfl ?_
    refine gf_X13_165 rfl dX13_peace_20 ?_
    refine r_iconst dX13_peace_23 (by decide) ?_
    refine r_iald (n := 23) rfl (by decide) dX13_peace_24 (by decide) ?_
    refine r_iload_n dX13_peace_25 rfl ?_
    refine r_callS (As := [(0, (s2 123 0)), (0, v1)]) (st := []) ok_X13_389 rfl rfl (Nat.le_of_ble_eq_true rfl) dX13_peace_26 h (fun r3 s4 hv h => ?_)
    refine r_if_eq (tgt := 46) dX13_peace_29 (by decide) (fun hc => ?_) (fun hc => ?_)
    · have h := h.1 hc
      refine r_aload_n dX13_peace_46 rfl rfl ?_
      refine r_callV (ci := 11) (As := []) (st := []) (by decide) ok_X13_629 rfl rfl (Nat.le_of_ble_eq_true rfl) dX13_peace_47 h (fun r5 s6 hv h => ?_)
      refine r_aload_n dX13_peace_50 rfl rfl ?_
      refine gf_X13_165 rfl dX13_peace_51 ?_
      refine r_iconst dX13_peace_54 (by decide) ?_
      refine r_dup2 dX13_peace_55 (show (0 : Nat) ≠ 2 by decide) (show (55 : Nat) ≠ 2 by decide) ?_
      refine r_iald (n := 23) rfl (by decide) dX13_peace_56 (by decide) ?_
      refine r_iconst dX13_peace_57 (by decide) ?_
      refine r_iload_n dX13_peace_58 rfl ?_
      refine r_ishl dX13_peace_59 ?_
      refine r_ior dX13_peace_60 ?_
      refine r_iast (n := 23) rfl (by decide) dX13_peace_61 (by decide) ?_
      have h := h _ rfl
      generalize hs_s7 : ups s6 123 0 (bOr (s6 123 0) (bShl 1 v1)) = s7 at h ⊢
      refine r_iconst dX13_peace_62 (by decide) ?_
      exact r_zret dX13_peace_63 rfl (by decide) h
    · have h := h.2 hc
      exact r_fgt [true, false] rfl h
set_option maxRecDepth 20000 in
theorem S_X13_seed {g : GT} {e : Nat} {Q : Int → Sg → Prop} {s : Sg} {v1 : Int} (h : inR v1 → ((0 ≤ v1 → (∀ s1, s1 = ups s 92 60 v1 → Q 1 s1)) ∧ (¬ 0 ≤ v1 → (Mw g e M_X13_refuses [(21, 92), (0, 5)] s (fun r2 s3 => ((r2 < 0 → Q 0 s3) ∧ (¬ r2 < 0 → Q 1 s3))))))) : Mw g (e + 1) M_X13_seed [(21, 92), (0, v1)] s Q := by
  refine Mw.of (ls := [(21, 92), (0, v1)]) pn_X13_seed (Nat.le_of_ble_eq_true rfl) rfl (fun hv => ?_)
  have h := h (hv _ (List.Mem.tail _ (List.Mem.head _)))
  refine r_iload_n dX13_seed_0 rfl ?_
  refine r_if_ge (tgt := 18) dX13_seed_1 (by decide) (fun hc => ?_) (fun hc => ?_)
  · have h := h.1 hc
    refine r_aload_n dX13_seed_18 rfl rfl ?_
    refine r_iload_n dX13_seed_19 rfl ?_
    refine r_i2l dX13_seed_20 ?_
    refine pf_X13_195 rfl dX13_seed_21 ?_
    have h := h _ rfl
    generalize hs_s1 : ups s 92 60 v1 = s1 at h ⊢
    refine r_iconst dX13_seed_24 (by decide) ?_
    exact r_zret dX13_seed_25 rfl (by decide) h
  · have h := h.2 hc
    refine r_aload_n dX13_seed_4 rfl rfl ?_
    refine r_iconst dX13_seed_5 (by decide) ?_
    refine r_callV (ci := 11) (As := [(0, 5)]) (st := []) (by decide) ok_X13_250 rfl rfl (Nat.le_of_ble_eq_true rfl) dX13_seed_6 h (fun r2 s3 hv h => ?_)
    refine r_if_lt (tgt := 16) dX13_seed_9 (by decide) (fun hc => ?_) (fun hc => ?_)
    · have h := h.1 hc
      refine r_iconst dX13_seed_16 (by decide) ?_
      exact r_zret dX13_seed_17 rfl (by decide) h
    · have h := h.2 hc
      refine r_iconst dX13_seed_12 (by decide) ?_
      refine r_goto (tgt := 17) dX13_seed_13 (by decide) ?_
      exact r_zret dX13_seed_17 rfl (by decide) h
set_option maxRecDepth 20000 in
theorem S_X13_kept {g : GT} {e : Nat} {Q : Int → Sg → Prop} {s : Sg} {v1 : Int} {v2 : Int} (h : inR v1 → inR v2 → (Mw g e M_X13_is [(0, v1), (0, 0), (0, (w32 ((s 129 0) - 1)))] s (fun r1 s2 => ((r1 = 0 → Q (-1) s2) ∧ (¬ r1 = 0 → (Mw g e M_X13_is [(0, v2), (0, 0), (0, 3)] s2 (fun r3 s4 => ((r3 = 0 → Q (-1) s4) ∧ (¬ r3 = 0 → ((0 ≤ (w32 ((w32 (4 * v1)) + v2)) ∧ (w32 ((w32 (4 * v1)) + v2)) < 5520) ∧ Q (s4 130 (w32 ((w32 (4 * v1)) + v2))) s4)))))))))) : Mw g (e + 1) M_X13_kept [(21, 92), (0, v1), (0, v2)] s Q := by
  refine Mw.of (ls := [(21, 92), (0, v1), (0, v2)]) pn_X13_kept (Nat.le_of_ble_eq_true rfl) rfl (fun hv => ?_)
  have h := h (hv _ (List.Mem.tail _ (List.Mem.head _))) (hv _ (List.Mem.tail _ (List.Mem.tail _ (List.Mem.head _))))
  refine r_iload_n dX13_kept_0 rfl ?_
  refine r_iconst dX13_kept_1 (by decide) ?_
  refine r_aload_n dX13_kept_2 rfl rfl ?_
  refine gf_X13_183 rfl dX13_kept_3 ?_
  refine r_iconst dX13_kept_6 (by decide) ?_
  refine r_iald (n := 23) rfl (by decide) dX13_kept_7 (by decide) ?_
  refine r_iconst dX13_kept_8 (by decide) ?_
  refine r_isub dX13_kept_9 ?_
  refine r_callS (As := [(0, v1), (0, 0), (0, (w32 ((s 129 0) - 1)))]) (st := []) ok_X13_347 rfl rfl (Nat.le_of_ble_eq_true rfl) dX13_kept_10 h (fun r1 s2 hv h => ?_)
  refine r_if_eq (tgt := 38) dX13_kept_13 (by decide) (fun hc => ?_) (fun hc => ?_)
  · have h := h.1 hc
    refine r_iconst dX13_kept_38 (by decide) ?_
    exact r_iret dX13_kept_39 rfl h
  · have h := h.2 hc
    refine r_iload_n dX13_kept_16 rfl ?_
    refine r_iconst dX13_kept_17 (by decide) ?_
    refine r_iconst dX13_kept_18 (by decide) ?_
    refine r_callS (As := [(0, v2), (0, 0), (0, 3)]) (st := []) ok_X13_347 rfl rfl (Nat.le_of_ble_eq_true rfl) dX13_kept_19 h (fun r3 s4 hv h => ?_)
    refine r_if_eq (tgt := 38) dX13_kept_22 (by decide) (fun hc => ?_) (fun hc => ?_)
    · have h := h.1 hc
      refine r_iconst dX13_kept_38 (by decide) ?_
      exact r_iret dX13_kept_39 rfl h
    · have h := h.2 hc
      refine r_aload_n dX13_kept_25 rfl rfl ?_
      refine gf_X13_186 rfl dX13_kept_26 ?_
      refine r_iconst dX13_kept_29 (by decide) ?_
      refine r_iload_n dX13_kept_30 rfl ?_
      refine r_imul dX13_kept_31 ?_
      refine r_iload_n dX13_kept_32 rfl ?_
      refine r_iadd dX13_kept_33 ?_
      obtain ⟨hb, h⟩ := h
      refine r_iald (n := 5520) rfl (by decide) dX13_kept_34 hb ?_
      refine r_goto (tgt := 39) dX13_kept_35 (by decide) ?_
      exact r_iret dX13_kept_39 rfl h
set_option maxRecDepth 20000 in
theorem S_X13_writes {g : GT} {e : Nat} {Q : Int → Sg → Prop} {s : Sg} {v1 : Int} (h : inR v1 → ((0 ≤ (s 92 76) ∧ (s 92 76) < 70) ∧ ∀ s1, s1 = ups s 141 (s 92 76) (bAnd v1 255) → (∀ s2, s2 = ups s1 92 76 (w32 ((s1 92 76) + 1)) → Q 0 s2))) : Mw g (e + 1) M_X13_writes [(21, 92), (0, v1)] s Q := by
  refine Mw.of (ls := [(21, 92), (0, v1)]) pn_X13_writes (Nat.le_of_ble_eq_true rfl) rfl (fun hv => ?_)
  have h := h (hv _ (List.Mem.tail _ (List.Mem.head _)))
  refine r_aload_n dX13_writes_0 rfl rfl ?_
  refine gf_X13_240 rfl dX13_writes_1 ?_
  refine r_aload_n dX13_writes_4 rfl rfl ?_
  refine gf_X13_243 rfl dX13_writes_5 ?_
  refine r_iload_n dX13_writes_8 rfl ?_
  refine r_sipush dX13_writes_9 (by decide) rfl ?_
  refine r_iand dX13_writes_12 ?_
  obtain ⟨hb, h⟩ := h
  refine r_iast (n := 70) rfl (by decide) dX13_writes_13 hb ?_
  have h := h _ rfl
  generalize hs_s1 : ups s 141 (s 92 76) (bAnd v1 255) = s1 at h ⊢
  refine r_aload_n dX13_writes_14 rfl rfl ?_
  refine r_dup dX13_writes_15 (show (21 : Nat) ≠ 2 by decide) ?_
  refine gf_X13_243 rfl dX13_writes_16 ?_
  refine r_iconst dX13_writes_19 (by decide) ?_
  refine r_iadd dX13_writes_20 ?_
  refine pf_X13_243 rfl dX13_writes_21 ?_
  have h := h _ rfl
  generalize hs_s2 : ups s1 92 76 (w32 ((s1 92 76) + 1)) = s2 at h ⊢
  exact r_ret dX13_writes_24 rfl h
set_option maxRecDepth 20000 in
theorem S_X13_writesTwo {g : GT} {e : Nat} {Q : Int → Sg → Prop} {s : Sg} {v1 : Int} (h : inR v1 → (Mw g e M_X13_writes [(21, 92), (0, (bShr v1 8))] s (fun _ s2 => (Mw g e M_X13_writes [(21, 92), (0, v1)] s2 (fun _ s4 => Q 0 s4))))) : Mw g (e + 1) M_X13_writesTwo [(21, 92), (0, v1)] s Q := by
  refine Mw.of (ls := [(21, 92), (0, v1)]) pn_X13_writesTwo (Nat.le_of_ble_eq_true rfl) rfl (fun hv => ?_)
  have h := h (hv _ (List.Mem.tail _ (List.Mem.head _)))
  refine r_aload_n dX13_writesTwo_0 rfl rfl ?_
  refine r_iload_n dX13_writesTwo_1 rfl ?_
  refine r_bipush dX13_writesTwo_2 (by decide) rfl ?_
  refine r_ishr dX13_writesTwo_4 ?_
  refine r_callV (ci := 11) (As := [(0, (bShr v1 8))]) (st := []) (by decide) ok_X13_643 rfl rfl (Nat.le_of_ble_eq_true rfl) dX13_writesTwo_5 h (fun r1 s2 hv h => ?_)
  refine r_aload_n dX13_writesTwo_8 rfl rfl ?_
  refine r_iload_n dX13_writesTwo_9 rfl ?_
  refine r_callV (ci := 11) (As := [(0, v1)]) (st := []) (by decide) ok_X13_643 rfl rfl (Nat.le_of_ble_eq_true rfl) dX13_writesTwo_10 h (fun r3 s4 hv h => ?_)
  exact r_ret dX13_writesTwo_13 rfl h
abbrev P_X13_image_17 (g : GT) (e : Nat) (Q : Int → Sg → Prop) (s : Sg) (v1 : Int) : Prop := Wp g (e + 1) M_X13_image Q 17 [(21, 92), (0, v1), (9, 0)] [] s
abbrev P_X13_image_90 (g : GT) (e : Nat) (Q : Int → Sg → Prop) (s : Sg) (v1 : Int) : Prop := Wp g (e + 1) M_X13_image Q 90 [(21, 92), (0, v1), (9, 0)] [] s
abbrev P_X13_image_129 (g : GT) (e : Nat) (Q : Int → Sg → Prop) (s : Sg) (v1 : Int) (v2 : Int) : Prop := Wp g (e + 1) M_X13_image Q 129 [(21, 92), (0, v1), (0, v2)] [] s
set_option maxRecDepth 20000 in
theorem S_X13_image_17 {g : GT} {e : Nat} {Q : Int → Sg → Prop} {s : Sg} {v1 : Int} (h : ((0 ≤ (s 92 13) ∧ (s 92 13) < 2) ∧ (((s 97 (s 92 13)) ≤ v1 → P_X13_image_90 g e Q s 0) ∧ (¬ (s 97 (s 92 13)) ≤ v1 → ((0 ≤ v1 ∧ v1 < 184) ∧ (Mw g e M_X13_writes [(21, 92), (0, (s 124 v1))] s (fun _ s2 => (Mw g e M_X13_strong [(21, 92), (0, 0), (0, v1)] s2 (fun r3 s4 => (Mw g e M_X13_writesTwo [(21, 92), (0, r3)] s4 (fun _ s6 => (Mw g e M_X13_inWall [(21, 92), (0, 0), (0, v1)] s6 (fun r7 s8 => (Mw g e M_X13_writes [(21, 92), (0, (w32 (r7 + 1)))] s8 (fun _ s10 => (Mw g e M_X13_column [(21, 92), (0, 0), (0, v1)] s10 (fun r11 s12 => (Mw g e M_X13_writes [(21, 92), (0, r11)] s12 (fun _ s14 => (Mw g e M_X13_course [(21, 92), (0, 0), (0, v1)] s14 (fun r15 s16 => (Mw g e M_X13_writes [(21, 92), (0, r15)] s16 (fun _ s18 => P_X13_image_17 g e Q s18 (w32 (v1 + 1))))))))))))))))))))))))) : P_X13_image_17 g e Q s v1 := by
  refine r_iload_n dX13_image_17 rfl ?_
  refine r_aload_n dX13_image_18 rfl rfl ?_
  refine gf_X13_63 rfl dX13_image_19 ?_
  refine r_aload_n dX13_image_22 rfl rfl ?_
  refine gf_X13_51 rfl dX13_image_23 ?_
  obtain ⟨hb, h⟩ := h
  refine r_iald (n := 2) rfl (by decide) dX13_image_26 hb ?_
  refine r_icmp_ge (tgt := 88) dX13_image_27 (by decide) (fun hc => ?_) (fun hc => ?_)
  · have h := h.1 hc
    refine r_iconst dX13_image_88 (by decide) ?_
    refine r_istore_n (ls2 := [(21, 92), (0, 0), (9, 0)]) dX13_image_89 (by decide) rfl ?_
    exact h
  · have h := h.2 hc
    refine r_aload_n dX13_image_30 rfl rfl ?_
    refine r_aload_n dX13_image_31 rfl rfl ?_
    refine gf_X13_168 rfl dX13_image_32 ?_
    refine r_iload_n dX13_image_35 rfl ?_
    obtain ⟨hb, h⟩ := h
    refine r_iald (n := 184) rfl (by decide) dX13_image_36 hb ?_
    refine r_callV (ci := 11) (As := [(0, (s 124 v1))]) (st := []) (by decide) ok_X13_643 rfl rfl (Nat.le_of_ble_eq_true rfl) dX13_image_37 h (fun r1 s2 hv h => ?_)
    refine r_aload_n dX13_image_40 rfl rfl ?_
    refine r_aload_n dX13_image_41 rfl rfl ?_
    refine r_iconst dX13_image_42 (by decide) ?_
    refine r_iload_n dX13_image_43 rfl ?_
    refine r_callV (ci := 11) (As := [(0, 0), (0, v1)]) (st := [(21, 92)]) (by decide) ok_X13_522 rfl rfl (Nat.le_of_ble_eq_true rfl) dX13_image_44 h (fun r3 s4 hv h => ?_)
    refine r_callV (ci := 11) (As := [(0, r3)]) (st := []) (by decide) ok_X13_646 rfl rfl (Nat.le_of_ble_eq_true rfl) dX13_image_47 h (fun r5 s6 hv h => ?_)
    refine r_aload_n dX13_image_50 rfl rfl ?_
    refine r_aload_n dX13_image_51 rfl rfl ?_
    refine r_iconst dX13_image_52 (by decide) ?_
    refine r_iload_n dX13_image_53 rfl ?_
    refine r_callV (ci := 11) (As := [(0, 0), (0, v1)]) (st := [(21, 92)]) (by decide) ok_X13_507 rfl rfl (Nat.le_of_ble_eq_true rfl) dX13_image_54 h (fun r7 s8 hv h => ?_)
    refine r_iconst dX13_image_57 (by decide) ?_
    refine r_iadd dX13_image_58 ?_
    refine r_callV (ci := 11) (As := [(0, (w32 (r7 + 1)))]) (st := []) (by decide) ok_X13_643 rfl rfl (Nat.le_of_ble_eq_true rfl) dX13_image_59 h (fun r9 s10 hv h => ?_)
    refine r_aload_n dX13_image_62 rfl rfl ?_
    refine r_aload_n dX13_image_63 rfl rfl ?_
    refine r_iconst dX13_image_64 (by decide) ?_
    refine r_iload_n dX13_image_65 rfl ?_
    refine r_callV (ci := 11) (As := [(0, 0), (0, v1)]) (st := [(21, 92)]) (by decide) ok_X13_510 rfl rfl (Nat.le_of_ble_eq_true rfl) dX13_image_66 h (fun r11 s12 hv h => ?_)
    refine r_callV (ci := 11) (As := [(0, r11)]) (st := []) (by decide) ok_X13_643 rfl rfl (Nat.le_of_ble_eq_true rfl) dX13_image_69 h (fun r13 s14 hv h => ?_)
    refine r_aload_n dX13_image_72 rfl rfl ?_
    refine r_aload_n dX13_image_73 rfl rfl ?_
    refine r_iconst dX13_image_74 (by decide) ?_
    refine r_iload_n dX13_image_75 rfl ?_
    refine r_callV (ci := 11) (As := [(0, 0), (0, v1)]) (st := [(21, 92)]) (by decide) ok_X13_513 rfl rfl (Nat.le_of_ble_eq_true rfl) dX13_image_76 h (fun r15 s16 hv h => ?_)
    refine r_callV (ci := 11) (As := [(0, r15)]) (st := []) (by decide) ok_X13_643 rfl rfl (Nat.le_of_ble_eq_true rfl) dX13_image_79 h (fun r17 s18 hv h => ?_)
    refine r_iinc (ls2 := [(21, 92), (0, (w32 (v1 + 1))), (9, 0)]) dX13_image_82 rfl (by decide) rfl ?_
    refine r_goto (tgt := 17) dX13_image_85 (by decide) ?_
    exact h
set_option maxRecDepth 20000 in
theorem S_X13_image_90 {g : GT} {e : Nat} {Q : Int → Sg → Prop} {s : Sg} {v1 : Int} (h : ((0 ≤ (s 92 13) ∧ (s 92 13) < 2) ∧ (((s 101 (s 92 13)) ≤ v1 → P_X13_image_129 g e Q s 167 0) ∧ (¬ (s 101 (s 92 13)) ≤ v1 → (Mw g e M_X13_writes [(21, 92), (0, (bAnd (bShr (s 123 0) v1) 1))] s (fun _ s2 => P_X13_image_90 g e Q s2 (w32 (v1 + 1)))))))) : P_X13_image_90 g e Q s v1 := by
  refine r_iload_n dX13_image_90 rfl ?_
  refine r_aload_n dX13_image_91 rfl rfl ?_
  refine gf_X13_75 rfl dX13_image_92 ?_
  refine r_aload_n dX13_image_95 rfl rfl ?_
  refine gf_X13_51 rfl dX13_image_96 ?_
  obtain ⟨hb, h⟩ := h
  refine r_iald (n := 2) rfl (by decide) dX13_image_99 hb ?_
  refine r_icmp_ge (tgt := 123) dX13_image_100 (by decide) (fun hc => ?_) (fun hc => ?_)
  · have h := h.1 hc
    refine r_sipush dX13_image_123 (by decide) rfl ?_
    refine r_istore_n (ls2 := [(21, 92), (0, 167), (9, 0)]) dX13_image_126 (by decide) rfl ?_
    refine r_iconst dX13_image_127 (by decide) ?_
    refine r_istore_n (ls2 := [(21, 92), (0, 167), (0, 0)]) dX13_image_128 (by decide) rfl ?_
    exact h
  · have h := h.2 hc
    refine r_aload_n dX13_image_103 rfl rfl ?_
    refine r_aload_n dX13_image_104 rfl rfl ?_
    refine gf_X13_165 rfl dX13_image_105 ?_
    refine r_iconst dX13_image_108 (by decide) ?_
    refine r_iald (n := 23) rfl (by decide) dX13_image_109 (by decide) ?_
    refine r_iload_n dX13_image_110 rfl ?_
    refine r_ishr dX13_image_111 ?_
    refine r_iconst dX13_image_112 (by decide) ?_
    refine r_iand dX13_image_113 ?_
    refine r_callV (ci := 11) (As := [(0, (bAnd (bShr (s 123 0) v1) 1))]) (st := []) (by decide) ok_X13_643 rfl rfl (Nat.le_of_ble_eq_true rfl) dX13_image_114 h (fun r1 s2 hv h => ?_)
    refine r_iinc (ls2 := [(21, 92), (0, (w32 (v1 + 1))), (9, 0)]) dX13_image_117 rfl (by decide) rfl ?_
    refine r_goto (tgt := 90) dX13_image_120 (by decide) ?_
    exact h
set_option maxRecDepth 20000 in
theorem S_X13_image_129 {g : GT} {e : Nat} {Q : Int → Sg → Prop} {s : Sg} {v1 : Int} {v2 : Int} (h : (((s 92 76) ≤ v2 → (Mw g e M_X13_writes [(21, 92), (0, v1)] s (fun _ s2 => Q (s2 92 76) s2))) ∧ (¬ (s 92 76) ≤ v2 → ((0 ≤ v2 ∧ v2 < 70) ∧ P_X13_image_129 g e Q s (Int.tmod (w32 ((w32 (5 * v1)) + (s 141 v2))) 251) (w32 (v2 + 1)))))) : P_X13_image_129 g e Q s v1 v2 := by
  refine r_iload_n dX13_image_129 rfl ?_
  refine r_aload_n dX13_image_130 rfl rfl ?_
  refine gf_X13_243 rfl dX13_image_131 ?_
  refine r_icmp_ge (tgt := 158) dX13_image_134 (by decide) (fun hc => ?_) (fun hc => ?_)
  · have h := h.1 hc
    refine r_aload_n dX13_image_158 rfl rfl ?_
    refine r_iload_n dX13_image_159 rfl ?_
    refine r_callV (ci := 11) (As := [(0, v1)]) (st := []) (by decide) ok_X13_643 rfl rfl (Nat.le_of_ble_eq_true rfl) dX13_image_160 h (fun r1 s2 hv h => ?_)
    refine r_aload_n dX13_image_163 rfl rfl ?_
    refine gf_X13_243 rfl dX13_image_164 ?_
    exact r_iret dX13_image_167 rfl h
  · have h := h.2 hc
    refine r_iconst dX13_image_137 (by decide) ?_
    refine r_iload_n dX13_image_138 rfl ?_
    refine r_imul dX13_image_139 ?_
    refine r_aload_n dX13_image_140 rfl rfl ?_
    refine gf_X13_240 rfl dX13_image_141 ?_
    refine r_iload_n dX13_image_144 rfl ?_
    obtain ⟨hb, h⟩ := h
    refine r_iald (n := 70) rfl (by decide) dX13_image_145 hb ?_
    refine r_iadd dX13_image_146 ?_
    refine r_sipush dX13_image_147 (by decide) rfl ?_
    refine r_irem dX13_image_150 (by decide) ?_
    refine r_istore_n (ls2 := [(21, 92), (0, (Int.tmod (w32 ((w32 (5 * v1)) + (s 141 v2))) 251)), (0, v2)]) dX13_image_151 (by decide) rfl ?_
    refine r_iinc (ls2 := [(21, 92), (0, (Int.tmod (w32 ((w32 (5 * v1)) + (s 141 v2))) 251)), (0, (w32 (v2 + 1)))]) dX13_image_152 rfl (by decide) rfl ?_
    refine r_goto (tgt := 129) dX13_image_155 (by decide) ?_
    exact h
set_option maxRecDepth 20000 in
theorem S_X13_image {g : GT} {e : Nat} {Q : Int → Sg → Prop} {s : Sg} (h : (∀ s1, s1 = ups s 92 76 0 → (Mw g e M_X13_writesTwo [(21, 92), (0, (s1 122 0))] s1 (fun _ s3 => P_X13_image_17 g e Q s3 0)))) : Mw g (e + 1) M_X13_image [(21, 92)] s Q := by
  refine Mw.of (ls := [(21, 92), (9, 0), (9, 0)]) pn_X13_image (Nat.le_of_ble_eq_true rfl) rfl (fun hv => ?_)
  refine r_aload_n dX13_image_0 rfl rfl ?_
  refine r_iconst dX13_image_1 (by decide) ?_
  refine pf_X13_243 rfl dX13_image_2 ?_
  have h := h _ rfl
  generalize hs_s1 : ups s 92 76 0 = s1 at h ⊢
  refine r_aload_n dX13_image_5 rfl rfl ?_
  refine r_aload_n dX13_image_6 rfl rfl ?_
  refine gf_X13_162 rfl dX13_image_7 ?_
  refine r_iconst dX13_image_10 (by decide) ?_
  refine r_iald (n := 23) rfl (by decide) dX13_image_11 (by decide) ?_
  refine r_callV (ci := 11) (As := [(0, (s1 122 0))]) (st := []) (by decide) ok_X13_646 rfl rfl (Nat.le_of_ble_eq_true rfl) dX13_image_12 h (fun r2 s3 hv h => ?_)
  refine r_iconst dX13_image_15 (by decide) ?_
  refine r_istore_n (ls2 := [(21, 92), (0, 0), (9, 0)]) dX13_image_16 (by decide) rfl ?_
  exact h
set_option maxRecDepth 20000 in
theorem S_X13_octet {g : GT} {e : Nat} {Q : Int → Sg → Prop} {s : Sg} {v1 : Int} (h : inR v1 → (Mw g e M_X13_is [(0, v1), (0, 0), (0, (w32 ((s 92 76) - 1)))] s (fun r1 s2 => ((r1 = 0 → Q (-1) s2) ∧ (¬ r1 = 0 → ((0 ≤ v1 ∧ v1 < 70) ∧ Q (s2 141 v1) s2)))))) : Mw g (e + 1) M_X13_octet [(21, 92), (0, v1)] s Q := by
  refine Mw.of (ls := [(21, 92), (0, v1)]) pn_X13_octet (Nat.le_of_ble_eq_true rfl) rfl (fun hv => ?_)
  have h := h (hv _ (List.Mem.tail _ (List.Mem.head _)))
  refine r_iload_n dX13_octet_0 rfl ?_
  refine r_iconst dX13_octet_1 (by decide) ?_
  refine r_aload_n dX13_octet_2 rfl rfl ?_
  refine gf_X13_243 rfl dX13_octet_3 ?_
  refine r_iconst dX13_octet_6 (by decide) ?_
  refine r_isub dX13_octet_7 ?_
  refine r_callS (As := [(0, v1), (0, 0), (0, (w32 ((s 92 76) - 1)))]) (st := []) ok_X13_347 rfl rfl (Nat.le_of_ble_eq_true rfl) dX13_octet_8 h (fun r1 s2 hv h => ?_)
  refine r_if_eq (tgt := 23) dX13_octet_11 (by decide) (fun hc => ?_) (fun hc => ?_)
  · have h := h.1 hc
    refine r_iconst dX13_octet_23 (by decide) ?_
    exact r_iret dX13_octet_24 rfl h
  · have h := h.2 hc
    refine r_aload_n dX13_octet_14 rfl rfl ?_
    refine gf_X13_240 rfl dX13_octet_15 ?_
    refine r_iload_n dX13_octet_18 rfl ?_
    obtain ⟨hb, h⟩ := h
    refine r_iald (n := 70) rfl (by decide) dX13_octet_19 hb ?_
    refine r_goto (tgt := 24) dX13_octet_20 (by decide) ?_
    exact r_iret dX13_octet_24 rfl h
set_option maxRecDepth 20000 in
theorem S_X13_childOn {g : GT} {e : Nat} {Q : Int → Sg → Prop} {s : Sg} {v1 : Int} {v2 : Int} (h : inR v1 → inR v2 → ((0 ≤ (w32 (v2 + 3)) ∧ (w32 (v2 + 3)) < 1800) ∧ ((0 ≤ v2 ∧ v2 < 1800) ∧ ((0 ≤ (w32 (16 + v1)) ∧ (w32 (16 + v1)) < 184) ∧ ∀ s1, s1 = ups s 124 (w32 (16 + v1)) (s 93 v2) → (Mw g e M_X13_twoBytes [(21, 92), (0, (w32 (v2 + 1)))] s1 (fun r2 s3 => ((0 ≤ (w32 (16 + v1)) ∧ (w32 (16 + v1)) < 184) ∧ ∀ s4, s4 = ups s3 125 (w32 (16 + v1)) r2 → ((0 ≤ (w32 (16 + v1)) ∧ (w32 (16 + v1)) < 184) ∧ ∀ s5, s5 = ups s4 126 (w32 (16 + v1)) (w32 ((s 93 (w32 (v2 + 3))) - 1)) → ((0 ≤ (w32 (v2 + 4)) ∧ (w32 (v2 + 4)) < 1800) ∧ ((0 ≤ (w32 (16 + v1)) ∧ (w32 (16 + v1)) < 184) ∧ ∀ s6, s6 = ups s5 127 (w32 (16 + v1)) (s5 93 (w32 (v2 + 4))) → ((0 ≤ (w32 (v2 + 5)) ∧ (w32 (v2 + 5)) < 1800) ∧ ((0 ≤ (w32 (16 + v1)) ∧ (w32 (16 + v1)) < 184) ∧ ∀ s7, s7 = ups s6 128 (w32 (16 + v1)) (s6 93 (w32 (v2 + 5))) → ((0 ≤ v2 ∧ v2 < 1800) ∧ (Mw g e M_X13_isHome [(21, 92), (0, (s7 93 v2))] s7 (fun r8 s9 => ((r8 = 0 → Q 0 s9) ∧ (¬ r8 = 0 → (Mw g e M_X13_twoBytes [(21, 92), (0, (w32 (v2 + 1)))] s9 (fun r10 s11 => ((r10 ≤ 999 → ((¬ (w32 ((s 93 (w32 (v2 + 3))) - 1)) = (-1) → (Mw g e M_X13_isWall [(21, 92), (0, (w32 ((s 93 (w32 (v2 + 3))) - 1)))] s11 (fun r12 s13 => ((r12 = 0 → Q 0 s13) ∧ (¬ r12 = 0 → (Mw g e M_X13_isDone [(21, 92), (0, 2), (0, v1)] s13 (fun r14 s15 => ((¬ r14 = 0 → ((0 ≤ (w32 (v2 + 4)) ∧ (w32 (v2 + 4)) < 1800) ∧ ((0 ≤ (w32 ((w32 (4 * (s15 92 13))) + (w32 ((s 93 (w32 (v2 + 3))) - 1)))) ∧ (w32 ((w32 (4 * (s15 92 13))) + (w32 ((s 93 (w32 (v2 + 3))) - 1)))) < 8) ∧ (((s15 105 (w32 ((w32 (4 * (s15 92 13))) + (w32 ((s 93 (w32 (v2 + 3))) - 1))))) ≤ (s15 93 (w32 (v2 + 4))) → Q 0 s15) ∧ (¬ (s15 105 (w32 ((w32 (4 * (s15 92 13))) + (w32 ((s 93 (w32 (v2 + 3))) - 1))))) ≤ (s15 93 (w32 (v2 + 4))) → ((0 ≤ (w32 (v2 + 5)) ∧ (w32 (v2 + 5)) < 1800) ∧ ((0 ≤ (w32 ((w32 (4 * (s15 92 13))) + (w32 ((s 93 (w32 (v2 + 3))) - 1)))) ∧ (w32 ((w32 (4 * (s15 92 13))) + (w32 ((s 93 (w32 (v2 + 3))) - 1)))) < 8) ∧ (((s15 106 (w32 ((w32 (4 * (s15 92 13))) + (w32 ((s 93 (w32 (v2 + 3))) - 1))))) ≤ (s15 93 (w32 (v2 + 5))) → Q 0 s15) ∧ (¬ (s15 106 (w32 ((w32 (4 * (s15 92 13))) + (w32 ((s 93 (w32 (v2 + 3))) - 1))))) ≤ (s15 93 (w32 (v2 + 5))) → Q 1 s15))))))))) ∧ (r14 = 0 → Q 0 s15))))))))) ∧ ((w32 ((s 93 (w32 (v2 + 3))) - 1)) = (-1) → ((0 ≤ (w32 (v2 + 4)) ∧ (w32 (v2 + 4)) < 1800) ∧ ((¬ (s11 93 (w32 (v2 + 4))) = 0 → Q 0 s11) ∧ ((s11 93 (w32 (v2 + 4))) = 0 → ((0 ≤ (w32 (v2 + 5)) ∧ (w32 (v2 + 5)) < 1800) ∧ ((¬ (s11 93 (w32 (v2 + 5))) = 0 → Q 0 s11) ∧ ((s11 93 (w32 (v2 + 5))) = 0 → Q 1 s11))))))))) ∧ (¬ r10 ≤ 999 → Q 0 s11))))))))))))))))))))) : Mw g (e + 1) M_X13_childOn [(21, 92), (0, v1), (0, v2)] s Q := by
  refine Mw.of (ls := [(21, 92), (0, v1), (0, v2), (9, 0), (9, 0)]) pn_X13_childOn (Nat.le_of_ble_eq_true rfl) rfl (fun hv => ?_)
  have h := h (hv _ (List.Mem.tail _ (List.Mem.head _))) (hv _ (List.Mem.tail _ (List.Mem.tail _ (List.Mem.head _))))
  refine r_bipush dX13_childOn_0 (by decide) rfl ?_
  refine r_iload_n dX13_childOn_2 rfl ?_
  refine r_iadd dX13_childOn_3 ?_
  refine r_istore_n (ls2 := [(21, 92), (0, v1), (0, v2), (0, (w32 (16 + v1))), (9, 0)]) dX13_childOn_4 (by decide) rfl ?_
  refine r_aload_n dX13_childOn_5 rfl rfl ?_
  refine gf_X13_7 rfl dX13_childOn_6 ?_
  refine r_iload_n dX13_childOn_9 rfl ?_
  refine r_iconst dX13_childOn_10 (by decide) ?_
  refine r_iadd dX13_childOn_11 ?_
  obtain ⟨hb, h⟩ := h
  refine r_iald (n := 1800) rfl (by decide) dX13_childOn_12 hb ?_
  refine r_iconst dX13_childOn_13 (by decide) ?_
  refine r_isub dX13_childOn_14 ?_
  refine r_istore (ls2 := [(21, 92), (0, v1), (0, v2), (0, (w32 (16 + v1))), (0, (w32 ((s 93 (w32 (v2 + 3))) - 1)))]) dX13_childOn_15 (by decide) rfl ?_
  refine r_aload_n dX13_childOn_17 rfl rfl ?_
  refine gf_X13_168 rfl dX13_childOn_18 ?_
  refine r_iload_n dX13_childOn_21 rfl ?_
  refine r_aload_n dX13_childOn_22 rfl rfl ?_
  refine gf_X13_7 rfl dX13_childOn_23 ?_
  refine r_iload_n dX13_childOn_26 rfl ?_
  obtain ⟨hb, h⟩ := h
  refine r_iald (n := 1800) rfl (by decide) dX13_childOn_27 hb ?_
  obtain ⟨hb, h⟩ := h
  refine r_iast (n := 184) rfl (by decide) dX13_childOn_28 hb ?_
  have h := h _ rfl
  generalize hs_s1 : ups s 124 (w32 (16 + v1)) (s 93 v2) = s1 at h ⊢
  refine r_aload_n dX13_childOn_29 rfl rfl ?_
  refine gf_X13_171 rfl dX13_childOn_30 ?_
  refine r_iload_n dX13_childOn_33 rfl ?_
  refine r_aload_n dX13_childOn_34 rfl rfl ?_
  refine r_iload_n dX13_childOn_35 rfl ?_
  refine r_iconst dX13_childOn_36 (by decide) ?_
  refine r_iadd dX13_childOn_37 ?_
  refine r_callV (ci := 11) (As := [(0, (w32 (v2 + 1)))]) (st := [(0, (w32 (16 + v1))), (56, 125)]) (by decide) ok_X13_619 rfl rfl (Nat.le_of_ble_eq_true rfl) dX13_childOn_38 h (fun r2 s3 hv h => ?_)
  obtain ⟨hb, h⟩ := h
  refine r_iast (n := 184) rfl (by decide) dX13_childOn_41 hb ?_
  have h := h _ rfl
  generalize hs_s4 : ups s3 125 (w32 (16 + v1)) r2 = s4 at h ⊢
  refine r_aload_n dX13_childOn_42 rfl rfl ?_
  refine gf_X13_174 rfl dX13_childOn_43 ?_
  refine r_iload_n dX13_childOn_46 rfl ?_
  refine r_iload dX13_childOn_47 rfl ?_
  obtain ⟨hb, h⟩ := h
  refine r_iast (n := 184) rfl (by decide) dX13_childOn_49 hb ?_
  have h := h _ rfl
  generalize hs_s5 : ups s4 126 (w32 (16 + v1)) (w32 ((s 93 (w32 (v2 + 3))) - 1)) = s5 at h ⊢
  refine r_aload_n dX13_childOn_50 rfl rfl ?_
  refine gf_X13_177 rfl dX13_childOn_51 ?_
  refine r_iload_n dX13_childOn_54 rfl ?_
  refine r_aload_n dX13_childOn_55 rfl rfl ?_
  refine gf_X13_7 rfl dX13_childOn_56 ?_
  refine r_iload_n dX13_childOn_59 rfl ?_
  refine r_iconst dX13_childOn_60 (by decide) ?_
  refine r_iadd dX13_childOn_61 ?_
  obtain ⟨hb, h⟩ := h
  refine r_iald (n := 1800) rfl (by decide) dX13_childOn_62 hb ?_
  obtain ⟨hb, h⟩ := h
  refine r_iast (n := 184) rfl (by decide) dX13_childOn_63 hb ?_
  have h := h _ rfl
  generalize hs_s6 : ups s5 127 (w32 (16 + v1)) (s5 93 (w32 (v2 + 4))) = s6 at h ⊢
  refine r_aload_n dX13_childOn_64 rfl rfl ?_
  refine gf_X13_180 rfl dX13_childOn_65 ?_
  refine r_iload_n dX13_childOn_68 rfl ?_
  refine r_aload_n dX13_childOn_69 rfl rfl ?_
  refine gf_X13_7 rfl dX13_childOn_70 ?_
  refine r_iload_n dX13_childOn_73 rfl ?_
  refine r_iconst dX13_childOn_74 (by decide) ?_
  refine r_iadd dX13_childOn_75 ?_
  obtain ⟨hb, h⟩ := h
  refine r_iald (n := 1800) rfl (by decide) dX13_childOn_76 hb ?_
  obtain ⟨hb, h⟩ := h
  refine r_iast (n := 184) rfl (by decide) dX13_childOn_77 hb ?_
  have h := h _ rfl
  generalize hs_s7 : ups s6 128 (w32 (16 + v1)) (s6 93 (w32 (v2 + 5))) = s7 at h ⊢
  refine r_aload_n dX13_childOn_78 rfl rfl ?_
  refine r_aload_n dX13_childOn_79 rfl rfl ?_
  refine gf_X13_7 rfl dX13_childOn_80 ?_
  refine r_iload_n dX13_childOn_83 rfl ?_
  obtain ⟨hb, h⟩ := h
  refine r_iald (n := 1800) rfl (by decide) dX13_childOn_84 hb ?_
  refine r_callV (ci := 11) (As := [(0, (s7 93 v2))]) (st := []) (by decide) ok_X13_588 rfl rfl (Nat.le_of_ble_eq_true rfl) dX13_childOn_85 h (fun r8 s9 hv h => ?_)
  refine r_if_eq (tgt := 104) dX13_childOn_88 (by decide) (fun hc => ?_) (fun hc => ?_)
  · have h := h.1 hc
    refine r_iconst dX13_childOn_104 (by decide) ?_
    exact r_zret dX13_childOn_105 rfl (by decide) h
  · have h := h.2 hc
    refine r_aload_n dX13_childOn_91 rfl rfl ?_
    refine r_iload_n dX13_childOn_92 rfl ?_
    refine r_iconst dX13_childOn_93 (by decide) ?_
    refine r_iadd dX13_childOn_94 ?_
    refine r_callV (ci := 11) (As := [(0, (w32 (v2 + 1)))]) (st := []) (by decide) ok_X13_619 rfl rfl (Nat.le_of_ble_eq_true rfl) dX13_childOn_95 h (fun r10 s11 hv h => ?_)
    refine r_sipush dX13_childOn_98 (by decide) rfl ?_
    refine r_icmp_le (tgt := 106) dX13_childOn_101 (by decide) (fun hc => ?_) (fun hc => ?_)
    · have h := h.1 hc
      refine r_iload dX13_childOn_106 rfl ?_
      refine r_iconst dX13_childOn_108 (by decide) ?_
      refine r_icmp_ne (tgt := 140) dX13_childOn_109 (by decide) (fun hc => ?_) (fun hc => ?_)
      · have h := h.1 hc
        refine r_aload_n dX13_childOn_140 rfl rfl ?_
        refine r_iload dX13_childOn_141 rfl ?_
        refine r_callV (ci := 11) (As := [(0, (w32 ((s 93 (w32 (v2 + 3))) - 1)))]) (st := []) (by decide) ok_X13_594 rfl rfl (Nat.le_of_ble_eq_true rfl) dX13_childOn_143 h (fun r12 s13 hv h => ?_)
        refine r_if_eq (tgt := 158) dX13_childOn_146 (by decide) (fun hc => ?_) (fun hc => ?_)
        · have h := h.1 hc
          refine r_iconst dX13_childOn_158 (by decide) ?_
          exact r_zret dX13_childOn_159 rfl (by decide) h
        · have h := h.2 hc
          refine r_aload_n dX13_childOn_149 rfl rfl ?_
          refine r_iconst dX13_childOn_150 (by decide) ?_
          refine r_iload_n dX13_childOn_151 rfl ?_
          refine r_callV (ci := 11) (As := [(0, 2), (0, v1)]) (st := []) (by decide) ok_X13_504 rfl rfl (Nat.le_of_ble_eq_true rfl) dX13_childOn_152 h (fun r14 s15 hv h => ?_)
          refine r_if_ne (tgt := 160) dX13_childOn_155 (by decide) (fun hc => ?_) (fun hc => ?_)
          · have h := h.1 hc
            refine r_aload_n dX13_childOn_160 rfl rfl ?_
            refine gf_X13_7 rfl dX13_childOn_161 ?_
            refine r_iload_n dX13_childOn_164 rfl ?_
            refine r_iconst dX13_childOn_165 (by decide) ?_
            refine r_iadd dX13_childOn_166 ?_
            obtain ⟨hb, h⟩ := h
            refine r_iald (n := 1800) rfl (by decide) dX13_childOn_167 hb ?_
            refine r_aload_n dX13_childOn_168 rfl rfl ?_
            refine gf_X13_87 rfl dX13_childOn_169 ?_
            refine r_iconst dX13_childOn_172 (by decide) ?_
            refine r_aload_n dX13_childOn_173 rfl rfl ?_
            refine gf_X13_51 rfl dX13_childOn_174 ?_
            refine r_imul dX13_childOn_177 ?_
            refine r_iload dX13_childOn_178 rfl ?_
            refine r_iadd dX13_childOn_180 ?_
            obtain ⟨hb, h⟩ := h
            refine r_iald (n := 8) rfl (by decide) dX13_childOn_181 hb ?_
            refine r_icmp_ge (tgt := 214) dX13_childOn_182 (by decide) (fun hc => ?_) (fun hc => ?_)
            · have h := h.1 hc
              refine r_iconst dX13_childOn_214 (by decide) ?_
              exact r_zret dX13_childOn_215 rfl (by decide) h
            · have h := h.2 hc
              refine r_aload_n dX13_childOn_185 rfl rfl ?_
              refine gf_X13_7 rfl dX13_childOn_186 ?_
              refine r_iload_n dX13_childOn_189 rfl ?_
              refine r_iconst dX13_childOn_190 (by decide) ?_
              refine r_iadd dX13_childOn_191 ?_
              obtain ⟨hb, h⟩ := h
              refine r_iald (n := 1800) rfl (by decide) dX13_childOn_192 hb ?_
              refine r_aload_n dX13_childOn_193 rfl rfl ?_
              refine gf_X13_90 rfl dX13_childOn_194 ?_
              refine r_iconst dX13_childOn_197 (by decide) ?_
              refine r_aload_n dX13_childOn_198 rfl rfl ?_
              refine gf_X13_51 rfl dX13_childOn_199 ?_
              refine r_imul dX13_childOn_202 ?_
              refine r_iload dX13_childOn_203 rfl ?_
              refine r_iadd dX13_childOn_205 ?_
              obtain ⟨hb, h⟩ := h
              refine r_iald (n := 8) rfl (by decide) dX13_childOn_206 hb ?_
              refine r_icmp_ge (tgt := 214) dX13_childOn_207 (by decide) (fun hc => ?_) (fun hc => ?_)
              · have h := h.1 hc
                refine r_iconst dX13_childOn_214 (by decide) ?_
                exact r_zret dX13_childOn_215 rfl (by decide) h
              · have h := h.2 hc
                refine r_iconst dX13_childOn_210 (by decide) ?_
                refine r_goto (tgt := 215) dX13_childOn_211 (by decide) ?_
                exact r_zret dX13_childOn_215 rfl (by decide) h
          · have h := h.2 hc
            refine r_iconst dX13_childOn_158 (by decide) ?_
            exact r_zret dX13_childOn_159 rfl (by decide) h
      · have h := h.2 hc
        refine r_aload_n dX13_childOn_112 rfl rfl ?_
        refine gf_X13_7 rfl dX13_childOn_113 ?_
        refine r_iload_n dX13_childOn_116 rfl ?_
        refine r_iconst dX13_childOn_117 (by decide) ?_
        refine r_iadd dX13_childOn_118 ?_
        obtain ⟨hb, h⟩ := h
        refine r_iald (n := 1800) rfl (by decide) dX13_childOn_119 hb ?_
        refine r_if_ne (tgt := 138) dX13_childOn_120 (by decide) (fun hc => ?_) (fun hc => ?_)
        · have h := h.1 hc
          refine r_iconst dX13_childOn_138 (by decide) ?_
          exact r_zret dX13_childOn_139 rfl (by decide) h
        · have h := h.2 hc
          refine r_aload_n dX13_childOn_123 rfl rfl ?_
          refine gf_X13_7 rfl dX13_childOn_124 ?_
          refine r_iload_n dX13_childOn_127 rfl ?_
          refine r_iconst dX13_childOn_128 (by decide) ?_
          refine r_iadd dX13_childOn_129 ?_
          obtain ⟨hb, h⟩ := h
          refine r_iald (n := 1800) rfl (by decide) dX13_childOn_130 hb ?_
          refine r_if_ne (tgt := 138) dX13_childOn_131 (by decide) (fun hc => ?_) (fun hc => ?_)
          · have h := h.1 hc
            refine r_iconst dX13_childOn_138 (by decide) ?_
            exact r_zret dX13_childOn_139 rfl (by decide) h
          · have h := h.2 hc
            refine r_iconst dX13_childOn_134 (by decide) ?_
            refine r_goto (tgt := 139) dX13_childOn_135 (by decide) ?_
            exact r_zret dX13_childOn_139 rfl (by decide) h
    · have h := h.2 hc
      refine r_iconst dX13_childOn_104 (by decide) ?_
      exact r_zret dX13_childOn_105 rfl (by decide) h
abbrev P_X13_areLaid_2 (g : GT) (e : Nat) (Q : Int → Sg → Prop) (s : Sg) (v1 : Int) : Prop := Wp g (e + 1) M_X13_areLaid Q 2 [(21, 92), (0, v1), (9, 0)] [] s
set_option maxRecDepth 20000 in
theorem S_X13_areLaid_2 {g : GT} {e : Nat} {Q : Int → Sg → Prop} {s : Sg} {v1 : Int} (h : ((0 ≤ (s 92 13) ∧ (s 92 13) < 2) ∧ (((s 97 (s 92 13)) ≤ v1 → Q 1 s) ∧ (¬ (s 97 (s 92 13)) ≤ v1 → (Mw g e M_X13_inWall [(21, 92), (0, 2), (0, v1)] s (fun r1 s2 => ((¬ r1 = (-1) → (Mw g e M_X13_column [(21, 92), (0, 2), (0, v1)] s2 (fun r3 s4 => (Mw g e M_X13_course [(21, 92), (0, 2), (0, v1)] s4 (fun r5 s6 => (Mw g e M_X13_lies [(21, 92), (0, 2), (0, r1), (0, r3), (0, r5)] s6 (fun r7 s8 => ((r7 = v1 → (Mw g e M_X13_course [(21, 92), (0, 2), (0, v1)] s8 (fun r9 s10 => ((r9 ≤ 0 → P_X13_areLaid_2 g e Q s10 (w32 (v1 + 1))) ∧ (¬ r9 ≤ 0 → (Mw g e M_X13_column [(21, 92), (0, 2), (0, v1)] s10 (fun r11 s12 => (Mw g e M_X13_course [(21, 92), (0, 2), (0, v1)] s12 (fun r13 s14 => (Mw g e M_X13_lies [(21, 92), (0, 2), (0, r1), (0, r11), (0, (w32 (r13 - 1)))] s14 (fun r15 s16 => ((¬ r15 = (-1) → P_X13_areLaid_2 g e Q s16 (w32 (v1 + 1))) ∧ (r15 = (-1) → Q 0 s16))))))))))))) ∧ (¬ r7 = v1 → Q 0 s8))))))))) ∧ (r1 = (-1) → P_X13_areLaid_2 g e Q s2 (w32 (v1 + 1)))))))))) : P_X13_areLaid_2 g e Q s v1 := by
  refine r_iload_n dX13_areLaid_2 rfl ?_
  refine r_aload_n dX13_areLaid_3 rfl rfl ?_
  refine gf_X13_63 rfl dX13_areLaid_4 ?_
  refine r_aload_n dX13_areLaid_7 rfl rfl ?_
  refine gf_X13_51 rfl dX13_areLaid_8 ?_
  obtain ⟨hb, h⟩ := h
  refine r_iald (n := 2) rfl (by decide) dX13_areLaid_11 hb ?_
  refine r_icmp_ge (tgt := 95) dX13_areLaid_12 (by decide) (fun hc => ?_) (fun hc => ?_)
  · have h := h.1 hc
    refine r_iconst dX13_areLaid_95 (by decide) ?_
    exact r_zret dX13_areLaid_96 rfl (by decide) h
  · have h := h.2 hc
    refine r_aload_n dX13_areLaid_15 rfl rfl ?_
    refine r_iconst dX13_areLaid_16 (by decide) ?_
    refine r_iload_n dX13_areLaid_17 rfl ?_
    refine r_callV (ci := 11) (As := [(0, 2), (0, v1)]) (st := []) (by decide) ok_X13_507 rfl rfl (Nat.le_of_ble_eq_true rfl) dX13_areLaid_18 h (fun r1 s2 hv h => ?_)
    refine r_istore_n (ls2 := [(21, 92), (0, v1), (0, r1)]) dX13_areLaid_21 (by decide) rfl ?_
    refine r_iload_n dX13_areLaid_22 rfl ?_
    refine r_iconst dX13_areLaid_23 (by decide) ?_
    refine r_icmp_ne (tgt := 30) dX13_areLaid_24 (by decide) (fun hc => ?_) (fun hc => ?_)
    · have h := h.1 hc
      refine r_aload_n dX13_areLaid_30 rfl rfl ?_
      refine r_iconst dX13_areLaid_31 (by decide) ?_
      refine r_iload_n dX13_areLaid_32 rfl ?_
      refine r_aload_n dX13_areLaid_33 rfl rfl ?_
      refine r_iconst dX13_areLaid_34 (by decide) ?_
      refine r_iload_n dX13_areLaid_35 rfl ?_
      refine r_callV (ci := 11) (As := [(0, 2), (0, v1)]) (st := [(0, r1), (0, 2), (21, 92)]) (by decide) ok_X13_510 rfl rfl (Nat.le_of_ble_eq_true rfl) dX13_areLaid_36 h (fun r3 s4 hv h => ?_)
      refine r_aload_n dX13_areLaid_39 rfl rfl ?_
      refine r_iconst dX13_areLaid_40 (by decide) ?_
      refine r_iload_n dX13_areLaid_41 rfl ?_
      refine r_callV (ci := 11) (As := [(0, 2), (0, v1)]) (st := [(0, r3), (0, r1), (0, 2), (21, 92)]) (by decide) ok_X13_513 rfl rfl (Nat.le_of_ble_eq_true rfl) dX13_areLaid_42 h (fun r5 s6 hv h => ?_)
      refine r_callV (ci := 11) (As := [(0, 2), (0, r1), (0, r3), (0, r5)]) (st := []) (by decide) ok_X13_534 rfl rfl (Nat.le_of_ble_eq_true rfl) dX13_areLaid_45 h (fun r7 s8 hv h => ?_)
      refine r_iload_n dX13_areLaid_48 rfl ?_
      refine r_icmp_eq (tgt := 54) dX13_areLaid_49 (by decide) (fun hc => ?_) (fun hc => ?_)
      · have h := h.1 hc
        refine r_aload_n dX13_areLaid_54 rfl rfl ?_
        refine r_iconst dX13_areLaid_55 (by decide) ?_
        refine r_iload_n dX13_areLaid_56 rfl ?_
        refine r_callV (ci := 11) (As := [(0, 2), (0, v1)]) (st := []) (by decide) ok_X13_513 rfl rfl (Nat.le_of_ble_eq_true rfl) dX13_areLaid_57 h (fun r9 s10 hv h => ?_)
        refine r_if_le (tgt := 89) dX13_areLaid_60 (by decide) (fun hc => ?_) (fun hc => ?_)
        · have h := h.1 hc
          refine r_iinc (ls2 := [(21, 92), (0, (w32 (v1 + 1))), (0, r1)]) dX13_areLaid_89 rfl (by decide) rfl ?_
          refine r_goto (tgt := 2) dX13_areLaid_92 (by decide) ?_
          exact r_fgt [true, true, false] rfl h
        · have h := h.2 hc
          refine r_aload_n dX13_areLaid_63 rfl rfl ?_
          refine r_iconst dX13_areLaid_64 (by decide) ?_
          refine r_iload_n dX13_areLaid_65 rfl ?_
          refine r_aload_n dX13_areLaid_66 rfl rfl ?_
          refine r_iconst dX13_areLaid_67 (by decide) ?_
          refine r_iload_n dX13_areLaid_68 rfl ?_
          refine r_callV (ci := 11) (As := [(0, 2), (0, v1)]) (st := [(0, r1), (0, 2), (21, 92)]) (by decide) ok_X13_510 rfl rfl (Nat.le_of_ble_eq_true rfl) dX13_areLaid_69 h (fun r11 s12 hv h => ?_)
          refine r_aload_n dX13_areLaid_72 rfl rfl ?_
          refine r_iconst dX13_areLaid_73 (by decide) ?_
          refine r_iload_n dX13_areLaid_74 rfl ?_
          refine r_callV (ci := 11) (As := [(0, 2), (0, v1)]) (st := [(0, r11), (0, r1), (0, 2), (21, 92)]) (by decide) ok_X13_513 rfl rfl (Nat.le_of_ble_eq_true rfl) dX13_areLaid_75 h (fun r13 s14 hv h => ?_)
          refine r_iconst dX13_areLaid_78 (by decide) ?_
          refine r_isub dX13_areLaid_79 ?_
          refine r_callV (ci := 11) (As := [(0, 2), (0, r1), (0, r11), (0, (w32 (r13 - 1)))]) (st := []) (by decide) ok_X13_534 rfl rfl (Nat.le_of_ble_eq_true rfl) dX13_areLaid_80 h (fun r15 s16 hv h => ?_)
          refine r_iconst dX13_areLaid_83 (by decide) ?_
          refine r_icmp_ne (tgt := 89) dX13_areLaid_84 (by decide) (fun hc => ?_) (fun hc => ?_)
          · have h := h.1 hc
            refine r_iinc (ls2 := [(21, 92), (0, (w32 (v1 + 1))), (0, r1)]) dX13_areLaid_89 rfl (by decide) rfl ?_
            refine r_goto (tgt := 2) dX13_areLaid_92 (by decide) ?_
            exact r_fgt [true, true, false] rfl h
          · have h := h.2 hc
            refine r_iconst dX13_areLaid_87 (by decide) ?_
            exact r_zret dX13_areLaid_88 rfl (by decide) h
      · have h := h.2 hc
        refine r_iconst dX13_areLaid_52 (by decide) ?_
        exact r_zret dX13_areLaid_53 rfl (by decide) h
    · have h := h.2 hc
      refine r_goto (tgt := 89) dX13_areLaid_27 (by decide) ?_
      refine r_iinc (ls2 := [(21, 92), (0, (w32 (v1 + 1))), (0, r1)]) dX13_areLaid_89 rfl (by decide) rfl ?_
      refine r_goto (tgt := 2) dX13_areLaid_92 (by decide) ?_
      exact r_fgt [true, true, false] rfl h
set_option maxRecDepth 20000 in
theorem S_X13_areLaid {g : GT} {e : Nat} {Q : Int → Sg → Prop} {s : Sg} (h : P_X13_areLaid_2 g e Q s 0) : Mw g (e + 1) M_X13_areLaid [(21, 92)] s Q := by
  refine Mw.of (ls := [(21, 92), (9, 0), (9, 0)]) pn_X13_areLaid (Nat.le_of_ble_eq_true rfl) rfl (fun hv => ?_)
  refine r_iconst dX13_areLaid_0 (by decide) ?_
  refine r_istore_n (ls2 := [(21, 92), (0, 0), (9, 0)]) dX13_areLaid_1 (by decide) rfl ?_
  exact h
abbrev P_X13_comesOn_52 (g : GT) (e : Nat) (Q : Int → Sg → Prop) (s : Sg) (v1 : Int) (v2 : Int) (v3 : Int) (v4 : Int) : Prop := Wp g (e + 1) M_X13_comesOn Q 52 [(21, 92), (0, v1), (0, v2), (0, v3), (0, v4)] [] s
abbrev P_X13_comesOn_130 (g : GT) (e : Nat) (Q : Int → Sg → Prop) (s : Sg) (v2 : Int) (v4 : Int) : Prop := Wp g (e + 1) M_X13_comesOn Q 130 [(21, 92), (9, 0), (0, v2), (9, 0), (0, v4)] [] s
abbrev P_X13_comesOn_171 (g : GT) (e : Nat) (Q : Int → Sg → Prop) (s : Sg) (v2 : Int) (v4 : Int) : Prop := Wp g (e + 1) M_X13_comesOn Q 171 [(21, 92), (9, 0), (0, v2), (9, 0), (0, v4)] [] s
set_option maxRecDepth 20000 in
theorem S_X13_comesOn_52 {g : GT} {e : Nat} {Q : Int → Sg → Prop} {s : Sg} {v1 : Int} {v2 : Int} {v3 : Int} {v4 : Int} (h : (((w32 (v1 - 1)) ≤ v4 → ((0 ≤ (w32 (v1 - 1)) ∧ (w32 (v1 - 1)) < 1800) ∧ (((s 93 (w32 (v1 - 1))) = v3 → (Mw g e M_X13_copies [(21, 92), (0, 2), (0, 0)] s (fun _ s2 => (Mw g e M_X13_twoBytes [(21, 92), (0, 0)] s2 (fun r3 s4 => (∀ s5, s5 = ups s4 122 2 r3 → (∀ s6, s6 = ups s5 123 2 0 → (∀ s7, s7 = ups s6 129 2 0 → P_X13_comesOn_130 g e Q s7 v2 0)))))))) ∧ (¬ (s 93 (w32 (v1 - 1))) = v3 → Q 0 s)))) ∧ (¬ (w32 (v1 - 1)) ≤ v4 → ((0 ≤ v4 ∧ v4 < 1800) ∧ P_X13_comesOn_52 g e Q s v1 v2 (Int.tmod (w32 ((w32 (5 * v3)) + (s 93 v4))) 251) (w32 (v4 + 1)))))) : P_X13_comesOn_52 g e Q s v1 v2 v3 v4 := by
  refine r_iload dX13_comesOn_52 rfl ?_
  refine r_iload_n dX13_comesOn_54 rfl ?_
  refine r_iconst dX13_comesOn_55 (by decide) ?_
  refine r_isub dX13_comesOn_56 ?_
  refine r_icmp_ge (tgt := 82) dX13_comesOn_57 (by decide) (fun hc => ?_) (fun hc => ?_)
  · have h := h.1 hc
    refine r_aload_n dX13_comesOn_82 rfl rfl ?_
    refine gf_X13_7 rfl dX13_comesOn_83 ?_
    refine r_iload_n dX13_comesOn_86 rfl ?_
    refine r_iconst dX13_comesOn_87 (by decide) ?_
    refine r_isub dX13_comesOn_88 ?_
    obtain ⟨hb, h⟩ := h
    refine r_iald (n := 1800) rfl (by decide) dX13_comesOn_89 hb ?_
    refine r_iload_n dX13_comesOn_90 rfl ?_
    refine r_icmp_eq (tgt := 96) dX13_comesOn_91 (by decide) (fun hc => ?_) (fun hc => ?_)
    · have h := h.1 hc
      refine r_aload_n dX13_comesOn_96 rfl rfl ?_
      refine r_iconst dX13_comesOn_97 (by decide) ?_
      refine r_iconst dX13_comesOn_98 (by decide) ?_
      refine r_callV (ci := 11) (As := [(0, 2), (0, 0)]) (st := []) (by decide) ok_X13_461 rfl rfl (Nat.le_of_ble_eq_true rfl) dX13_comesOn_99 h (fun r1 s2 hv h => ?_)
      refine r_aload_n dX13_comesOn_102 rfl rfl ?_
      refine gf_X13_162 rfl dX13_comesOn_103 ?_
      refine r_iconst dX13_comesOn_106 (by decide) ?_
      refine r_aload_n dX13_comesOn_107 rfl rfl ?_
      refine r_iconst dX13_comesOn_108 (by decide) ?_
      refine r_callV (ci := 11) (As := [(0, 0)]) (st := [(0, 2), (55, 122)]) (by decide) ok_X13_619 rfl rfl (Nat.le_of_ble_eq_true rfl) dX13_comesOn_109 h (fun r3 s4 hv h => ?_)
      refine r_iast (n := 23) rfl (by decide) dX13_comesOn_112 (by decide) ?_
      have h := h _ rfl
      generalize hs_s5 : ups s4 122 2 r3 = s5 at h ⊢
      refine r_aload_n dX13_comesOn_113 rfl rfl ?_
      refine gf_X13_165 rfl dX13_comesOn_114 ?_
      refine r_iconst dX13_comesOn_117 (by decide) ?_
      refine r_iconst dX13_comesOn_118 (by decide) ?_
      refine r_iast (n := 23) rfl (by decide) dX13_comesOn_119 (by decide) ?_
      have h := h _ rfl
      generalize hs_s6 : ups s5 123 2 0 = s6 at h ⊢
      refine r_aload_n dX13_comesOn_120 rfl rfl ?_
      refine gf_X13_183 rfl dX13_comesOn_121 ?_
      refine r_iconst dX13_comesOn_124 (by decide) ?_
      refine r_iconst dX13_comesOn_125 (by decide) ?_
      refine r_iast (n := 23) rfl (by decide) dX13_comesOn_126 (by decide) ?_
      have h := h _ rfl
      generalize hs_s7 : ups s6 129 2 0 = s7 at h ⊢
      refine r_iconst dX13_comesOn_127 (by decide) ?_
      refine r_istore (ls2 := [(21, 92), (0, v1), (0, v2), (0, v3), (0, 0)]) dX13_comesOn_128 (by decide) rfl ?_
      exact r_fgt [true, false, true, false, true] rfl h
    · have h := h.2 hc
      refine r_iconst dX13_comesOn_94 (by decide) ?_
      exact r_zret dX13_comesOn_95 rfl (by decide) h
  · have h := h.2 hc
    refine r_iconst dX13_comesOn_60 (by decide) ?_
    refine r_iload_n dX13_comesOn_61 rfl ?_
    refine r_imul dX13_comesOn_62 ?_
    refine r_aload_n dX13_comesOn_63 rfl rfl ?_
    refine gf_X13_7 rfl dX13_comesOn_64 ?_
    refine r_iload dX13_comesOn_67 rfl ?_
    obtain ⟨hb, h⟩ := h
    refine r_iald (n := 1800) rfl (by decide) dX13_comesOn_69 hb ?_
    refine r_iadd dX13_comesOn_70 ?_
    refine r_sipush dX13_comesOn_71 (by decide) rfl ?_
    refine r_irem dX13_comesOn_74 (by decide) ?_
    refine r_istore_n (ls2 := [(21, 92), (0, v1), (0, v2), (0, (Int.tmod (w32 ((w32 (5 * v3)) + (s 93 v4))) 251)), (0, v4)]) dX13_comesOn_75 (by decide) rfl ?_
    refine r_iinc (ls2 := [(21, 92), (0, v1), (0, v2), (0, (Int.tmod (w32 ((w32 (5 * v3)) + (s 93 v4))) 251)), (0, (w32 (v4 + 1)))]) dX13_comesOn_76 rfl (by decide) rfl ?_
    refine r_goto (tgt := 52) dX13_comesOn_79 (by decide) ?_
    exact h
set_option maxRecDepth 20000 in
theorem S_X13_comesOn_130 {g : GT} {e : Nat} {Q : Int → Sg → Prop} {s : Sg} {v2 : Int} {v4 : Int} (h : ((0 ≤ (s 92 13) ∧ (s 92 13) < 2) ∧ (((s 97 (s 92 13)) ≤ v4 → P_X13_comesOn_171 g e Q s v2 0) ∧ (¬ (s 97 (s 92 13)) ≤ v4 → (Mw g e M_X13_childOn [(21, 92), (0, v4), (0, (w32 (2 + (w32 (6 * v4)))))] s (fun r1 s2 => ((¬ r1 = 0 → P_X13_comesOn_130 g e Q s2 v2 (w32 (v4 + 1))) ∧ (r1 = 0 → Q 0 s2)))))))) : P_X13_comesOn_130 g e Q s v2 v4 := by
  refine r_iload dX13_comesOn_130 rfl ?_
  refine r_aload_n dX13_comesOn_132 rfl rfl ?_
  refine gf_X13_63 rfl dX13_comesOn_133 ?_
  refine r_aload_n dX13_comesOn_136 rfl rfl ?_
  refine gf_X13_51 rfl dX13_comesOn_137 ?_
  obtain ⟨hb, h⟩ := h
  refine r_iald (n := 2) rfl (by decide) dX13_comesOn_140 hb ?_
  refine r_icmp_ge (tgt := 168) dX13_comesOn_141 (by decide) (fun hc => ?_) (fun hc => ?_)
  · have h := h.1 hc
    refine r_iconst dX13_comesOn_168 (by decide) ?_
    refine r_istore (ls2 := [(21, 92), (9, 0), (0, v2), (9, 0), (0, 0)]) dX13_comesOn_169 (by decide) rfl ?_
    exact h
  · have h := h.2 hc
    refine r_aload_n dX13_comesOn_144 rfl rfl ?_
    refine r_iload dX13_comesOn_145 rfl ?_
    refine r_iconst dX13_comesOn_147 (by decide) ?_
    refine r_bipush dX13_comesOn_148 (by decide) rfl ?_
    refine r_iload dX13_comesOn_150 rfl ?_
    refine r_imul dX13_comesOn_152 ?_
    refine r_iadd dX13_comesOn_153 ?_
    refine r_callV (ci := 11) (As := [(0, v4), (0, (w32 (2 + (w32 (6 * v4)))))]) (st := []) (by decide) ok_X13_649 rfl rfl (Nat.le_of_ble_eq_true rfl) dX13_comesOn_154 h (fun r1 s2 hv h => ?_)
    refine r_if_ne (tgt := 162) dX13_comesOn_157 (by decide) (fun hc => ?_) (fun hc => ?_)
    · have h := h.1 hc
      refine r_iinc (ls2 := [(21, 92), (9, 0), (0, v2), (9, 0), (0, (w32 (v4 + 1)))]) dX13_comesOn_162 rfl (by decide) rfl ?_
      refine r_goto (tgt := 130) dX13_comesOn_165 (by decide) ?_
      exact h
    · have h := h.2 hc
      refine r_iconst dX13_comesOn_160 (by decide) ?_
      exact r_zret dX13_comesOn_161 rfl (by decide) h
set_option maxRecDepth 20000 in
theorem S_X13_comesOn_171 {g : GT} {e : Nat} {Q : Int → Sg → Prop} {s : Sg} {v2 : Int} {v4 : Int} (h : ((0 ≤ (s 92 13) ∧ (s 92 13) < 2) ∧ (((s 101 (s 92 13)) ≤ v4 → (Mw g e M_X13_areLaid [(21, 92)] s (fun r1 s2 => ((r1 = 0 ∨ r1 = 1) ∧ Q r1 s2)))) ∧ (¬ (s 101 (s 92 13)) ≤ v4 → ((0 ≤ (w32 (v2 + v4)) ∧ (w32 (v2 + v4)) < 1800) ∧ (((s 93 (w32 (v2 + v4))) ≤ 1 → ((0 ≤ (w32 (v2 + v4)) ∧ (w32 (v2 + v4)) < 1800) ∧ (∀ s3, s3 = ups s 123 2 (bOr (s 123 2) (bShl (s 93 (w32 (v2 + v4))) v4)) → P_X13_comesOn_171 g e Q s3 v2 (w32 (v4 + 1))))) ∧ (¬ (s 93 (w32 (v2 + v4))) ≤ 1 → Q 0 s))))))) : P_X13_comesOn_171 g e Q s v2 v4 := by
  refine r_iload dX13_comesOn_171 rfl ?_
  refine r_aload_n dX13_comesOn_173 rfl rfl ?_
  refine gf_X13_75 rfl dX13_comesOn_174 ?_
  refine r_aload_n dX13_comesOn_177 rfl rfl ?_
  refine gf_X13_51 rfl dX13_comesOn_178 ?_
  obtain ⟨hb, h⟩ := h
  refine r_iald (n := 2) rfl (by decide) dX13_comesOn_181 hb ?_
  refine r_icmp_ge (tgt := 227) dX13_comesOn_182 (by decide) (fun hc => ?_) (fun hc => ?_)
  · have h := h.1 hc
    refine r_aload_n dX13_comesOn_227 rfl rfl ?_
    refine r_callV (ci := 11) (As := []) (st := []) (by decide) ok_X13_652 rfl rfl (Nat.le_of_ble_eq_true rfl) dX13_comesOn_228 h (fun r1 s2 hv h => ?_)
    exact r_zret dX13_comesOn_231 rfl h.1 h.2
  · have h := h.2 hc
    refine r_aload_n dX13_comesOn_185 rfl rfl ?_
    refine gf_X13_7 rfl dX13_comesOn_186 ?_
    refine r_iload_n dX13_comesOn_189 rfl ?_
    refine r_iload dX13_comesOn_190 rfl ?_
    refine r_iadd dX13_comesOn_192 ?_
    obtain ⟨hb, h⟩ := h
    refine r_iald (n := 1800) rfl (by decide) dX13_comesOn_193 hb ?_
    refine r_iconst dX13_comesOn_194 (by decide) ?_
    refine r_icmp_le (tgt := 200) dX13_comesOn_195 (by decide) (fun hc => ?_) (fun hc => ?_)
    · have h := h.1 hc
      refine r_aload_n dX13_comesOn_200 rfl rfl ?_
      refine gf_X13_165 rfl dX13_comesOn_201 ?_
      refine r_iconst dX13_comesOn_204 (by decide) ?_
      refine r_dup2 dX13_comesOn_205 (show (0 : Nat) ≠ 2 by decide) (show (55 : Nat) ≠ 2 by decide) ?_
      refine r_iald (n := 23) rfl (by decide) dX13_comesOn_206 (by decide) ?_
      refine r_aload_n dX13_comesOn_207 rfl rfl ?_
      refine gf_X13_7 rfl dX13_comesOn_208 ?_
      refine r_iload_n dX13_comesOn_211 rfl ?_
      refine r_iload dX13_comesOn_212 rfl ?_
      refine r_iadd dX13_comesOn_214 ?_
      obtain ⟨hb, h⟩ := h
      refine r_iald (n := 1800) rfl (by decide) dX13_comesOn_215 hb ?_
      refine r_iload dX13_comesOn_216 rfl ?_
      refine r_ishl dX13_comesOn_218 ?_
      refine r_ior dX13_comesOn_219 ?_
      refine r_iast (n := 23) rfl (by decide) dX13_comesOn_220 (by decide) ?_
      have h := h _ rfl
      generalize hs_s3 : ups s 123 2 (bOr (s 123 2) (bShl (s 93 (w32 (v2 + v4))) v4)) = s3 at h ⊢
      refine r_iinc (ls2 := [(21, 92), (9, 0), (0, v2), (9, 0), (0, (w32 (v4 + 1)))]) dX13_comesOn_221 rfl (by decide) rfl ?_
      refine r_goto (tgt := 171) dX13_comesOn_224 (by decide) ?_
      exact h
    · have h := h.2 hc
      refine r_iconst dX13_comesOn_198 (by decide) ?_
      exact r_zret dX13_comesOn_199 rfl (by decide) h
set_option maxRecDepth 20000 in
theorem S_X13_comesOn {g : GT} {e : Nat} {Q : Int → Sg → Prop} {s : Sg} {v1 : Int} (h : inR v1 → ((0 ≤ (s 92 13) ∧ (s 92 13) < 2) ∧ ((0 ≤ (s 92 13) ∧ (s 92 13) < 2) ∧ ((¬ v1 = (w32 ((w32 ((w32 (2 + (w32 (6 * (s 97 (s 92 13)))))) + (s 101 (s 92 13)))) + 1)) → Q 0 s) ∧ (v1 = (w32 ((w32 ((w32 (2 + (w32 (6 * (s 97 (s 92 13)))))) + (s 101 (s 92 13)))) + 1)) → (Mw g e M_X13_twoBytes [(21, 92), (0, 0)] s (fun r1 s2 => ((r1 ≤ 999 → P_X13_comesOn_52 g e Q s2 v1 (w32 (2 + (w32 (6 * (s 97 (s 92 13)))))) 167 0) ∧ (¬ r1 ≤ 999 → Q 0 s2))))))))) : Mw g (e + 1) M_X13_comesOn [(21, 92), (0, v1)] s Q := by
  refine Mw.of (ls := [(21, 92), (0, v1), (9, 0), (9, 0), (9, 0)]) pn_X13_comesOn (Nat.le_of_ble_eq_true rfl) rfl (fun hv => ?_)
  have h := h (hv _ (List.Mem.tail _ (List.Mem.head _)))
  refine r_iconst dX13_comesOn_0 (by decide) ?_
  refine r_bipush dX13_comesOn_1 (by decide) rfl ?_
  refine r_aload_n dX13_comesOn_3 rfl rfl ?_
  refine gf_X13_63 rfl dX13_comesOn_4 ?_
  refine r_aload_n dX13_comesOn_7 rfl rfl ?_
  refine gf_X13_51 rfl dX13_comesOn_8 ?_
  obtain ⟨hb, h⟩ := h
  refine r_iald (n := 2) rfl (by decide) dX13_comesOn_11 hb ?_
  refine r_imul dX13_comesOn_12 ?_
  refine r_iadd dX13_comesOn_13 ?_
  refine r_istore_n (ls2 := [(21, 92), (0, v1), (0, (w32 (2 + (w32 (6 * (s 97 (s 92 13))))))), (9, 0), (9, 0)]) dX13_comesOn_14 (by decide) rfl ?_
  refine r_iload_n dX13_comesOn_15 rfl ?_
  refine r_iload_n dX13_comesOn_16 rfl ?_
  refine r_aload_n dX13_comesOn_17 rfl rfl ?_
  refine gf_X13_75 rfl dX13_comesOn_18 ?_
  refine r_aload_n dX13_comesOn_21 rfl rfl ?_
  refine gf_X13_51 rfl dX13_comesOn_22 ?_
  obtain ⟨hb, h⟩ := h
  refine r_iald (n := 2) rfl (by decide) dX13_comesOn_25 hb ?_
  refine r_iadd dX13_comesOn_26 ?_
  refine r_iconst dX13_comesOn_27 (by decide) ?_
  refine r_iadd dX13_comesOn_28 ?_
  refine r_icmp_ne (tgt := 43) dX13_comesOn_29 (by decide) (fun hc => ?_) (fun hc => ?_)
  · have h := h.1 hc
    refine r_iconst dX13_comesOn_43 (by decide) ?_
    exact r_zret dX13_comesOn_44 rfl (by decide) h
  · have h := h.2 hc
    refine r_aload_n dX13_comesOn_32 rfl rfl ?_
    refine r_iconst dX13_comesOn_33 (by decide) ?_
    refine r_callV (ci := 11) (As := [(0, 0)]) (st := []) (by decide) ok_X13_619 rfl rfl (Nat.le_of_ble_eq_true rfl) dX13_comesOn_34 h (fun r1 s2 hv h => ?_)
    refine r_sipush dX13_comesOn_37 (by decide) rfl ?_
    refine r_icmp_le (tgt := 45) dX13_comesOn_40 (by decide) (fun hc => ?_) (fun hc => ?_)
    · have h := h.1 hc
      refine r_sipush dX13_comesOn_45 (by decide) rfl ?_
      refine r_istore_n (ls2 := [(21, 92), (0, v1), (0, (w32 (2 + (w32 (6 * (s 97 (s 92 13))))))), (0, 167), (9, 0)]) dX13_comesOn_48 (by decide) rfl ?_
      refine r_iconst dX13_comesOn_49 (by decide) ?_
      refine r_istore (ls2 := [(21, 92), (0, v1), (0, (w32 (2 + (w32 (6 * (s 97 (s 92 13))))))), (0, 167), (0, 0)]) dX13_comesOn_50 (by decide) rfl ?_
      exact h
    · have h := h.2 hc
      refine r_iconst dX13_comesOn_43 (by decide) ?_
      exact r_zret dX13_comesOn_44 rfl (by decide) h
set_option maxRecDepth 20000 in
theorem S_X13_on {g : GT} {e : Nat} {Q : Int → Sg → Prop} {s : Sg} (h : (∀ s1, s1 = ups s 92 1 0 → (Mw g e M_X13_comesOn [(21, 92), (0, (s 92 1))] s1 (fun r2 s3 => ((¬ r2 = 0 → (Mw g e M_X13_copies [(21, 92), (0, 0), (0, 2)] s3 (fun _ s5 => (∀ s6, s6 = ups s5 92 59 0 → Q 1 s6)))) ∧ (r2 = 0 → (Mw g e M_X13_refuses [(21, 92), (0, 5)] s3 (fun r7 s8 => ((r7 < 0 → Q 0 s8) ∧ (¬ r7 < 0 → Q 1 s8)))))))))) : Mw g (e + 1) M_X13_on [(21, 92)] s Q := by
  refine Mw.of (ls := [(21, 92), (9, 0)]) pn_X13_on (Nat.le_of_ble_eq_true rfl) rfl (fun hv => ?_)
  refine r_aload_n dX13_on_0 rfl rfl ?_
  refine gf_X13_13 rfl dX13_on_1 ?_
  refine r_istore_n (ls2 := [(21, 92), (0, (s 92 1))]) dX13_on_4 (by decide) rfl ?_
  refine r_aload_n dX13_on_5 rfl rfl ?_
  refine r_iconst dX13_on_6 (by decide) ?_
  refine pf_X13_13 rfl dX13_on_7 ?_
  have h := h _ rfl
  generalize hs_s1 : ups s 92 1 0 = s1 at h ⊢
  refine r_aload_n dX13_on_10 rfl rfl ?_
  refine r_iload_n dX13_on_11 rfl ?_
  refine r_callV (ci := 11) (As := [(0, (s 92 1))]) (st := []) (by decide) ok_X13_655 rfl rfl (Nat.le_of_ble_eq_true rfl) dX13_on_12 h (fun r2 s3 hv h => ?_)
  refine r_if_ne (tgt := 32) dX13_on_15 (by decide) (fun hc => ?_) (fun hc => ?_)
  · have h := h.1 hc
    refine r_aload_n dX13_on_32 rfl rfl ?_
    refine r_iconst dX13_on_33 (by decide) ?_
    refine r_iconst dX13_on_34 (by decide) ?_
    refine r_callV (ci := 11) (As := [(0, 0), (0, 2)]) (st := []) (by decide) ok_X13_461 rfl rfl (Nat.le_of_ble_eq_true rfl) dX13_on_35 h (fun r4 s5 hv h => ?_)
    refine r_aload_n dX13_on_38 rfl rfl ?_
    refine r_iconst dX13_on_39 (by decide) ?_
    refine pf_X13_192 rfl dX13_on_40 ?_
    have h := h _ rfl
    generalize hs_s6 : ups s5 92 59 0 = s6 at h ⊢
    refine r_iconst dX13_on_43 (by decide) ?_
    exact r_zret dX13_on_44 rfl (by decide) h
  · have h := h.2 hc
    refine r_aload_n dX13_on_18 rfl rfl ?_
    refine r_iconst dX13_on_19 (by decide) ?_
    refine r_callV (ci := 11) (As := [(0, 5)]) (st := []) (by decide) ok_X13_250 rfl rfl (Nat.le_of_ble_eq_true rfl) dX13_on_20 h (fun r7 s8 hv h => ?_)
    refine r_if_lt (tgt := 30) dX13_on_23 (by decide) (fun hc => ?_) (fun hc => ?_)
    · have h := h.1 hc
      refine r_iconst dX13_on_30 (by decide) ?_
      exact r_zret dX13_on_31 rfl (by decide) h
    · have h := h.2 hc
      refine r_iconst dX13_on_26 (by decide) ?_
      refine r_goto (tgt := 31) dX13_on_27 (by decide) ?_
      exact r_zret dX13_on_31 rfl (by decide) h
