set_option maxRecDepth 20000 in
theorem S_X13_statement {g : GT} {e : Nat} {Q : Int → Sg → Prop} {s : Sg} (h : (Mw g e M_X13_lex [(21, 92)] s (fun _ s2 => (((s2 92 8) ≤ 0 → (Mw g e M_X13_isWord [(21, 92), (2, 1752132965)] s2 (fun r3 s4 => ((r3 = 0 → (Mw g e M_X13_isWord [(21, 92), (2, 426953501796)] s4 (fun r5 s6 => ((r5 = 0 → (Mw g e M_X13_isWord [(21, 92), (2, 500219604595)] s6 (fun r7 s8 => ((r7 = 0 → (Mw g e M_X13_isWord [(21, 92), (2, 1717925220)] s8 (fun r9 s10 => ((r9 = 0 → (Mw g e M_X13_isWord [(21, 92), (2, 2002873452)] s10 (fun r11 s12 => ((r11 = 0 → (Mw g e M_X13_isWord [(21, 92), (2, 444015930995)] s12 (fun r13 s14 => ((r13 = 0 → (Mw g e M_X13_isWord [(21, 92), (2, 7168377)] s14 (fun r15 s16 => ((r15 = 0 → (Mw g e M_X13_isWord [(21, 92), (2, 125762706564452)] s16 (fun r17 s18 => ((r17 = 0 → (Mw g e M_X13_isWord [(21, 92), (2, 131277443786867)] s18 (fun r19 s20 => ((r19 = 0 → (Mw g e M_X13_isWord [(21, 92), (2, 440006570868)] s20 (fun r21 s22 => ((r21 = 0 → (Mw g e M_X13_isWord [(21, 92), (2, 422676030835)] s22 (fun r23 s24 => ((r23 = 0 → (Mw g e M_X13_blame [(21, 92), (0, 1), (0, (s24 92 4))] s24 (fun _ s26 => Q 0 s26))) ∧ (¬ r23 = 0 → (Mw g e M_X13_telling [(21, 92), (0, 4), (0, 0), (0, 99)] s24 (fun _ s28 => Q 0 s28))))))) ∧ (¬ r21 = 0 → (Mw g e M_X13_telling [(21, 92), (0, 3), (0, 0), (0, 100)] s22 (fun _ s30 => Q 0 s30))))))) ∧ (¬ r19 = 0 → (Mw g e M_X13_telling [(21, 92), (0, 2), (0, 0), (0, 99)] s20 (fun _ s32 => Q 0 s32))))))) ∧ (¬ r17 = 0 → (Mw g e M_X13_raising [(21, 92)] s18 (fun _ s34 => Q 0 s34))))))) ∧ (¬ r15 = 0 → (Mw g e M_X13_reading [(21, 92), (0, 1)] s16 (fun _ s36 => Q 0 s36))))))) ∧ (¬ r13 = 0 → (Mw g e M_X13_reading [(21, 92), (0, 0)] s14 (fun _ s38 => Q 0 s38))))))) ∧ (¬ r11 = 0 → (Mw g e M_X13_walling [(21, 92)] s12 (fun _ s40 => Q 0 s40))))))) ∧ (¬ r9 = 0 → (Mw g e M_X13_feuds [(21, 92)] s10 (fun _ s42 => Q 0 s42))))))) ∧ (¬ r7 = 0 → (Mw g e M_X13_twinning [(21, 92)] s8 (fun _ s44 => Q 0 s44))))))) ∧ (¬ r5 = 0 → (Mw g e M_X13_childing [(21, 92)] s6 (fun _ s46 => Q 0 s46))))))) ∧ (¬ r3 = 0 → (Mw g e M_X13_homing [(21, 92)] s4 (fun _ s48 => Q 0 s48))))))) ∧ (¬ (s2 92 8) ≤ 0 → Q 0 s2))))) : Mw g (e + 1) M_X13_statement [(21, 92)] s Q := by
  refine Mw.of (ls := [(21, 92)]) pn_X13_statement (Nat.le_of_ble_eq_true rfl) rfl (fun hv => ?_)
  refine r_aload_n dX13_statement_0 rfl rfl ?_
  refine r_callV (ci := 11) (As := []) (st := []) (by decide) ok_X13_268 rfl rfl (Nat.le_of_ble_eq_true rfl) dX13_statement_1 h (fun r1 s2 hv h => ?_)
  refine r_aload_n dX13_statement_4 rfl rfl ?_
  refine gf_X13_36 rfl dX13_statement_5 ?_
  refine r_if_le (tgt := 12) dX13_statement_8 (by decide) (fun hc => ?_) (fun hc => ?_)
  · have h := h.1 hc
    refine r_aload_n dX13_statement_12 rfl rfl ?_
    refine r_ldc2 (v := 1752132965) dX13_statement_13 lk_X13_277 (by decide) ?_
    refine r_callV (ci := 11) (As := [(2, 1752132965)]) (st := []) (by decide) ok_X13_363 rfl rfl (Nat.le_of_ble_eq_true rfl) dX13_statement_16 h (fun r3 s4 hv h => ?_)
    refine r_if_eq (tgt := 29) dX13_statement_19 (by decide) (fun hc => ?_) (fun hc => ?_)
    · have h := h.1 hc
      refine r_aload_n dX13_statement_29 rfl rfl ?_
      refine r_ldc2 (v := 426953501796) dX13_statement_30 lk_X13_283 (by decide) ?_
      refine r_callV (ci := 11) (As := [(2, 426953501796)]) (st := []) (by decide) ok_X13_363 rfl rfl (Nat.le_of_ble_eq_true rfl) dX13_statement_33 h (fun r5 s6 hv h => ?_)
      refine r_if_eq (tgt := 46) dX13_statement_36 (by decide) (fun hc => ?_) (fun hc => ?_)
      · have h := h.1 hc
        refine r_aload_n dX13_statement_46 rfl rfl ?_
        refine r_ldc2 (v := 500219604595) dX13_statement_47 lk_X13_289 (by decide) ?_
        refine r_callV (ci := 11) (As := [(2, 500219604595)]) (st := []) (by decide) ok_X13_363 rfl rfl (Nat.le_of_ble_eq_true rfl) dX13_statement_50 h (fun r7 s8 hv h => ?_)
        refine r_if_eq (tgt := 63) dX13_statement_53 (by decide) (fun hc => ?_) (fun hc => ?_)
        · have h := h.1 hc
          refine r_aload_n dX13_statement_63 rfl rfl ?_
          refine r_ldc2 (v := 1717925220) dX13_statement_64 lk_X13_291 (by decide) ?_
          refine r_callV (ci := 11) (As := [(2, 1717925220)]) (st := []) (by decide) ok_X13_363 rfl rfl (Nat.le_of_ble_eq_true rfl) dX13_statement_67 h (fun r9 s10 hv h => ?_)
          refine r_if_eq (tgt := 80) dX13_statement_70 (by decide) (fun hc => ?_) (fun hc => ?_)
          · have h := h.1 hc
            refine r_aload_n dX13_statement_80 rfl rfl ?_
            refine r_ldc2 (v := 2002873452) dX13_statement_81 lk_X13_293 (by decide) ?_
            refine r_callV (ci := 11) (As := [(2, 2002873452)]) (st := []) (by decide) ok_X13_363 rfl rfl (Nat.le_of_ble_eq_true rfl) dX13_statement_84 h (fun r11 s12 hv h => ?_)
            refine r_if_eq (tgt := 97) dX13_statement_87 (by decide) (fun hc => ?_) (fun hc => ?_)
            · have h := h.1 hc
              refine r_aload_n dX13_statement_97 rfl rfl ?_
              refine r_ldc2 (v := 444015930995) dX13_statement_98 lk_X13_299 (by decide) ?_
              refine r_callV (ci := 11) (As := [(2, 444015930995)]) (st := []) (by decide) ok_X13_363 rfl rfl (Nat.le_of_ble_eq_true rfl) dX13_statement_101 h (fun r13 s14 hv h => ?_)
              refine r_if_eq (tgt := 115) dX13_statement_104 (by decide) (fun hc => ?_) (fun hc => ?_)
              · have h := h.1 hc
                refine r_aload_n dX13_statement_115 rfl rfl ?_
                refine r_ldc2 (v := 7168377) dX13_statement_116 lk_X13_301 (by decide) ?_
                refine r_callV (ci := 11) (As := [(2, 7168377)]) (st := []) (by decide) ok_X13_363 rfl rfl (Nat.le_of_ble_eq_true rfl) dX13_statement_119 h (fun r15 s16 hv h => ?_)
                refine r_if_eq (tgt := 133) dX13_statement_122 (by decide) (fun hc => ?_) (fun hc => ?_)
                · have h := h.1 hc
                  refine r_aload_n dX13_statement_133 rfl rfl ?_
                  refine r_ldc2 (v := 125762706564452) dX13_statement_134 lk_X13_303 (by decide) ?_
                  refine r_callV (ci := 11) (As := [(2, 125762706564452)]) (st := []) (by decide) ok_X13_363 rfl rfl (Nat.le_of_ble_eq_true rfl) dX13_statement_137 h (fun r17 s18 hv h => ?_)
                  refine r_if_eq (tgt := 150) dX13_statement_140 (by decide) (fun hc => ?_) (fun hc => ?_)
                  · have h := h.1 hc
                    refine r_aload_n dX13_statement_150 rfl rfl ?_
                    refine r_ldc2 (v := 131277443786867) dX13_statement_151 lk_X13_307 (by decide) ?_
                    refine r_callV (ci := 11) (As := [(2, 131277443786867)]) (st := []) (by decide) ok_X13_363 rfl rfl (Nat.le_of_ble_eq_true rfl) dX13_statement_154 h (fun r19 s20 hv h => ?_)
                    refine r_if_eq (tgt := 171) dX13_statement_157 (by decide) (fun hc => ?_) (fun hc => ?_)
                    · have h := h.1 hc
                      refine r_aload_n dX13_statement_171 rfl rfl ?_
                      refine r_ldc2 (v := 440006570868) dX13_statement_172 lk_X13_309 (by decide) ?_
                      refine r_callV (ci := 11) (As := [(2, 440006570868)]) (st := []) (by decide) ok_X13_363 rfl rfl (Nat.le_of_ble_eq_true rfl) dX13_statement_175 h (fun r21 s22 hv h => ?_)
                      refine r_if_eq (tgt := 192) dX13_statement_178 (by decide) (fun hc => ?_) (fun hc => ?_)
                      · have h := h.1 hc
                        refine r_aload_n dX13_statement_192 rfl rfl ?_
                        refine r_ldc2 (v := 422676030835) dX13_statement_193 lk_X13_311 (by decide) ?_
                        refine r_callV (ci := 11) (As := [(2, 422676030835)]) (st := []) (by decide) ok_X13_363 rfl rfl (Nat.le_of_ble_eq_true rfl) dX13_statement_196 h (fun r23 s24 hv h => ?_)
                        refine r_if_eq (tgt := 213) dX13_statement_199 (by decide) (fun hc => ?_) (fun hc => ?_)
                        · have h := h.1 hc
                          refine r_aload_n dX13_statement_213 rfl rfl ?_
                          refine r_iconst dX13_statement_214 (by decide) ?_
                          refine r_aload_n dX13_statement_215 rfl rfl ?_
                          refine gf_X13_23 rfl dX13_statement_216 ?_
                          refine r_callV (ci := 11) (As := [(0, 1), (0, (s24 92 4))]) (st := []) (by decide) ok_X13_257 rfl rfl (Nat.le_of_ble_eq_true rfl) dX13_statement_219 h (fun r25 s26 hv h => ?_)
                          exact r_ret dX13_statement_222 rfl h
                        · have h := h.2 hc
                          refine r_aload_n dX13_statement_202 rfl rfl ?_
                          refine r_iconst dX13_statement_203 (by decide) ?_
                          refine r_iconst dX13_statement_204 (by decide) ?_
                          refine r_bipush dX13_statement_205 (by decide) rfl ?_
                          refine r_callV (ci := 11) (As := [(0, 4), (0, 0), (0, 99)]) (st := []) (by decide) ok_X13_443 rfl rfl (Nat.le_of_ble_eq_true rfl) dX13_statement_207 h (fun r27 s28 hv h => ?_)
                          refine r_goto (tgt := 222) dX13_statement_210 (by decide) ?_
                          exact r_ret dX13_statement_222 rfl h
                      · have h := h.2 hc
                        refine r_aload_n dX13_statement_181 rfl rfl ?_
                        refine r_iconst dX13_statement_182 (by decide) ?_
                        refine r_iconst dX13_statement_183 (by decide) ?_
                        refine r_bipush dX13_statement_184 (by decide) rfl ?_
                        refine r_callV (ci := 11) (As := [(0, 3), (0, 0), (0, 100)]) (st := []) (by decide) ok_X13_443 rfl rfl (Nat.le_of_ble_eq_true rfl) dX13_statement_186 h (fun r29 s30 hv h => ?_)
                        refine r_goto (tgt := 222) dX13_statement_189 (by decide) ?_
                        exact r_ret dX13_statement_222 rfl h
                    · have h := h.2 hc
                      refine r_aload_n dX13_statement_160 rfl rfl ?_
                      refine r_iconst dX13_statement_161 (by decide) ?_
                      refine r_iconst dX13_statement_162 (by decide) ?_
                      refine r_bipush dX13_statement_163 (by decide) rfl ?_
                      refine r_callV (ci := 11) (As := [(0, 2), (0, 0), (0, 99)]) (st := []) (by decide) ok_X13_443 rfl rfl (Nat.le_of_ble_eq_true rfl) dX13_statement_165 h (fun r31 s32 hv h => ?_)
                      refine r_goto (tgt := 222) dX13_statement_168 (by decide) ?_
                      exact r_ret dX13_statement_222 rfl h
                  · have h := h.2 hc
                    refine r_aload_n dX13_statement_143 rfl rfl ?_
                    refine r_callV (ci := 11) (As := []) (st := []) (by decide) ok_X13_440 rfl rfl (Nat.le_of_ble_eq_true rfl) dX13_statement_144 h (fun r33 s34 hv h => ?_)
                    refine r_goto (tgt := 222) dX13_statement_147 (by decide) ?_
                    exact r_ret dX13_statement_222 rfl h
                · have h := h.2 hc
                  refine r_aload_n dX13_statement_125 rfl rfl ?_
                  refine r_iconst dX13_statement_126 (by decide) ?_
                  refine r_callV (ci := 11) (As := [(0, 1)]) (st := []) (by decide) ok_X13_437 rfl rfl (Nat.le_of_ble_eq_true rfl) dX13_statement_127 h (fun r35 s36 hv h => ?_)
                  refine r_goto (tgt := 222) dX13_statement_130 (by decide) ?_
                  exact r_ret dX13_statement_222 rfl h
              · have h := h.2 hc
                refine r_aload_n dX13_statement_107 rfl rfl ?_
                refine r_iconst dX13_statement_108 (by decide) ?_
                refine r_callV (ci := 11) (As := [(0, 0)]) (st := []) (by decide) ok_X13_437 rfl rfl (Nat.le_of_ble_eq_true rfl) dX13_statement_109 h (fun r37 s38 hv h => ?_)
                refine r_goto (tgt := 222) dX13_statement_112 (by decide) ?_
                exact r_ret dX13_statement_222 rfl h
            · have h := h.2 hc
              refine r_aload_n dX13_statement_90 rfl rfl ?_
              refine r_callV (ci := 11) (As := []) (st := []) (by decide) ok_X13_434 rfl rfl (Nat.le_of_ble_eq_true rfl) dX13_statement_91 h (fun r39 s40 hv h => ?_)
              refine r_goto (tgt := 222) dX13_statement_94 (by decide) ?_
              exact r_ret dX13_statement_222 rfl h
          · have h := h.2 hc
            refine r_aload_n dX13_statement_73 rfl rfl ?_
            refine r_callV (ci := 11) (As := []) (st := []) (by decide) ok_X13_432 rfl rfl (Nat.le_of_ble_eq_true rfl) dX13_statement_74 h (fun r41 s42 hv h => ?_)
            refine r_goto (tgt := 222) dX13_statement_77 (by decide) ?_
            exact r_ret dX13_statement_222 rfl h
        · have h := h.2 hc
          refine r_aload_n dX13_statement_56 rfl rfl ?_
          refine r_callV (ci := 11) (As := []) (st := []) (by decide) ok_X13_429 rfl rfl (Nat.le_of_ble_eq_true rfl) dX13_statement_57 h (fun r43 s44 hv h => ?_)
          refine r_goto (tgt := 222) dX13_statement_60 (by decide) ?_
          exact r_ret dX13_statement_222 rfl h
      · have h := h.2 hc
        refine r_aload_n dX13_statement_39 rfl rfl ?_
        refine r_callV (ci := 11) (As := []) (st := []) (by decide) ok_X13_426 rfl rfl (Nat.le_of_ble_eq_true rfl) dX13_statement_40 h (fun r45 s46 hv h => ?_)
        refine r_goto (tgt := 222) dX13_statement_43 (by decide) ?_
        exact r_ret dX13_statement_222 rfl h
    · have h := h.2 hc
      refine r_aload_n dX13_statement_22 rfl rfl ?_
      refine r_callV (ci := 11) (As := []) (st := []) (by decide) ok_X13_423 rfl rfl (Nat.le_of_ble_eq_true rfl) dX13_statement_23 h (fun r47 s48 hv h => ?_)
      refine r_goto (tgt := 222) dX13_statement_26 (by decide) ?_
      exact r_ret dX13_statement_222 rfl h
  · have h := h.2 hc
    exact r_ret dX13_statement_11 rfl h
abbrev P_X13_finishes_17 (g : GT) (e : Nat) (Q : Int → Sg → Prop) (s : Sg) (v1 : Int) (v2 : Int) : Prop := Wp g (e + 1) M_X13_finishes Q 17 [(21, 92), (0, v1), (0, v2)] [] s
abbrev P_X13_finishes_53 (g : GT) (e : Nat) (Q : Int → Sg → Prop) (s : Sg) (v1 : Int) (v2 : Int) : Prop := Wp g (e + 1) M_X13_finishes Q 53 [(21, 92), (0, v1), (0, v2)] [] s
abbrev P_X13_finishes_83 (g : GT) (e : Nat) (Q : Int → Sg → Prop) (s : Sg) : Prop := Wp g (e + 1) M_X13_finishes Q 83 [(21, 92), (9, 0), (9, 0)] [] s
set_option maxRecDepth 20000 in
theorem S_X13_finishes_17 {g : GT} {e : Nat} {Q : Int → Sg → Prop} {s : Sg} {v1 : Int} {v2 : Int} (h : (((s 92 2) ≤ v2 → P_X13_finishes_53 g e Q s v1 v2) ∧ (¬ (s 92 2) ≤ v2 → ((0 ≤ v2 ∧ v2 < 1800) ∧ (((s 93 v2) = 32 → P_X13_finishes_17 g e Q s v1 (w32 (v2 + 1))) ∧ (¬ (s 93 v2) = 32 → ((0 ≤ v2 ∧ v2 < 1800) ∧ ((¬ (s 93 v2) = 10 → P_X13_finishes_53 g e Q s v1 v2) ∧ ((s 93 v2) = 10 → P_X13_finishes_17 g e Q s v1 (w32 (v2 + 1))))))))))) : P_X13_finishes_17 g e Q s v1 v2 := by
  refine r_iload_n dX13_finishes_17 rfl ?_
  refine r_aload_n dX13_finishes_18 rfl rfl ?_
  refine gf_X13_17 rfl dX13_finishes_19 ?_
  refine r_icmp_ge (tgt := 53) dX13_finishes_22 (by decide) (fun hc => ?_) (fun hc => ?_)
  · have h := h.1 hc
    exact h
  · have h := h.2 hc
    refine r_aload_n dX13_finishes_25 rfl rfl ?_
    refine gf_X13_7 rfl dX13_finishes_26 ?_
    refine r_iload_n dX13_finishes_29 rfl ?_
    obtain ⟨hb, h⟩ := h
    refine r_iald (n := 1800) rfl (by decide) dX13_finishes_30 hb ?_
    refine r_bipush dX13_finishes_31 (by decide) rfl ?_
    refine r_icmp_eq (tgt := 47) dX13_finishes_33 (by decide) (fun hc => ?_) (fun hc => ?_)
    · have h := h.1 hc
      refine r_iinc (ls2 := [(21, 92), (0, v1), (0, (w32 (v2 + 1)))]) dX13_finishes_47 rfl (by decide) rfl ?_
      refine r_goto (tgt := 17) dX13_finishes_50 (by decide) ?_
      exact h
    · have h := h.2 hc
      refine r_aload_n dX13_finishes_36 rfl rfl ?_
      refine gf_X13_7 rfl dX13_finishes_37 ?_
      refine r_iload_n dX13_finishes_40 rfl ?_
      obtain ⟨hb, h⟩ := h
      refine r_iald (n := 1800) rfl (by decide) dX13_finishes_41 hb ?_
      refine r_bipush dX13_finishes_42 (by decide) rfl ?_
      refine r_icmp_ne (tgt := 53) dX13_finishes_44 (by decide) (fun hc => ?_) (fun hc => ?_)
      · have h := h.1 hc
        exact h
      · have h := h.2 hc
        refine r_iinc (ls2 := [(21, 92), (0, v1), (0, (w32 (v2 + 1)))]) dX13_finishes_47 rfl (by decide) rfl ?_
        refine r_goto (tgt := 17) dX13_finishes_50 (by decide) ?_
        exact h
set_option maxRecDepth 20000 in
theorem S_X13_finishes_53 {g : GT} {e : Nat} {Q : Int → Sg → Prop} {s : Sg} {v1 : Int} {v2 : Int} (h : (Mw g e M_X13_isSign [(21, 92), (0, 59)] s (fun r1 s2 => ((r1 = 0 → P_X13_finishes_83 g e Q s2) ∧ (¬ r1 = 0 → ((¬ v1 = 80 → P_X13_finishes_83 g e Q s2) ∧ (v1 = 80 → (((s2 92 2) ≤ v2 → P_X13_finishes_83 g e Q s2) ∧ (¬ (s2 92 2) ≤ v2 → (Mw g e M_X13_blame [(21, 92), (0, 6), (0, v2)] s2 (fun _ s4 => P_X13_finishes_83 g e Q s4))))))))))) : P_X13_finishes_53 g e Q s v1 v2 := by
  refine r_aload_n dX13_finishes_53 rfl rfl ?_
  refine r_bipush dX13_finishes_54 (by decide) rfl ?_
  refine r_callV (ci := 11) (As := [(0, 59)]) (st := []) (by decide) ok_X13_271 rfl rfl (Nat.le_of_ble_eq_true rfl) dX13_finishes_56 h (fun r1 s2 hv h => ?_)
  refine r_if_eq (tgt := 83) dX13_finishes_59 (by decide) (fun hc => ?_) (fun hc => ?_)
  · have h := h.1 hc
    exact r_fgt [true, false, false] rfl h
  · have h := h.2 hc
    refine r_iload_n dX13_finishes_62 rfl ?_
    refine r_bipush dX13_finishes_63 (by decide) rfl ?_
    refine r_icmp_ne (tgt := 83) dX13_finishes_65 (by decide) (fun hc => ?_) (fun hc => ?_)
    · have h := h.1 hc
      exact r_fgt [true, false, false] rfl h
    · have h := h.2 hc
      refine r_iload_n dX13_finishes_68 rfl ?_
      refine r_aload_n dX13_finishes_69 rfl rfl ?_
      refine gf_X13_17 rfl dX13_finishes_70 ?_
      refine r_icmp_ge (tgt := 83) dX13_finishes_73 (by decide) (fun hc => ?_) (fun hc => ?_)
      · have h := h.1 hc
        exact r_fgt [true, false, false] rfl h
      · have h := h.2 hc
        refine r_aload_n dX13_finishes_76 rfl rfl ?_
        refine r_bipush dX13_finishes_77 (by decide) rfl ?_
        refine r_iload_n dX13_finishes_79 rfl ?_
        refine r_callV (ci := 11) (As := [(0, 6), (0, v2)]) (st := []) (by decide) ok_X13_257 rfl rfl (Nat.le_of_ble_eq_true rfl) dX13_finishes_80 h (fun r3 s4 hv h => ?_)
        exact r_fgt [true, false, false] rfl h
set_option maxRecDepth 20000 in
theorem S_X13_finishes_83 {g : GT} {e : Nat} {Q : Int → Sg → Prop} {s : Sg} (h : (Mw g e M_X13_must [(21, 92), (0, 59)] s (fun _ s2 => Q 0 s2))) : P_X13_finishes_83 g e Q s := by
  refine r_aload_n dX13_finishes_83 rfl rfl ?_
  refine r_bipush dX13_finishes_84 (by decide) rfl ?_
  refine r_callV (ci := 11) (As := [(0, 59)]) (st := []) (by decide) ok_X13_447 rfl rfl (Nat.le_of_ble_eq_true rfl) dX13_finishes_86 h (fun r1 s2 hv h => ?_)
  exact r_ret dX13_finishes_89 rfl h
set_option maxRecDepth 20000 in
theorem S_X13_finishes {g : GT} {e : Nat} {Q : Int → Sg → Prop} {s : Sg} {v1 : Int} (h : inR v1 → (Mw g e M_X13_lex [(21, 92)] s (fun _ s2 => (((s2 92 8) ≤ 0 → P_X13_finishes_17 g e Q s2 v1 (s2 92 5)) ∧ (¬ (s2 92 8) ≤ 0 → Q 0 s2))))) : Mw g (e + 1) M_X13_finishes [(21, 92), (0, v1)] s Q := by
  refine Mw.of (ls := [(21, 92), (0, v1), (9, 0)]) pn_X13_finishes (Nat.le_of_ble_eq_true rfl) rfl (fun hv => ?_)
  have h := h (hv _ (List.Mem.tail _ (List.Mem.head _)))
  refine r_aload_n dX13_finishes_0 rfl rfl ?_
  refine r_callV (ci := 11) (As := []) (st := []) (by decide) ok_X13_268 rfl rfl (Nat.le_of_ble_eq_true rfl) dX13_finishes_1 h (fun r1 s2 hv h => ?_)
  refine r_aload_n dX13_finishes_4 rfl rfl ?_
  refine gf_X13_36 rfl dX13_finishes_5 ?_
  refine r_if_le (tgt := 12) dX13_finishes_8 (by decide) (fun hc => ?_) (fun hc => ?_)
  · have h := h.1 hc
    refine r_aload_n dX13_finishes_12 rfl rfl ?_
    refine gf_X13_26 rfl dX13_finishes_13 ?_
    refine r_istore_n (ls2 := [(21, 92), (0, v1), (0, (s2 92 5))]) dX13_finishes_16 (by decide) rfl ?_
    exact h
  · have h := h.2 hc
    exact r_ret dX13_finishes_11 rfl h
abbrev P_X13_begin_16 (g : GT) (e : Nat) (Q : Int → Sg → Prop) (s : Sg) (v1 : Int) : Prop := Wp g (e + 1) M_X13_begin Q 16 [(21, 92), (0, v1)] [] s
set_option maxRecDepth 20000 in
theorem S_X13_begin_16 {g : GT} {e : Nat} {Q : Int → Sg → Prop} {s : Sg} {v1 : Int} (h : ((8 ≤ v1 → (∀ s1, s1 = ups s 129 0 0 → (∀ s2, s2 = ups s1 92 59 0 → (∀ s3, s3 = ups s2 92 68 0 → (∀ s4, s4 = ups s3 92 69 0 → Q 0 s4))))) ∧ (¬ 8 ≤ v1 → ((0 ≤ (w32 ((w32 (8 * (s 92 13))) + v1)) ∧ (w32 ((w32 (8 * (s 92 13))) + v1)) < 16) ∧ ((0 ≤ v1 ∧ v1 < 184) ∧ ∀ s5, s5 = ups s 124 v1 (s 98 (w32 ((w32 (8 * (s 92 13))) + v1))) → ((0 ≤ v1 ∧ v1 < 184) ∧ ∀ s6, s6 = ups s5 125 v1 0 → ((0 ≤ v1 ∧ v1 < 184) ∧ ∀ s7, s7 = ups s6 126 v1 (-1) → ((0 ≤ v1 ∧ v1 < 184) ∧ ∀ s8, s8 = ups s7 127 v1 0 → ((0 ≤ v1 ∧ v1 < 184) ∧ ∀ s9, s9 = ups s8 128 v1 0 → P_X13_begin_16 g e Q s9 (w32 (v1 + 1))))))))))) : P_X13_begin_16 g e Q s v1 := by
  refine r_iload_n dX13_begin_16 rfl ?_
  refine r_bipush dX13_begin_17 (by decide) rfl ?_
  refine r_icmp_ge (tgt := 76) dX13_begin_19 (by decide) (fun hc => ?_) (fun hc => ?_)
  · have h := h.1 hc
    refine r_aload_n dX13_begin_76 rfl rfl ?_
    refine gf_X13_183 rfl dX13_begin_77 ?_
    refine r_iconst dX13_begin_80 (by decide) ?_
    refine r_iconst dX13_begin_81 (by decide) ?_
    refine r_iast (n := 23) rfl (by decide) dX13_begin_82 (by decide) ?_
    have h := h _ rfl
    generalize hs_s1 : ups s 129 0 0 = s1 at h ⊢
    refine r_aload_n dX13_begin_83 rfl rfl ?_
    refine r_iconst dX13_begin_84 (by decide) ?_
    refine pf_X13_192 rfl dX13_begin_85 ?_
    have h := h _ rfl
    generalize hs_s2 : ups s1 92 59 0 = s2 at h ⊢
    refine r_aload_n dX13_begin_88 rfl rfl ?_
    refine r_iconst dX13_begin_89 (by decide) ?_
    refine pf_X13_219 rfl dX13_begin_90 ?_
    have h := h _ rfl
    generalize hs_s3 : ups s2 92 68 0 = s3 at h ⊢
    refine r_aload_n dX13_begin_93 rfl rfl ?_
    refine r_iconst dX13_begin_94 (by decide) ?_
    refine pf_X13_222 rfl dX13_begin_95 ?_
    have h := h _ rfl
    generalize hs_s4 : ups s3 92 69 0 = s4 at h ⊢
    exact r_ret dX13_begin_98 rfl h
  · have h := h.2 hc
    refine r_aload_n dX13_begin_22 rfl rfl ?_
    refine gf_X13_168 rfl dX13_begin_23 ?_
    refine r_iload_n dX13_begin_26 rfl ?_
    refine r_aload_n dX13_begin_27 rfl rfl ?_
    refine gf_X13_66 rfl dX13_begin_28 ?_
    refine r_bipush dX13_begin_31 (by decide) rfl ?_
    refine r_aload_n dX13_begin_33 rfl rfl ?_
    refine gf_X13_51 rfl dX13_begin_34 ?_
    refine r_imul dX13_begin_37 ?_
    refine r_iload_n dX13_begin_38 rfl ?_
    refine r_iadd dX13_begin_39 ?_
    obtain ⟨hb, h⟩ := h
    refine r_iald (n := 16) rfl (by decide) dX13_begin_40 hb ?_
    obtain ⟨hb, h⟩ := h
    refine r_iast (n := 184) rfl (by decide) dX13_begin_41 hb ?_
    have h := h _ rfl
    generalize hs_s5 : ups s 124 v1 (s 98 (w32 ((w32 (8 * (s 92 13))) + v1))) = s5 at h ⊢
    refine r_aload_n dX13_begin_42 rfl rfl ?_
    refine gf_X13_171 rfl dX13_begin_43 ?_
    refine r_iload_n dX13_begin_46 rfl ?_
    refine r_iconst dX13_begin_47 (by decide) ?_
    obtain ⟨hb, h⟩ := h
    refine r_iast (n := 184) rfl (by decide) dX13_begin_48 hb ?_
    have h := h _ rfl
    generalize hs_s6 : ups s5 125 v1 0 = s6 at h ⊢
    refine r_aload_n dX13_begin_49 rfl rfl ?_
    refine gf_X13_174 rfl dX13_begin_50 ?_
    refine r_iload_n dX13_begin_53 rfl ?_
    refine r_iconst dX13_begin_54 (by decide) ?_
    obtain ⟨hb, h⟩ := h
    refine r_iast (n := 184) rfl (by decide) dX13_begin_55 hb ?_
    have h := h _ rfl
    generalize hs_s7 : ups s6 126 v1 (-1) = s7 at h ⊢
    refine r_aload_n dX13_begin_56 rfl rfl ?_
    refine gf_X13_177 rfl dX13_begin_57 ?_
    refine r_iload_n dX13_begin_60 rfl ?_
    refine r_iconst dX13_begin_61 (by decide) ?_
    obtain ⟨hb, h⟩ := h
    refine r_iast (n := 184) rfl (by decide) dX13_begin_62 hb ?_
    have h := h _ rfl
    generalize hs_s8 : ups s7 127 v1 0 = s8 at h ⊢
    refine r_aload_n dX13_begin_63 rfl rfl ?_
    refine gf_X13_180 rfl dX13_begin_64 ?_
    refine r_iload_n dX13_begin_67 rfl ?_
    refine r_iconst dX13_begin_68 (by decide) ?_
    obtain ⟨hb, h⟩ := h
    refine r_iast (n := 184) rfl (by decide) dX13_begin_69 hb ?_
    have h := h _ rfl
    generalize hs_s9 : ups s8 128 v1 0 = s9 at h ⊢
    refine r_iinc (ls2 := [(21, 92), (0, (w32 (v1 + 1)))]) dX13_begin_70 rfl (by decide) rfl ?_
    refine r_goto (tgt := 16) dX13_begin_73 (by decide) ?_
    exact h
set_option maxRecDepth 20000 in
theorem S_X13_begin {g : GT} {e : Nat} {Q : Int → Sg → Prop} {s : Sg} (h : (∀ s1, s1 = ups s 122 0 0 → (∀ s2, s2 = ups s1 123 0 0 → P_X13_begin_16 g e Q s2 0))) : Mw g (e + 1) M_X13_begin [(21, 92)] s Q := by
  refine Mw.of (ls := [(21, 92), (9, 0)]) pn_X13_begin (Nat.le_of_ble_eq_true rfl) rfl (fun hv => ?_)
  refine r_aload_n dX13_begin_0 rfl rfl ?_
  refine gf_X13_162 rfl dX13_begin_1 ?_
  refine r_iconst dX13_begin_4 (by decide) ?_
  refine r_iconst dX13_begin_5 (by decide) ?_
  refine r_iast (n := 23) rfl (by decide) dX13_begin_6 (by decide) ?_
  have h := h _ rfl
  generalize hs_s1 : ups s 122 0 0 = s1 at h ⊢
  refine r_aload_n dX13_begin_7 rfl rfl ?_
  refine gf_X13_165 rfl dX13_begin_8 ?_
  refine r_iconst dX13_begin_11 (by decide) ?_
  refine r_iconst dX13_begin_12 (by decide) ?_
  refine r_iast (n := 23) rfl (by decide) dX13_begin_13 (by decide) ?_
  have h := h _ rfl
  generalize hs_s2 : ups s1 123 0 0 = s2 at h ⊢
  refine r_iconst dX13_begin_14 (by decide) ?_
  refine r_istore_n (ls2 := [(21, 92), (0, 0)]) dX13_begin_15 (by decide) rfl ?_
  exact h
abbrev P_X13_town_123 (g : GT) (e : Nat) (Q : Int → Sg → Prop) (s : Sg) (v1 : Int) : Prop := Wp g (e + 1) M_X13_town Q 123 [(21, 92), (0, v1)] [] s
abbrev P_X13_town_152 (g : GT) (e : Nat) (Q : Int → Sg → Prop) (s : Sg) (v1 : Int) : Prop := Wp g (e + 1) M_X13_town Q 152 [(21, 92), (0, v1)] [] s
set_option maxRecDepth 20000 in
theorem S_X13_town_123 {g : GT} {e : Nat} {Q : Int → Sg → Prop} {s : Sg} {v1 : Int} (h : ((¬ (s 92 8) = 0 → P_X13_town_152 g e Q s v1) ∧ ((s 92 8) = 0 → (((s 92 3) = 0 → P_X13_town_152 g e Q s v1) ∧ (¬ (s 92 3) = 0 → (Mw g e M_X13_statement [(21, 92)] s (fun _ s2 => (Mw g e M_X13_finishes [(21, 92), (0, (w32 (v1 + 1)))] s2 (fun _ s4 => P_X13_town_123 g e Q s4 (w32 (v1 + 1))))))))))) : P_X13_town_123 g e Q s v1 := by
  refine r_aload_n dX13_town_123 rfl rfl ?_
  refine gf_X13_36 rfl dX13_town_124 ?_
  refine r_if_ne (tgt := 152) dX13_town_127 (by decide) (fun hc => ?_) (fun hc => ?_)
  · have h := h.1 hc
    exact h
  · have h := h.2 hc
    refine r_aload_n dX13_town_130 rfl rfl ?_
    refine gf_X13_20 rfl dX13_town_131 ?_
    refine r_if_eq (tgt := 152) dX13_town_134 (by decide) (fun hc => ?_) (fun hc => ?_)
    · have h := h.1 hc
      exact h
    · have h := h.2 hc
      refine r_aload_n dX13_town_137 rfl rfl ?_
      refine r_callV (ci := 11) (As := []) (st := []) (by decide) ok_X13_449 rfl rfl (Nat.le_of_ble_eq_true rfl) dX13_town_138 h (fun r1 s2 hv h => ?_)
      refine r_iinc (ls2 := [(21, 92), (0, (w32 (v1 + 1)))]) dX13_town_141 rfl (by decide) rfl ?_
      refine r_aload_n dX13_town_144 rfl rfl ?_
      refine r_iload_n dX13_town_145 rfl ?_
      refine r_callV (ci := 11) (As := [(0, (w32 (v1 + 1)))]) (st := []) (by decide) ok_X13_452 rfl rfl (Nat.le_of_ble_eq_true rfl) dX13_town_146 h (fun r3 s4 hv h => ?_)
      refine r_goto (tgt := 123) dX13_town_149 (by decide) ?_
      exact h
set_option maxRecDepth 20000 in
theorem S_X13_town_152 {g : GT} {e : Nat} {Q : Int → Sg → Prop} {s : Sg} {v1 : Int} (h : (∀ s1, s1 = ups s 92 10 (s 92 8) → (∀ s2, s2 = ups s1 92 11 (s1 92 9) → (((s2 92 8) ≤ 0 → (∀ s3, s3 = ups s2 92 13 (s2 92 36) → (Mw g e M_X13_begin [(21, 92)] s3 (fun _ s5 => Q v1 s5)))) ∧ (¬ (s2 92 8) ≤ 0 → (Mw g e M_X13_refuses [(21, 92), (0, 1)] s2 (fun r6 s7 => Q r6 s7))))))) : P_X13_town_152 g e Q s v1 := by
  refine r_aload_n dX13_town_152 rfl rfl ?_
  refine r_aload_n dX13_town_153 rfl rfl ?_
  refine gf_X13_36 rfl dX13_town_154 ?_
  refine pf_X13_42 rfl dX13_town_157 ?_
  have h := h _ rfl
  generalize hs_s1 : ups s 92 10 (s 92 8) = s1 at h ⊢
  refine r_aload_n dX13_town_160 rfl rfl ?_
  refine r_aload_n dX13_town_161 rfl rfl ?_
  refine gf_X13_39 rfl dX13_town_162 ?_
  refine pf_X13_45 rfl dX13_town_165 ?_
  have h := h _ rfl
  generalize hs_s2 : ups s1 92 11 (s1 92 9) = s2 at h ⊢
  refine r_aload_n dX13_town_168 rfl rfl ?_
  refine gf_X13_36 rfl dX13_town_169 ?_
  refine r_if_le (tgt := 181) dX13_town_172 (by decide) (fun hc => ?_) (fun hc => ?_)
  · have h := h.1 hc
    refine r_aload_n dX13_town_181 rfl rfl ?_
    refine r_aload_n dX13_town_182 rfl rfl ?_
    refine gf_X13_121 rfl dX13_town_183 ?_
    refine pf_X13_51 rfl dX13_town_186 ?_
    have h := h _ rfl
    generalize hs_s3 : ups s2 92 13 (s2 92 36) = s3 at h ⊢
    refine r_aload_n dX13_town_189 rfl rfl ?_
    refine r_callV (ci := 11) (As := []) (st := []) (by decide) ok_X13_455 rfl rfl (Nat.le_of_ble_eq_true rfl) dX13_town_190 h (fun r4 s5 hv h => ?_)
    refine r_iload_n dX13_town_193 rfl ?_
    exact r_iret dX13_town_194 rfl h
  · have h := h.2 hc
    refine r_aload_n dX13_town_175 rfl rfl ?_
    refine r_iconst dX13_town_176 (by decide) ?_
    refine r_callV (ci := 11) (As := [(0, 1)]) (st := []) (by decide) ok_X13_250 rfl rfl (Nat.le_of_ble_eq_true rfl) dX13_town_177 h (fun r6 s7 hv h => ?_)
    exact r_iret dX13_town_180 rfl h
set_option maxRecDepth 20000 in
theorem S_X13_town {g : GT} {e : Nat} {Q : Int → Sg → Prop} {s : Sg} (h : (∀ s1, s1 = ups s 92 2 (s 92 1) → (∀ s2, s2 = ups s1 92 1 0 → (∀ s3, s3 = ups s2 92 5 0 → (∀ s4, s4 = ups s3 92 8 0 → (∀ s5, s5 = ups s4 92 9 (-1) → (∀ s6, s6 = ups s5 92 36 (w32 (1 - (s5 92 13))) → ((0 ≤ (s6 92 36) ∧ (s6 92 36) < 2) ∧ ∀ s7, s7 = ups s6 94 (s6 92 36) 0 → ((0 ≤ (s7 92 36) ∧ (s7 92 36) < 2) ∧ ∀ s8, s8 = ups s7 97 (s7 92 36) 0 → ((0 ≤ (s8 92 36) ∧ (s8 92 36) < 2) ∧ ∀ s9, s9 = ups s8 101 (s8 92 36) 0 → ((0 ≤ (s9 92 36) ∧ (s9 92 36) < 2) ∧ ∀ s10, s10 = ups s9 104 (s9 92 36) 0 → (Mw g e M_X13_isDefault [(21, 92), (0, (s10 92 36))] s10 (fun _ s12 => ((0 ≤ (w32 (2 * (s12 92 36))) ∧ (w32 (2 * (s12 92 36))) < 4) ∧ ∀ s13, s13 = ups s12 108 (w32 (2 * (s12 92 36))) (-1) → ((0 ≤ (w32 ((w32 (2 * (s13 92 36))) + 1)) ∧ (w32 ((w32 (2 * (s13 92 36))) + 1)) < 4) ∧ ∀ s14, s14 = ups s13 108 (w32 ((w32 (2 * (s13 92 36))) + 1)) (-1) → (∀ s15, s15 = ups s14 92 35 0 → (Mw g e M_X13_ahead [(21, 92)] s15 (fun _ s17 => P_X13_town_123 g e Q s17 0)))))))))))))))))) : Mw g (e + 1) M_X13_town [(21, 92)] s Q := by
  refine Mw.of (ls := [(21, 92), (9, 0)]) pn_X13_town (Nat.le_of_ble_eq_true rfl) rfl (fun hv => ?_)
  refine r_aload_n dX13_town_0 rfl rfl ?_
  refine r_aload_n dX13_town_1 rfl rfl ?_
  refine gf_X13_13 rfl dX13_town_2 ?_
  refine pf_X13_17 rfl dX13_town_5 ?_
  have h := h _ rfl
  generalize hs_s1 : ups s 92 2 (s 92 1) = s1 at h ⊢
  refine r_aload_n dX13_town_8 rfl rfl ?_
  refine r_iconst dX13_town_9 (by decide) ?_
  refine pf_X13_13 rfl dX13_town_10 ?_
  have h := h _ rfl
  generalize hs_s2 : ups s1 92 1 0 = s2 at h ⊢
  refine r_aload_n dX13_town_13 rfl rfl ?_
  refine r_iconst dX13_town_14 (by decide) ?_
  refine pf_X13_26 rfl dX13_town_15 ?_
  have h := h _ rfl
  generalize hs_s3 : ups s2 92 5 0 = s3 at h ⊢
  refine r_aload_n dX13_town_18 rfl rfl ?_
  refine r_iconst dX13_town_19 (by decide) ?_
  refine pf_X13_36 rfl dX13_town_20 ?_
  have h := h _ rfl
  generalize hs_s4 : ups s3 92 8 0 = s4 at h ⊢
  refine r_aload_n dX13_town_23 rfl rfl ?_
  refine r_iconst dX13_town_24 (by decide) ?_
  refine pf_X13_39 rfl dX13_town_25 ?_
  have h := h _ rfl
  generalize hs_s5 : ups s4 92 9 (-1) = s5 at h ⊢
  refine r_aload_n dX13_town_28 rfl rfl ?_
  refine r_iconst dX13_town_29 (by decide) ?_
  refine r_aload_n dX13_town_30 rfl rfl ?_
  refine gf_X13_51 rfl dX13_town_31 ?_
  refine r_isub dX13_town_34 ?_
  refine pf_X13_121 rfl dX13_town_35 ?_
  have h := h _ rfl
  generalize hs_s6 : ups s5 92 36 (w32 (1 - (s5 92 13))) = s6 at h ⊢
  refine r_aload_n dX13_town_38 rfl rfl ?_
  refine gf_X13_54 rfl dX13_town_39 ?_
  refine r_aload_n dX13_town_42 rfl rfl ?_
  refine gf_X13_121 rfl dX13_town_43 ?_
  refine r_iconst dX13_town_46 (by decide) ?_
  obtain ⟨hb, h⟩ := h
  refine r_iast (n := 2) rfl (by decide) dX13_town_47 hb ?_
  have h := h _ rfl
  generalize hs_s7 : ups s6 94 (s6 92 36) 0 = s7 at h ⊢
  refine r_aload_n dX13_town_48 rfl rfl ?_
  refine gf_X13_63 rfl dX13_town_49 ?_
  refine r_aload_n dX13_town_52 rfl rfl ?_
  refine gf_X13_121 rfl dX13_town_53 ?_
  refine r_iconst dX13_town_56 (by decide) ?_
  obtain ⟨hb, h⟩ := h
  refine r_iast (n := 2) rfl (by decide) dX13_town_57 hb ?_
  have h := h _ rfl
  generalize hs_s8 : ups s7 97 (s7 92 36) 0 = s8 at h ⊢
  refine r_aload_n dX13_town_58 rfl rfl ?_
  refine gf_X13_75 rfl dX13_town_59 ?_
  refine r_aload_n dX13_town_62 rfl rfl ?_
  refine gf_X13_121 rfl dX13_town_63 ?_
  refine r_iconst dX13_town_66 (by decide) ?_
  obtain ⟨hb, h⟩ := h
  refine r_iast (n := 2) rfl (by decide) dX13_town_67 hb ?_
  have h := h _ rfl
  generalize hs_s9 : ups s8 101 (s8 92 36) 0 = s9 at h ⊢
  refine r_aload_n dX13_town_68 rfl rfl ?_
  refine gf_X13_84 rfl dX13_town_69 ?_
  refine r_aload_n dX13_town_72 rfl rfl ?_
  refine gf_X13_121 rfl dX13_town_73 ?_
  refine r_iconst dX13_town_76 (by decide) ?_
  obtain ⟨hb, h⟩ := h
  refine r_iast (n := 2) rfl (by decide) dX13_town_77 hb ?_
  have h := h _ rfl
  generalize hs_s10 : ups s9 104 (s9 92 36) 0 = s10 at h ⊢
  refine r_aload_n dX13_town_78 rfl rfl ?_
  refine r_aload_n dX13_town_79 rfl rfl ?_
  refine gf_X13_121 rfl dX13_town_80 ?_
  refine r_callV (ci := 11) (As := [(0, (s10 92 36))]) (st := []) (by decide) ok_X13_246 rfl rfl (Nat.le_of_ble_eq_true rfl) dX13_town_83 h (fun r11 s12 hv h => ?_)
  refine r_aload_n dX13_town_86 rfl rfl ?_
  refine gf_X13_96 rfl dX13_town_87 ?_
  refine r_iconst dX13_town_90 (by decide) ?_
  refine r_aload_n dX13_town_91 rfl rfl ?_
  refine gf_X13_121 rfl dX13_town_92 ?_
  refine r_imul dX13_town_95 ?_
  refine r_iconst dX13_town_96 (by decide) ?_
  obtain ⟨hb, h⟩ := h
  refine r_iast (n := 4) rfl (by decide) dX13_town_97 hb ?_
  have h := h _ rfl
  generalize hs_s13 : ups s12 108 (w32 (2 * (s12 92 36))) (-1) = s13 at h ⊢
  refine r_aload_n dX13_town_98 rfl rfl ?_
  refine gf_X13_96 rfl dX13_town_99 ?_
  refine r_iconst dX13_town_102 (by decide) ?_
  refine r_aload_n dX13_town_103 rfl rfl ?_
  refine gf_X13_121 rfl dX13_town_104 ?_
  refine r_imul dX13_town_107 ?_
  refine r_iconst dX13_town_108 (by decide) ?_
  refine r_iadd dX13_town_109 ?_
  refine r_iconst dX13_town_110 (by decide) ?_
  obtain ⟨hb, h⟩ := h
  refine r_iast (n := 4) rfl (by decide) dX13_town_111 hb ?_
  have h := h _ rfl
  generalize hs_s14 : ups s13 108 (w32 ((w32 (2 * (s13 92 36))) + 1)) (-1) = s14 at h ⊢
  refine r_aload_n dX13_town_112 rfl rfl ?_
  refine r_iconst dX13_town_113 (by decide) ?_
  refine pf_X13_118 rfl dX13_town_114 ?_
  have h := h _ rfl
  generalize hs_s15 : ups s14 92 35 0 = s15 at h ⊢
  refine r_iconst dX13_town_117 (by decide) ?_
  refine r_istore_n (ls2 := [(21, 92), (0, 0)]) dX13_town_118 (by decide) rfl ?_
  refine r_aload_n dX13_town_119 rfl rfl ?_
  refine r_callV (ci := 11) (As := []) (st := []) (by decide) ok_X13_274 rfl rfl (Nat.le_of_ble_eq_true rfl) dX13_town_120 h (fun r16 s17 hv h => ?_)
  exact h
set_option maxRecDepth 20000 in
theorem S_X13_fault {g : GT} {e : Nat} {Q : Int → Sg → Prop} {s : Sg} {v1 : Int} (h : inR v1 → ((¬ v1 = 0 → ((¬ v1 = 1 → Q (-1) s) ∧ (v1 = 1 → Q (s 92 11) s))) ∧ (v1 = 0 → Q (s 92 10) s))) : Mw g (e + 1) M_X13_fault [(21, 92), (0, v1)] s Q := by
  refine Mw.of (ls := [(21, 92), (0, v1)]) pn_X13_fault (Nat.le_of_ble_eq_true rfl) rfl (fun hv => ?_)
  have h := h (hv _ (List.Mem.tail _ (List.Mem.head _)))
  refine r_iload_n dX13_fault_0 rfl ?_
  refine r_if_ne (tgt := 11) dX13_fault_1 (by decide) (fun hc => ?_) (fun hc => ?_)
  · have h := h.1 hc
    refine r_iload_n dX13_fault_11 rfl ?_
    refine r_iconst dX13_fault_12 (by decide) ?_
    refine r_icmp_ne (tgt := 23) dX13_fault_13 (by decide) (fun hc => ?_) (fun hc => ?_)
    · have h := h.1 hc
      refine r_iconst dX13_fault_23 (by decide) ?_
      exact r_iret dX13_fault_24 rfl h
    · have h := h.2 hc
      refine r_aload_n dX13_fault_16 rfl rfl ?_
      refine gf_X13_45 rfl dX13_fault_17 ?_
      refine r_goto (tgt := 24) dX13_fault_20 (by decide) ?_
      exact r_iret dX13_fault_24 rfl h
  · have h := h.2 hc
    refine r_aload_n dX13_fault_4 rfl rfl ?_
    refine gf_X13_42 rfl dX13_fault_5 ?_
    refine r_goto (tgt := 24) dX13_fault_8 (by decide) ?_
    exact r_iret dX13_fault_24 rfl h
set_option maxRecDepth 20000 in
theorem S_X13_status {g : GT} {e : Nat} {Q : Int → Sg → Prop} {s : Sg} {v1 : Int} (h : inR v1 → (Mw g e M_X13_is [(0, v1), (0, 0), (0, 5)] s (fun r1 s2 => ((r1 = 0 → Q (-1) s2) ∧ (¬ r1 = 0 → ((0 ≤ v1 ∧ v1 < 6) ∧ Q (s2 121 v1) s2)))))) : Mw g (e + 1) M_X13_status [(21, 92), (0, v1)] s Q := by
  refine Mw.of (ls := [(21, 92), (0, v1)]) pn_X13_status (Nat.le_of_ble_eq_true rfl) rfl (fun hv => ?_)
  have h := h (hv _ (List.Mem.tail _ (List.Mem.head _)))
  refine r_iload_n dX13_status_0 rfl ?_
  refine r_iconst dX13_status_1 (by decide) ?_
  refine r_iconst dX13_status_2 (by decide) ?_
  refine r_callS (As := [(0, v1), (0, 0), (0, 5)]) (st := []) ok_X13_347 rfl rfl (Nat.le_of_ble_eq_true rfl) dX13_status_3 h (fun r1 s2 hv h => ?_)
  refine r_if_eq (tgt := 18) dX13_status_6 (by decide) (fun hc => ?_) (fun hc => ?_)
  · have h := h.1 hc
    refine r_iconst dX13_status_18 (by decide) ?_
    exact r_iret dX13_status_19 rfl h
  · have h := h.2 hc
    refine r_aload_n dX13_status_9 rfl rfl ?_
    refine gf_X13_159 rfl dX13_status_10 ?_
    refine r_iload_n dX13_status_13 rfl ?_
    obtain ⟨hb, h⟩ := h
    refine r_iald (n := 6) rfl (by decide) dX13_status_14 hb ?_
    refine r_goto (tgt := 19) dX13_status_15 (by decide) ?_
    exact r_iret dX13_status_19 rfl h
abbrev P_X13_copies_26 (g : GT) (e : Nat) (Q : Int → Sg → Prop) (s : Sg) (v1 : Int) (v2 : Int) (v3 : Int) : Prop := Wp g (e + 1) M_X13_copies Q 26 [(21, 92), (0, v1), (0, v2), (0, v3)] [] s
abbrev P_X13_copies_162 (g : GT) (e : Nat) (Q : Int → Sg → Prop) (s : Sg) (v1 : Int) (v2 : Int) (v3 : Int) : Prop := Wp g (e + 1) M_X13_copies Q 162 [(21, 92), (0, v1), (0, v2), (0, v3)] [] s
set_option maxRecDepth 20000 in
theorem S_X13_copies_26 {g : GT} {e : Nat} {Q : Int → Sg → Prop} {s : Sg} {v1 : Int} {v2 : Int} {v3 : Int} (h : ((8 ≤ v3 → ((0 ≤ v2 ∧ v2 < 23) ∧ ((0 ≤ v1 ∧ v1 < 23) ∧ ∀ s1, s1 = ups s 129 v1 (s 129 v2) → P_X13_copies_162 g e Q s1 v1 v2 0))) ∧ (¬ 8 ≤ v3 → ((0 ≤ (w32 ((w32 (8 * v2)) + v3)) ∧ (w32 ((w32 (8 * v2)) + v3)) < 184) ∧ ((0 ≤ (w32 ((w32 (8 * v1)) + v3)) ∧ (w32 ((w32 (8 * v1)) + v3)) < 184) ∧ ∀ s2, s2 = ups s 124 (w32 ((w32 (8 * v1)) + v3)) (s 124 (w32 ((w32 (8 * v2)) + v3))) → ((0 ≤ (w32 ((w32 (8 * v2)) + v3)) ∧ (w32 ((w32 (8 * v2)) + v3)) < 184) ∧ ((0 ≤ (w32 ((w32 (8 * v1)) + v3)) ∧ (w32 ((w32 (8 * v1)) + v3)) < 184) ∧ ∀ s3, s3 = ups s2 125 (w32 ((w32 (8 * v1)) + v3)) (s2 125 (w32 ((w32 (8 * v2)) + v3))) → ((0 ≤ (w32 ((w32 (8 * v2)) + v3)) ∧ (w32 ((w32 (8 * v2)) + v3)) < 184) ∧ ((0 ≤ (w32 ((w32 (8 * v1)) + v3)) ∧ (w32 ((w32 (8 * v1)) + v3)) < 184) ∧ ∀ s4, s4 = ups s3 126 (w32 ((w32 (8 * v1)) + v3)) (s3 126 (w32 ((w32 (8 * v2)) + v3))) → ((0 ≤ (w32 ((w32 (8 * v2)) + v3)) ∧ (w32 ((w32 (8 * v2)) + v3)) < 184) ∧ ((0 ≤ (w32 ((w32 (8 * v1)) + v3)) ∧ (w32 ((w32 (8 * v1)) + v3)) < 184) ∧ ∀ s5, s5 = ups s4 127 (w32 ((w32 (8 * v1)) + v3)) (s4 127 (w32 ((w32 (8 * v2)) + v3))) → ((0 ≤ (w32 ((w32 (8 * v2)) + v3)) ∧ (w32 ((w32 (8 * v2)) + v3)) < 184) ∧ ((0 ≤ (w32 ((w32 (8 * v1)) + v3)) ∧ (w32 ((w32 (8 * v1)) + v3)) < 184) ∧ ∀ s6, s6 = ups s5 128 (w32 ((w32 (8 * v1)) + v3)) (s5 128 (w32 ((w32 (8 * v2)) + v3))) → P_X13_copies_26 g e Q s6 v1 v2 (w32 (v3 + 1))))))))))))))) : P_X13_copies_26 g e Q s v1 v2 v3 := by
  refine r_iload_n dX13_copies_26 rfl ?_
  refine r_bipush dX13_copies_27 (by decide) rfl ?_
  refine r_icmp_ge (tgt := 148) dX13_copies_29 (by decide) (fun hc => ?_) (fun hc => ?_)
  · have h := h.1 hc
    refine r_aload_n dX13_copies_148 rfl rfl ?_
    refine gf_X13_183 rfl dX13_copies_149 ?_
    refine r_iload_n dX13_copies_152 rfl ?_
    refine r_aload_n dX13_copies_153 rfl rfl ?_
    refine gf_X13_183 rfl dX13_copies_154 ?_
    refine r_iload_n dX13_copies_157 rfl ?_
    obtain ⟨hb, h⟩ := h
    refine r_iald (n := 23) rfl (by decide) dX13_copies_158 hb ?_
    obtain ⟨hb, h⟩ := h
    refine r_iast (n := 23) rfl (by decide) dX13_copies_159 hb ?_
    have h := h _ rfl
    generalize hs_s1 : ups s 129 v1 (s 129 v2) = s1 at h ⊢
    refine r_iconst dX13_copies_160 (by decide) ?_
    refine r_istore_n (ls2 := [(21, 92), (0, v1), (0, v2), (0, 0)]) dX13_copies_161 (by decide) rfl ?_
    exact h
  · have h := h.2 hc
    refine r_aload_n dX13_copies_32 rfl rfl ?_
    refine gf_X13_168 rfl dX13_copies_33 ?_
    refine r_bipush dX13_copies_36 (by decide) rfl ?_
    refine r_iload_n dX13_copies_38 rfl ?_
    refine r_imul dX13_copies_39 ?_
    refine r_iload_n dX13_copies_40 rfl ?_
    refine r_iadd dX13_copies_41 ?_
    refine r_aload_n dX13_copies_42 rfl rfl ?_
    refine gf_X13_168 rfl dX13_copies_43 ?_
    refine r_bipush dX13_copies_46 (by decide) rfl ?_
    refine r_iload_n dX13_copies_48 rfl ?_
    refine r_imul dX13_copies_49 ?_
    refine r_iload_n dX13_copies_50 rfl ?_
    refine r_iadd dX13_copies_51 ?_
    obtain ⟨hb, h⟩ := h
    refine r_iald (n := 184) rfl (by decide) dX13_copies_52 hb ?_
    obtain ⟨hb, h⟩ := h
    refine r_iast (n := 184) rfl (by decide) dX13_copies_53 hb ?_
    have h := h _ rfl
    generalize hs_s2 : ups s 124 (w32 ((w32 (8 * v1)) + v3)) (s 124 (w32 ((w32 (8 * v2)) + v3))) = s2 at h ⊢
    refine r_aload_n dX13_copies_54 rfl rfl ?_
    refine gf_X13_171 rfl dX13_copies_55 ?_
    refine r_bipush dX13_copies_58 (by decide) rfl ?_
    refine r_iload_n dX13_copies_60 rfl ?_
    refine r_imul dX13_copies_61 ?_
    refine r_iload_n dX13_copies_62 rfl ?_
    refine r_iadd dX13_copies_63 ?_
    refine r_aload_n dX13_copies_64 rfl rfl ?_
    refine gf_X13_171 rfl dX13_copies_65 ?_
    refine r_bipush dX13_copies_68 (by decide) rfl ?_
    refine r_iload_n dX13_copies_70 rfl ?_
    refine r_imul dX13_copies_71 ?_
    refine r_iload_n dX13_copies_72 rfl ?_
    refine r_iadd dX13_copies_73 ?_
    obtain ⟨hb, h⟩ := h
    refine r_iald (n := 184) rfl (by decide) dX13_copies_74 hb ?_
    obtain ⟨hb, h⟩ := h
    refine r_iast (n := 184) rfl (by decide) dX13_copies_75 hb ?_
    have h := h _ rfl
    generalize hs_s3 : ups s2 125 (w32 ((w32 (8 * v1)) + v3)) (s2 125 (w32 ((w32 (8 * v2)) + v3))) = s3 at h ⊢
    refine r_aload_n dX13_copies_76 rfl rfl ?_
    refine gf_X13_174 rfl dX13_copies_77 ?_
    refine r_bipush dX13_copies_80 (by decide) rfl ?_
    refine r_iload_n dX13_copies_82 rfl ?_
    refine r_imul dX13_copies_83 ?_
    refine r_iload_n dX13_copies_84 rfl ?_
    refine r_iadd dX13_copies_85 ?_
    refine r_aload_n dX13_copies_86 rfl rfl ?_
    refine gf_X13_174 rfl dX13_copies_87 ?_
    refine r_bipush dX13_copies_90 (by decide) rfl ?_
    refine r_iload_n dX13_copies_92 rfl ?_
    refine r_imul dX13_copies_93 ?_
    refine r_iload_n dX13_copies_94 rfl ?_
    refine r_iadd dX13_copies_95 ?_
    obtain ⟨hb, h⟩ := h
    refine r_iald (n := 184) rfl (by decide) dX13_copies_96 hb ?_
    obtain ⟨hb, h⟩ := h
    refine r_iast (n := 184) rfl (by decide) dX13_copies_97 hb ?_
    have h := h _ rfl
    generalize hs_s4 : ups s3 126 (w32 ((w32 (8 * v1)) + v3)) (s3 126 (w32 ((w32 (8 * v2)) + v3))) = s4 at h ⊢
    refine r_aload_n dX13_copies_98 rfl rfl ?_
    refine gf_X13_177 rfl dX13_copies_99 ?_
    refine r_bipush dX13_copies_102 (by decide) rfl ?_
    refine r_iload_n dX13_copies_104 rfl ?_
    refine r_imul dX13_copies_105 ?_
    refine r_iload_n dX13_copies_106 rfl ?_
    refine r_iadd dX13_copies_107 ?_
    refine r_aload_n dX13_copies_108 rfl rfl ?_
    refine gf_X13_177 rfl dX13_copies_109 ?_
    refine r_bipush dX13_copies_112 (by decide) rfl ?_
    refine r_iload_n dX13_copies_114 rfl ?_
    refine r_imul dX13_copies_115 ?_
    refine r_iload_n dX13_copies_116 rfl ?_
    refine r_iadd dX13_copies_117 ?_
    obtain ⟨hb, h⟩ := h
    refine r_iald (n := 184) rfl (by decide) dX13_copies_118 hb ?_
    obtain ⟨hb, h⟩ := h
    refine r_iast (n := 184) rfl (by decide) dX13_copies_119 hb ?_
    have h := h _ rfl
    generalize hs_s5 : ups s4 127 (w32 ((w32 (8 * v1)) + v3)) (s4 127 (w32 ((w32 (8 * v2)) + v3))) = s5 at h ⊢
    refine r_aload_n dX13_copies_120 rfl rfl ?_
    refine gf_X13_180 rfl dX13_copies_121 ?_
    refine r_bipush dX13_copies_124 (by decide) rfl ?_
    refine r_iload_n dX13_copies_126 rfl ?_
    refine r_imul dX13_copies_127 ?_
    refine r_iload_n dX13_copies_128 rfl ?_
    refine r_iadd dX13_copies_129 ?_
    refine r_aload_n dX13_copies_130 rfl rfl ?_
    refine gf_X13_180 rfl dX13_copies_131 ?_
    refine r_bipush dX13_copies_134 (by decide) rfl ?_
    refine r_iload_n dX13_copies_136 rfl ?_
    refine r_imul dX13_copies_137 ?_
    refine r_iload_n dX13_copies_138 rfl ?_
    refine r_iadd dX13_copies_139 ?_
    obtain ⟨hb, h⟩ := h
    refine r_iald (n := 184) rfl (by decide) dX13_copies_140 hb ?_
    obtain ⟨hb, h⟩ := h
    refine r_iast (n := 184) rfl (by decide) dX13_copies_141 hb ?_
    have h := h _ rfl
    generalize hs_s6 : ups s5 128 (w32 ((w32 (8 * v1)) + v3)) (s5 128 (w32 ((w32 (8 * v2)) + v3))) = s6 at h ⊢
    refine r_iinc (ls2 := [(21, 92), (0, v1), (0, v2), (0, (w32 (v3 + 1)))]) dX13_copies_142 rfl (by decide) rfl ?_
    refine r_goto (tgt := 26) dX13_copies_145 (by decide) ?_
    exact h
set_option maxRecDepth 20000 in
theorem S_X13_copies_162 {g : GT} {e : Nat} {Q : Int → Sg → Prop} {s : Sg} {v1 : Int} {v2 : Int} {v3 : Int} (h : ((0 ≤ v2 ∧ v2 < 23) ∧ (((w32 (4 * (s 129 v2))) ≤ v3 → Q 0 s) ∧ (¬ (w32 (4 * (s 129 v2))) ≤ v3 → ((0 ≤ (w32 ((w32 (240 * v2)) + v3)) ∧ (w32 ((w32 (240 * v2)) + v3)) < 5520) ∧ ((0 ≤ (w32 ((w32 (240 * v1)) + v3)) ∧ (w32 ((w32 (240 * v1)) + v3)) < 5520) ∧ ∀ s1, s1 = ups s 130 (w32 ((w32 (240 * v1)) + v3)) (s 130 (w32 ((w32 (240 * v2)) + v3))) → P_X13_copies_162 g e Q s1 v1 v2 (w32 (v3 + 1)))))))) : P_X13_copies_162 g e Q s v1 v2 v3 := by
  refine r_iload_n dX13_copies_162 rfl ?_
  refine r_iconst dX13_copies_163 (by decide) ?_
  refine r_aload_n dX13_copies_164 rfl rfl ?_
  refine gf_X13_183 rfl dX13_copies_165 ?_
  refine r_iload_n dX13_copies_168 rfl ?_
  obtain ⟨hb, h⟩ := h
  refine r_iald (n := 23) rfl (by decide) dX13_copies_169 hb ?_
  refine r_imul dX13_copies_170 ?_
  refine r_icmp_ge (tgt := 204) dX13_copies_171 (by decide) (fun hc => ?_) (fun hc => ?_)
  · have h := h.1 hc
    exact r_ret dX13_copies_204 rfl h
  · have h := h.2 hc
    refine r_aload_n dX13_copies_174 rfl rfl ?_
    refine gf_X13_186 rfl dX13_copies_175 ?_
    refine r_sipush dX13_copies_178 (by decide) rfl ?_
    refine r_iload_n dX13_copies_181 rfl ?_
    refine r_imul dX13_copies_182 ?_
    refine r_iload_n dX13_copies_183 rfl ?_
    refine r_iadd dX13_copies_184 ?_
    refine r_aload_n dX13_copies_185 rfl rfl ?_
    refine gf_X13_186 rfl dX13_copies_186 ?_
    refine r_sipush dX13_copies_189 (by decide) rfl ?_
    refine r_iload_n dX13_copies_192 rfl ?_
    refine r_imul dX13_copies_193 ?_
    refine r_iload_n dX13_copies_194 rfl ?_
    refine r_iadd dX13_copies_195 ?_
    obtain ⟨hb, h⟩ := h
    refine r_iald (n := 5520) rfl (by decide) dX13_copies_196 hb ?_
    obtain ⟨hb, h⟩ := h
    refine r_iast (n := 5520) rfl (by decide) dX13_copies_197 hb ?_
    have h := h _ rfl
    generalize hs_s1 : ups s 130 (w32 ((w32 (240 * v1)) + v3)) (s 130 (w32 ((w32 (240 * v2)) + v3))) = s1 at h ⊢
    refine r_iinc (ls2 := [(21, 92), (0, v1), (0, v2), (0, (w32 (v3 + 1)))]) dX13_copies_198 rfl (by decide) rfl ?_
    refine r_goto (tgt := 162) dX13_copies_201 (by decide) ?_
    exact h
set_option maxRecDepth 20000 in
theorem S_X13_copies {g : GT} {e : Nat} {Q : Int → Sg → Prop} {s : Sg} {v1 : Int} {v2 : Int} (h : inR v1 → inR v2 → ((0 ≤ v2 ∧ v2 < 23) ∧ ((0 ≤ v1 ∧ v1 < 23) ∧ ∀ s1, s1 = ups s 122 v1 (s 122 v2) → ((0 ≤ v2 ∧ v2 < 23) ∧ ((0 ≤ v1 ∧ v1 < 23) ∧ ∀ s2, s2 = ups s1 123 v1 (s1 123 v2) → P_X13_copies_26 g e Q s2 v1 v2 0))))) : Mw g (e + 1) M_X13_copies [(21, 92), (0, v1), (0, v2)] s Q := by
  refine Mw.of (ls := [(21, 92), (0, v1), (0, v2), (9, 0)]) pn_X13_copies (Nat.le_of_ble_eq_true rfl) rfl (fun hv => ?_)
  have h := h (hv _ (List.Mem.tail _ (List.Mem.head _))) (hv _ (List.Mem.tail _ (List.Mem.tail _ (List.Mem.head _))))
  refine r_aload_n dX13_copies_0 rfl rfl ?_
  refine gf_X13_162 rfl dX13_copies_1 ?_
  refine r_iload_n dX13_copies_4 rfl ?_
  refine r_aload_n dX13_copies_5 rfl rfl ?_
  refine gf_X13_162 rfl dX13_copies_6 ?_
  refine r_iload_n dX13_copies_9 rfl ?_
  obtain ⟨hb, h⟩ := h
  refine r_iald (n := 23) rfl (by decide) dX13_copies_10 hb ?_
  obtain ⟨hb, h⟩ := h
  refine r_iast (n := 23) rfl (by decide) dX13_copies_11 hb ?_
  have h := h _ rfl
  generalize hs_s1 : ups s 122 v1 (s 122 v2) = s1 at h ⊢
  refine r_aload_n dX13_copies_12 rfl rfl ?_
  refine gf_X13_165 rfl dX13_copies_13 ?_
  refine r_iload_n dX13_copies_16 rfl ?_
  refine r_aload_n dX13_copies_17 rfl rfl ?_
  refine gf_X13_165 rfl dX13_copies_18 ?_
  refine r_iload_n dX13_copies_21 rfl ?_
  obtain ⟨hb, h⟩ := h
  refine r_iald (n := 23) rfl (by decide) dX13_copies_22 hb ?_
  obtain ⟨hb, h⟩ := h
  refine r_iast (n := 23) rfl (by decide) dX13_copies_23 hb ?_
  have h := h _ rfl
  generalize hs_s2 : ups s1 123 v1 (s1 123 v2) = s2 at h ⊢
  refine r_iconst dX13_copies_24 (by decide) ?_
  refine r_istore_n (ls2 := [(21, 92), (0, v1), (0, v2), (0, 0)]) dX13_copies_25 (by decide) rfl ?_
  exact h
set_option maxRecDepth 20000 in
theorem S_X13_slot {g : GT} {e : Nat} {Q : Int → Sg → Prop} {s : Sg} {v1 : Int} (h : inR v1 → Q (w32 (3 + (Int.tmod (w32 ((s 92 58) + v1)) 20))) s) : Mw g (e + 1) M_X13_slot [(21, 92), (0, v1)] s Q := by
  refine Mw.of (ls := [(21, 92), (0, v1)]) pn_X13_slot (Nat.le_of_ble_eq_true rfl) rfl (fun hv => ?_)
  have h := h (hv _ (List.Mem.tail _ (List.Mem.head _)))
  refine r_iconst dX13_slot_0 (by decide) ?_
  refine r_aload_n dX13_slot_1 rfl rfl ?_
  refine gf_X13_189 rfl dX13_slot_2 ?_
  refine r_iload_n dX13_slot_5 rfl ?_
  refine r_iadd dX13_slot_6 ?_
  refine r_bipush dX13_slot_7 (by decide) rfl ?_
  refine r_irem dX13_slot_9 (by decide) ?_
  refine r_iadd dX13_slot_10 ?_
  exact r_iret dX13_slot_11 rfl h
abbrev P_X13_keeps_32 (g : GT) (e : Nat) (Q : Int → Sg → Prop) (s : Sg) : Prop := Wp g (e + 1) M_X13_keeps Q 32 [(21, 92)] [] s
set_option maxRecDepth 20000 in
theorem S_X13_keeps_32 {g : GT} {e : Nat} {Q : Int → Sg → Prop} {s : Sg} (h : (Mw g e M_X13_slot [(21, 92), (0, (s 92 59))] s (fun r1 s2 => (Mw g e M_X13_copies [(21, 92), (0, r1), (0, 0)] s2 (fun _ s4 => (∀ s5, s5 = ups s4 92 59 (w32 ((s4 92 59) + 1)) → Q 0 s5)))))) : P_X13_keeps_32 g e Q s := by
  refine r_aload_n dX13_keeps_32 rfl rfl ?_
  refine r_aload_n dX13_keeps_33 rfl rfl ?_
  refine r_aload_n dX13_keeps_34 rfl rfl ?_
  refine gf_X13_192 rfl dX13_keeps_35 ?_
  refine r_callV (ci := 11) (As := [(0, (s 92 59))]) (st := [(21, 92)]) (by decide) ok_X13_458 rfl rfl (Nat.le_of_ble_eq_true rfl) dX13_keeps_38 h (fun r1 s2 hv h => ?_)
  refine r_iconst dX13_keeps_41 (by decide) ?_
  refine r_callV (ci := 11) (As := [(0, r1), (0, 0)]) (st := []) (by decide) ok_X13_461 rfl rfl (Nat.le_of_ble_eq_true rfl) dX13_keeps_42 h (fun r3 s4 hv h => ?_)
  refine r_aload_n dX13_keeps_45 rfl rfl ?_
  refine r_dup dX13_keeps_46 (show (21 : Nat) ≠ 2 by decide) ?_
  refine gf_X13_192 rfl dX13_keeps_47 ?_
  refine r_iconst dX13_keeps_50 (by decide) ?_
  refine r_iadd dX13_keeps_51 ?_
  refine pf_X13_192 rfl dX13_keeps_52 ?_
  have h := h _ rfl
  generalize hs_s5 : ups s4 92 59 (w32 ((s4 92 59) + 1)) = s5 at h ⊢
  exact r_ret dX13_keeps_55 rfl h
set_option maxRecDepth 20000 in
theorem S_X13_keeps {g : GT} {e : Nat} {Q : Int → Sg → Prop} {s : Sg} (h : ((¬ (s 92 59) = 20 → P_X13_keeps_32 g e Q s) ∧ ((s 92 59) = 20 → (∀ s1, s1 = ups s 92 58 (Int.tmod (w32 ((s 92 58) + 1)) 20) → (∀ s2, s2 = ups s1 92 59 (w32 ((s1 92 59) - 1)) → P_X13_keeps_32 g e Q s2))))) : Mw g (e + 1) M_X13_keeps [(21, 92)] s Q := by
  refine Mw.of (ls := [(21, 92)]) pn_X13_keeps (Nat.le_of_ble_eq_true rfl) rfl (fun hv => ?_)
  refine r_aload_n dX13_keeps_0 rfl rfl ?_
  refine gf_X13_192 rfl dX13_keeps_1 ?_
  refine r_bipush dX13_keeps_4 (by decide) rfl ?_
  refine r_icmp_ne (tgt := 32) dX13_keeps_6 (by decide) (fun hc => ?_) (fun hc => ?_)
  · have h := h.1 hc
    exact h
  · have h := h.2 hc
    refine r_aload_n dX13_keeps_9 rfl rfl ?_
    refine r_aload_n dX13_keeps_10 rfl rfl ?_
    refine gf_X13_189 rfl dX13_keeps_11 ?_
    refine r_iconst dX13_keeps_14 (by decide) ?_
    refine r_iadd dX13_keeps_15 ?_
    refine r_bipush dX13_keeps_16 (by decide) rfl ?_
    refine r_irem dX13_keeps_18 (by decide) ?_
    refine pf_X13_189 rfl dX13_keeps_19 ?_
    have h := h _ rfl
    generalize hs_s1 : ups s 92 58 (Int.tmod (w32 ((s 92 58) + 1)) 20) = s1 at h ⊢
    refine r_aload_n dX13_keeps_22 rfl rfl ?_
    refine r_dup dX13_keeps_23 (show (21 : Nat) ≠ 2 by decide) ?_
    refine gf_X13_192 rfl dX13_keeps_24 ?_
    refine r_iconst dX13_keeps_27 (by decide) ?_
    refine r_isub dX13_keeps_28 ?_
    refine pf_X13_192 rfl dX13_keeps_29 ?_
    have h := h _ rfl
    generalize hs_s2 : ups s1 92 59 (w32 ((s1 92 59) - 1)) = s2 at h ⊢
    exact h
set_option maxRecDepth 20000 in
theorem S_X13_undo {g : GT} {e : Nat} {Q : Int → Sg → Prop} {s : Sg} (h : ((¬ (s 92 59) = 0 → (∀ s1, s1 = ups s 92 59 (w32 ((s 92 59) - 1)) → (Mw g e M_X13_slot [(21, 92), (0, (s1 92 59))] s1 (fun r2 s3 => (Mw g e M_X13_copies [(21, 92), (0, 0), (0, r2)] s3 (fun _ s5 => Q 1 s5)))))) ∧ ((s 92 59) = 0 → (Mw g e M_X13_refuses [(21, 92), (0, 4)] s (fun r6 s7 => ((r6 < 0 → Q 0 s7) ∧ (¬ r6 < 0 → Q 1 s7))))))) : Mw g (e + 1) M_X13_undo [(21, 92)] s Q := by
  refine Mw.of (ls := [(21, 92)]) pn_X13_undo (Nat.le_of_ble_eq_true rfl) rfl (fun hv => ?_)
  refine r_aload_n dX13_undo_0 rfl rfl ?_
  refine gf_X13_192 rfl dX13_undo_1 ?_
  refine r_if_ne (tgt := 21) dX13_undo_4 (by decide) (fun hc => ?_) (fun hc => ?_)
  · have h := h.1 hc
    refine r_aload_n dX13_undo_21 rfl rfl ?_
    refine r_dup dX13_undo_22 (show (21 : Nat) ≠ 2 by decide) ?_
    refine gf_X13_192 rfl dX13_undo_23 ?_
    refine r_iconst dX13_undo_26 (by decide) ?_
    refine r_isub dX13_undo_27 ?_
    refine pf_X13_192 rfl dX13_undo_28 ?_
    have h := h _ rfl
    generalize hs_s1 : ups s 92 59 (w32 ((s 92 59) - 1)) = s1 at h ⊢
    refine r_aload_n dX13_undo_31 rfl rfl ?_
    refine r_iconst dX13_undo_32 (by decide) ?_
    refine r_aload_n dX13_undo_33 rfl rfl ?_
    refine r_aload_n dX13_undo_34 rfl rfl ?_
    refine gf_X13_192 rfl dX13_undo_35 ?_
    refine r_callV (ci := 11) (As := [(0, (s1 92 59))]) (st := [(0, 0), (21, 92)]) (by decide) ok_X13_458 rfl rfl (Nat.le_of_ble_eq_true rfl) dX13_undo_38 h (fun r2 s3 hv h => ?_)
    refine r_callV (ci := 11) (As := [(0, 0), (0, r2)]) (st := []) (by decide) ok_X13_461 rfl rfl (Nat.le_of_ble_eq_true rfl) dX13_undo_41 h (fun r4 s5 hv h => ?_)
    refine r_iconst dX13_undo_44 (by decide) ?_
    exact r_zret dX13_undo_45 rfl (by decide) h
  · have h := h.2 hc
    refine r_aload_n dX13_undo_7 rfl rfl ?_
    refine r_iconst dX13_undo_8 (by decide) ?_
    refine r_callV (ci := 11) (As := [(0, 4)]) (st := []) (by decide) ok_X13_250 rfl rfl (Nat.le_of_ble_eq_true rfl) dX13_undo_9 h (fun r6 s7 hv h => ?_)
    refine r_if_lt (tgt := 19) dX13_undo_12 (by decide) (fun hc => ?_) (fun hc => ?_)
    · have h := h.1 hc
      refine r_iconst dX13_undo_19 (by decide) ?_
      exact r_zret dX13_undo_20 rfl (by decide) h
    · have h := h.2 hc
      refine r_iconst dX13_undo_15 (by decide) ?_
      refine r_goto (tgt := 20) dX13_undo_16 (by decide) ?_
      exact r_zret dX13_undo_20 rfl (by decide) h
set_option maxRecDepth 20000 in
theorem S_X13_held {g : GT} {e : Nat} {Q : Int → Sg → Prop} {s : Sg} {v0 : Int} (h : inL v0 → (((lCmp v0 1000000) ≤ 0 → ((0 ≤ (lCmp v0 (-1000000)) → Q v0 s) ∧ (¬ 0 ≤ (lCmp v0 (-1000000)) → Q (-1000000) s))) ∧ (¬ (lCmp v0 1000000) ≤ 0 → Q 1000000 s))) : Mw g (e + 1) M_X13_held [(2, v0)] s Q := by
  refine Mw.of (ls := [(2, v0), (9, 0)]) pn_X13_held (Nat.le_of_ble_eq_true rfl) rfl (fun hv => ?_)
  have h := h (hv _ (List.Mem.head _))
  refine r_lload_n dX13_held_0 rfl ?_
  refine r_ldc2 (v := 1000000) dX13_held_1 lk_X13_464 (by decide) ?_
  refine r_lcmp dX13_held_4 ?_
  refine r_if_le (tgt := 14) dX13_held_5 (by decide) (fun hc => ?_) (fun hc => ?_)
  · have h := h.1 hc
    refine r_lload_n dX13_held_14 rfl ?_
    refine r_ldc2 (v := -1000000) dX13_held_15 lk_X13_466 (by decide) ?_
    refine r_lcmp dX13_held_18 ?_
    refine r_if_ge (tgt := 28) dX13_held_19 (by decide) (fun hc => ?_) (fun hc => ?_)
    · have h := h.1 hc
      refine r_lload_n dX13_held_28 rfl ?_
      exact r_lret dX13_held_29 rfl h
    · have h := h.2 hc
      refine r_ldc2 (v := -1000000) dX13_held_22 lk_X13_466 (by decide) ?_
      refine r_goto (tgt := 29) dX13_held_25 (by decide) ?_
      exact r_lret dX13_held_29 rfl h
  · have h := h.2 hc
    refine r_ldc2 (v := 1000000) dX13_held_8 lk_X13_464 (by decide) ?_
    refine r_goto (tgt := 29) dX13_held_11 (by decide) ?_
    exact r_lret dX13_held_29 rfl h
abbrev P_X13_floor_32 (g : GT) (e : Nat) (Q : Int → Sg → Prop) (s : Sg) (v2 : Int) (v4 : Int) (x0 : Int) : Prop := Wp g (e + 1) M_X13_floor Q 32 [(9, 0), (9, 0), (2, v2), (9, 0), (2, v4), (9, 0)] [(0, x0)] s
abbrev P_X13_floor_43 (g : GT) (e : Nat) (Q : Int → Sg → Prop) (s : Sg) (v4 : Int) (x0 : Int) (x1 : Int) : Prop := Wp g (e + 1) M_X13_floor Q 43 [(9, 0), (9, 0), (9, 0), (9, 0), (2, v4), (9, 0)] [(0, x1), (0, x0)] s
set_option maxRecDepth 20000 in
theorem S_X13_floor_32 {g : GT} {e : Nat} {Q : Int → Sg → Prop} {s : Sg} {v2 : Int} {v4 : Int} {x0 : Int} (h : ((0 ≤ (lCmp v2 0) → P_X13_floor_43 g e Q s v4 x0 0) ∧ (¬ 0 ≤ (lCmp v2 0) → P_X13_floor_43 g e Q s v4 x0 1))) : P_X13_floor_32 g e Q s v2 v4 x0 := by
  refine r_lload_n dX13_floor_32 rfl ?_
  refine r_lconst (v := 0) dX13_floor_33 rfl (by decide) ?_
  refine r_lcmp dX13_floor_34 ?_
  refine r_if_ge (tgt := 42) dX13_floor_35 (by decide) (fun hc => ?_) (fun hc => ?_)
  · have h := h.1 hc
    refine r_iconst dX13_floor_42 (by decide) ?_
    exact r_fgt [false, false, false, false, true, false] rfl h
  · have h := h.2 hc
    refine r_iconst dX13_floor_38 (by decide) ?_
    refine r_goto (tgt := 43) dX13_floor_39 (by decide) ?_
    exact r_fgt [false, false, false, false, true, false] rfl h
set_option maxRecDepth 20000 in
theorem S_X13_floor_43 {g : GT} {e : Nat} {Q : Int → Sg → Prop} {s : Sg} {v4 : Int} {x0 : Int} {x1 : Int} (h : ((x0 = x1 → Q v4 s) ∧ (¬ x0 = x1 → Q (w64 (v4 - 1)) s))) : P_X13_floor_43 g e Q s v4 x0 x1 := by
  refine r_icmp_eq (tgt := 53) dX13_floor_43 (by decide) (fun hc => ?_) (fun hc => ?_)
  · have h := h.1 hc
    refine r_lload dX13_floor_53 rfl ?_
    exact r_lret dX13_floor_55 rfl h
  · have h := h.2 hc
    refine r_lload dX13_floor_46 rfl ?_
    refine r_lconst (v := 1) dX13_floor_48 rfl (by decide) ?_
    refine r_lsub dX13_floor_49 ?_
    refine r_goto (tgt := 55) dX13_floor_50 (by decide) ?_
    exact r_lret dX13_floor_55 rfl h
set_option maxRecDepth 20000 in
theorem S_X13_floor {g : GT} {e : Nat} {Q : Int → Sg → Prop} {s : Sg} {v0 : Int} {v2 : Int} (h : inL v0 → inL v2 → ((¬ (lCmp v2 0) = 0 → ((¬ v2 = 0) ∧ ((¬ v2 = 0) ∧ (((lCmp (Int.tmod v0 v2) 0) = 0 → Q (w64 (Int.tdiv v0 v2)) s) ∧ (¬ (lCmp (Int.tmod v0 v2) 0) = 0 → ((0 ≤ (lCmp v0 0) → P_X13_floor_32 g e Q s v2 (w64 (Int.tdiv v0 v2)) 0) ∧ (¬ 0 ≤ (lCmp v0 0) → P_X13_floor_32 g e Q s v2 (w64 (Int.tdiv v0 v2)) 1))))))) ∧ ((lCmp v2 0) = 0 → Q 0 s))) : Mw g (e + 1) M_X13_floor [(2, v0), (2, v2)] s Q := by
  refine Mw.of (ls := [(2, v0), (9, 0), (2, v2), (9, 0), (9, 0), (9, 0)]) pn_X13_floor (Nat.le_of_ble_eq_true rfl) rfl (fun hv => ?_)
  have h := h (hv _ (List.Mem.head _)) (hv _ (List.Mem.tail _ (List.Mem.head _)))
  refine r_lload_n dX13_floor_0 rfl ?_
  refine r_lconst (v := 0) dX13_floor_1 rfl (by decide) ?_
  refine r_lcmp dX13_floor_2 ?_
  refine r_if_ne (tgt := 8) dX13_floor_3 (by decide) (fun hc => ?_) (fun hc => ?_)
  · have h := h.1 hc
    refine r_lload_n dX13_floor_8 rfl ?_
    refine r_lload_n dX13_floor_9 rfl ?_
    obtain ⟨hz, h⟩ := h
    refine r_ldiv dX13_floor_10 hz ?_
    refine r_lstore (ls2 := [(2, v0), (9, 0), (2, v2), (9, 0), (2, (w64 (Int.tdiv v0 v2))), (9, 0)]) dX13_floor_11 (by decide) rfl ?_
    refine r_lload_n dX13_floor_13 rfl ?_
    refine r_lload_n dX13_floor_14 rfl ?_
    obtain ⟨hz, h⟩ := h
    refine r_lrem dX13_floor_15 hz ?_
    refine r_lconst (v := 0) dX13_floor_16 rfl (by decide) ?_
    refine r_lcmp dX13_floor_17 ?_
    refine r_if_eq (tgt := 53) dX13_floor_18 (by decide) (fun hc => ?_) (fun hc => ?_)
    · have h := h.1 hc
      refine r_lload dX13_floor_53 rfl ?_
      exact r_lret dX13_floor_55 rfl h
    · have h := h.2 hc
      refine r_lload_n dX13_floor_21 rfl ?_
      refine r_lconst (v := 0) dX13_floor_22 rfl (by decide) ?_
      refine r_lcmp dX13_floor_23 ?_
      refine r_if_ge (tgt := 31) dX13_floor_24 (by decide) (fun hc => ?_) (fun hc => ?_)
      · have h := h.1 hc
        refine r_iconst dX13_floor_31 (by decide) ?_
        exact r_fgt [false, false, true, false, true, false] rfl h
      · have h := h.2 hc
        refine r_iconst dX13_floor_27 (by decide) ?_
        refine r_goto (tgt := 32) dX13_floor_28 (by decide) ?_
        exact r_fgt [false, false, true, false, true, false] rfl h
  · have h := h.2 hc
    refine r_lconst (v := 0) dX13_floor_6 rfl (by decide) ?_
    exact r_lret dX13_floor_7 rfl h
set_option maxRecDepth 20000 in
theorem S_X13_two {g : GT} {e : Nat} {Q : Int → Sg → Prop} {s : Sg} {v0 : Int} {v1 : Int} {v3 : Int} (h : inR v0 → inL v1 → inL v3 → ((v0 = 31 → (Mw g e M_X13_held [(2, (w64 (v1 + v3)))] s (fun r1 s2 => Q r1 s2))) ∧ (v0 = 32 → (Mw g e M_X13_held [(2, (w64 (v1 - v3)))] s (fun r3 s4 => Q r3 s4))) ∧ (v0 = 33 → (Mw g e M_X13_held [(2, (w64 (v1 * v3)))] s (fun r5 s6 => Q r5 s6))) ∧ (v0 = 34 → (Mw g e M_X13_floor [(2, v1), (2, v3)] s (fun r7 s8 => (Mw g e M_X13_held [(2, r7)] s8 (fun r9 s10 => Q r9 s10))))) ∧ (v0 = 35 → ((¬ (lCmp v3 0) = 0 → (Mw g e M_X13_floor [(2, v1), (2, v3)] s (fun r11 s12 => (Mw g e M_X13_held [(2, (w64 (v1 - (w64 (v3 * r11)))))] s12 (fun r13 s14 => Q r13 s14))))) ∧ ((lCmp v3 0) = 0 → Q 0 s))) ∧ (v0 = 36 → ((0 ≤ (lCmp v1 v3) → Q v3 s) ∧ (¬ 0 ≤ (lCmp v1 v3) → Q v1 s))) ∧ (v0 = 37 → (((lCmp v1 v3) ≤ 0 → Q v3 s) ∧ (¬ (lCmp v1 v3) ≤ 0 → Q v1 s))) ∧ (v0 = 38 → ((0 ≤ (lCmp v1 v3) → Q 0 s) ∧ (¬ 0 ≤ (lCmp v1 v3) → Q 1 s))) ∧ (v0 = 39 → (((lCmp v1 v3) ≤ 0 → Q 0 s) ∧ (¬ (lCmp v1 v3) ≤ 0 → Q 1 s))) ∧ (v0 = 40 → ((¬ (lCmp v1 v3) = 0 → Q 0 s) ∧ ((lCmp v1 v3) = 0 → Q 1 s))) ∧ (v0 = 41 → Q (lAnd v1 v3) s) ∧ ((v0 < 31 ∨ 41 < v0) → Q (lOr v1 v3) s))) : Mw g (e + 1) M_X13_two [(0, v0), (2, v1), (2, v3)] s Q := by
  refine Mw.of (ls := [(0, v0), (2, v1), (9, 0), (2, v3), (9, 0)]) pn_X13_two (Nat.le_of_ble_eq_true rfl) rfl (fun hv => ?_)
  have h := h (hv _ (List.Mem.head _)) (hv _ (List.Mem.tail _ (List.Mem.head _))) (hv _ (List.Mem.tail _ (List.Mem.tail _ (List.Mem.head _))))
  refine r_iload_n dX13_two_0 rfl ?_
  obtain ⟨h_0, h_1, h_2, h_3, h_4, h_5, h_6, h_7, h_8, h_9, h_10, h_d⟩ := h
  rcases (show (v0 < 31 ∨ 41 < v0) ∨ v0 = 31 ∨ v0 = 32 ∨ v0 = 33 ∨ v0 = 34 ∨ v0 = 35 ∨ v0 = 36 ∨ v0 = 37 ∨ v0 = 38 ∨ v0 = 39 ∨ v0 = 40 ∨ v0 = 41 by omega) with hk | hk | hk | hk | hk | hk | hk | hk | hk | hk | hk | hk
  · have h := h_d hk
    refine r_tableOut (tgt := 177) dX13_two_1 hk (by decide) ?_
    refine r_lload_n dX13_two_177 rfl ?_
    refine r_lload_n dX13_two_178 rfl ?_
    refine r_lor dX13_two_179 ?_
    exact r_lret dX13_two_180 rfl h
  · have h := h_0 hk
    refine r_tableIn (tgt := 60) dX13_two_1 (by omega) (by omega) (by rw [hk]; rfl) (by decide) ?_
    refine r_lload_n dX13_two_60 rfl ?_
    refine r_lload_n dX13_two_61 rfl ?_
    refine r_ladd dX13_two_62 ?_
    refine r_callS (As := [(2, (w64 (v1 + v3)))]) (st := []) ok_X13_468 rfl rfl (Nat.le_of_ble_eq_true rfl) dX13_two_63 h (fun r1 s2 hv h => ?_)
    exact r_lret dX13_two_66 rfl h
  · have h := h_1 hk
    refine r_tableIn (tgt := 67) dX13_two_1 (by omega) (by omega) (by rw [hk]; rfl) (by decide) ?_
    refine r_lload_n dX13_two_67 rfl ?_
    refine r_lload_n dX13_two_68 rfl ?_
    refine r_lsub dX13_two_69 ?_
    refine r_callS (As := [(2, (w64 (v1 - v3)))]) (st := []) ok_X13_468 rfl rfl (Nat.le_of_ble_eq_true rfl) dX13_two_70 h (fun r3 s4 hv h => ?_)
    exact r_lret dX13_two_73 rfl h
  · have h := h_2 hk
    refine r_tableIn (tgt := 74) dX13_two_1 (by omega) (by omega) (by rw [hk]; rfl) (by decide) ?_
    refine r_lload_n dX13_two_74 rfl ?_
    refine r_lload_n dX13_two_75 rfl ?_
    refine r_lmul dX13_two_76 ?_
    refine r_callS (As := [(2, (w64 (v1 * v3)))]) (st := []) ok_X13_468 rfl rfl (Nat.le_of_ble_eq_true rfl) dX13_two_77 h (fun r5 s6 hv h => ?_)
    exact r_lret dX13_two_80 rfl h
  · have h := h_3 hk
    refine r_tableIn (tgt := 81) dX13_two_1 (by omega) (by omega) (by rw [hk]; rfl) (by decide) ?_
    refine r_lload_n dX13_two_81 rfl ?_
    refine r_lload_n dX13_two_82 rfl ?_
    refine r_callS (As := [(2, v1), (2, v3)]) (st := []) ok_X13_472 rfl rfl (Nat.le_of_ble_eq_true rfl) dX13_two_83 h (fun r7 s8 hv h => ?_)
    refine r_callS (As := [(2, r7)]) (st := []) ok_X13_468 rfl rfl (Nat.le_of_ble_eq_true rfl) dX13_two_86 h (fun r9 s10 hv h => ?_)
    exact r_lret dX13_two_89 rfl h
  · have h := h_4 hk
    refine r_tableIn (tgt := 90) dX13_two_1 (by omega) (by omega) (by rw [hk]; rfl) (by decide) ?_
    refine r_lload_n dX13_two_90 rfl ?_
    refine r_lconst (v := 0) dX13_two_91 rfl (by decide) ?_
    refine r_lcmp dX13_two_92 ?_
    refine r_if_ne (tgt := 100) dX13_two_93 (by decide) (fun hc => ?_) (fun hc => ?_)
    · have h := h.1 hc
      refine r_lload_n dX13_two_100 rfl ?_
      refine r_lload_n dX13_two_101 rfl ?_
      refine r_lload_n dX13_two_102 rfl ?_
      refine r_lload_n dX13_two_103 rfl ?_
      refine r_callS (As := [(2, v1), (2, v3)]) (st := [(2, v3), (2, v1)]) ok_X13_472 rfl rfl (Nat.le_of_ble_eq_true rfl) dX13_two_104 h (fun r11 s12 hv h => ?_)
      refine r_lmul dX13_two_107 ?_
      refine r_lsub dX13_two_108 ?_
      refine r_callS (As := [(2, (w64 (v1 - (w64 (v3 * r11)))))]) (st := []) ok_X13_468 rfl rfl (Nat.le_of_ble_eq_true rfl) dX13_two_109 h (fun r13 s14 hv h => ?_)
      exact r_lret dX13_two_112 rfl h
    · have h := h.2 hc
      refine r_lconst (v := 0) dX13_two_96 rfl (by decide) ?_
      refine r_goto (tgt := 112) dX13_two_97 (by decide) ?_
      exact r_lret dX13_two_112 rfl h
  · have h := h_5 hk
    refine r_tableIn (tgt := 113) dX13_two_1 (by omega) (by omega) (by rw [hk]; rfl) (by decide) ?_
    refine r_lload_n dX13_two_113 rfl ?_
    refine r_lload_n dX13_two_114 rfl ?_
    refine r_lcmp dX13_two_115 ?_
    refine r_if_ge (tgt := 123) dX13_two_116 (by decide) (fun hc => ?_) (fun hc => ?_)
    · have h := h.1 hc
      refine r_lload_n dX13_two_123 rfl ?_
      exact r_lret dX13_two_124 rfl h
    · have h := h.2 hc
      refine r_lload_n dX13_two_119 rfl ?_
      refine r_goto (tgt := 124) dX13_two_120 (by decide) ?_
      exact r_lret dX13_two_124 rfl h
  · have h := h_6 hk
    refine r_tableIn (tgt := 125) dX13_two_1 (by omega) (by omega) (by rw [hk]; rfl) (by decide) ?_
    refine r_lload_n dX13_two_125 rfl ?_
    refine r_lload_n dX13_two_126 rfl ?_
    refine r_lcmp dX13_two_127 ?_
    refine r_if_le (tgt := 135) dX13_two_128 (by decide) (fun hc => ?_) (fun hc => ?_)
    · have h := h.1 hc
      refine r_lload_n dX13_two_135 rfl ?_
      exact r_lret dX13_two_136 rfl h
    · have h := h.2 hc
      refine r_lload_n dX13_two_131 rfl ?_
      refine r_goto (tgt := 136) dX13_two_132 (by decide) ?_
      exact r_lret dX13_two_136 rfl h
  · have h := h_7 hk
    refine r_tableIn (tgt := 137) dX13_two_1 (by omega) (by omega) (by rw [hk]; rfl) (by decide) ?_
    refine r_lload_n dX13_two_137 rfl ?_
    refine r_lload_n dX13_two_138 rfl ?_
    refine r_lcmp dX13_two_139 ?_
    refine r_if_ge (tgt := 147) dX13_two_140 (by decide) (fun hc => ?_) (fun hc => ?_)
    · have h := h.1 hc
      refine r_lconst (v := 0) dX13_two_147 rfl (by decide) ?_
      exact r_lret dX13_two_148 rfl h
    · have h := h.2 hc
      refine r_lconst (v := 1) dX13_two_143 rfl (by decide) ?_
      refine r_goto (tgt := 148) dX13_two_144 (by decide) ?_
      exact r_lret dX13_two_148 rfl h
  · have h := h_8 hk
    refine r_tableIn (tgt := 149) dX13_two_1 (by omega) (by omega) (by rw [hk]; rfl) (by decide) ?_
    refine r_lload_n dX13_two_149 rfl ?_
    refine r_lload_n dX13_two_150 rfl ?_
    refine r_lcmp dX13_two_151 ?_
    refine r_if_le (tgt := 159) dX13_two_152 (by decide) (fun hc => ?_) (fun hc => ?_)
    · have h := h.1 hc
      refine r_lconst (v := 0) dX13_two_159 rfl (by decide) ?_
      exact r_lret dX13_two_160 rfl h
    · have h := h.2 hc
      refine r_lconst (v := 1) dX13_two_155 rfl (by decide) ?_
      refine r_goto (tgt := 160) dX13_two_156 (by decide) ?_
      exact r_lret dX13_two_160 rfl h
  · have h := h_9 hk
    refine r_tableIn (tgt := 161) dX13_two_1 (by omega) (by omega) (by rw [hk]; rfl) (by decide) ?_
    refine r_lload_n dX13_two_161 rfl ?_
    refine r_lload_n dX13_two_162 rfl ?_
    refine r_lcmp dX13_two_163 ?_
    refine r_if_ne (tgt := 171) dX13_two_164 (by decide) (fun hc => ?_) (fun hc => ?_)
    · have h := h.1 hc
      refine r_lconst (v := 0) dX13_two_171 rfl (by decide) ?_
      exact r_lret dX13_two_172 rfl h
    · have h := h.2 hc
      refine r_lconst (v := 1) dX13_two_167 rfl (by decide) ?_
      refine r_goto (tgt := 172) dX13_two_168 (by decide) ?_
      exact r_lret dX13_two_172 rfl h
  · have h := h_10 hk
    refine r_tableIn (tgt := 173) dX13_two_1 (by omega) (by omega) (by rw [hk]; rfl) (by decide) ?_
    refine r_lload_n dX13_two_173 rfl ?_
    refine r_lload_n dX13_two_174 rfl ?_
    refine r_land dX13_two_175 ?_
    exact r_lret dX13_two_176 rfl h
abbrev P_X13_reckons_25 (g : GT) (e : Nat) (Q : Int → Sg → Prop) (s : Sg) (v1 : Int) (v2 : Int) (v3 : Int) : Prop := Wp g (e + 1) M_X13_reckons Q 25 [(21, 92), (0, v1), (0, v2), (0, v3), (9, 0)] [] s
set_option maxRecDepth 20000 in
theorem S_X13_reckons_25 {g : GT} {e : Nat} {Q : Int → Sg → Prop} {s : Sg} {v1 : Int} {v2 : Int} {v3 : Int} (h : ((0 ≤ (w32 ((w32 (2 * (s 92 13))) + v1)) ∧ (w32 ((w32 (2 * (s 92 13))) + v1)) < 4) ∧ (((w32 ((w32 (1600 * (s 92 13))) + (s 109 (w32 ((w32 (2 * (s 92 13))) + v1))))) ≤ v3 → Q (s 131 0) s) ∧ (¬ (w32 ((w32 (1600 * (s 92 13))) + (s 109 (w32 ((w32 (2 * (s 92 13))) + v1))))) ≤ v3 → ((0 ≤ v3 ∧ v3 < 3200) ∧ ((30 < (s 110 v3) → ((¬ (s 110 v3) = 43 → ((¬ (s 110 v3) = 44 → ((0 ≤ (w32 ((w32 (v2 + (-1))) - 1)) ∧ (w32 ((w32 (v2 + (-1))) - 1)) < 500) ∧ ((0 ≤ (w32 (v2 + (-1))) ∧ (w32 (v2 + (-1))) < 500) ∧ (Mw g e M_X13_two [(0, (s 110 v3)), (2, (s 131 (w32 ((w32 (v2 + (-1))) - 1)))), (2, (s 131 (w32 (v2 + (-1)))))] s (fun r1 s2 => ((0 ≤ (w32 ((w32 (v2 + (-1))) - 1)) ∧ (w32 ((w32 (v2 + (-1))) - 1)) < 500) ∧ ∀ s3, s3 = ups s2 131 (w32 ((w32 (v2 + (-1))) - 1)) r1 → P_X13_reckons_25 g e Q s3 v1 (w32 (v2 + (-1))) (w32 (v3 + 1)))))))) ∧ ((s 110 v3) = 44 → ((0 ≤ (w32 ((w32 (v2 + (-2))) - 1)) ∧ (w32 ((w32 (v2 + (-2))) - 1)) < 500) ∧ ((¬ (lCmp (s 131 (w32 ((w32 (v2 + (-2))) - 1))) 1) = 0 → ((0 ≤ (w32 ((w32 (v2 + (-2))) + 1)) ∧ (w32 ((w32 (v2 + (-2))) + 1)) < 500) ∧ ((0 ≤ (w32 ((w32 (v2 + (-2))) - 1)) ∧ (w32 ((w32 (v2 + (-2))) - 1)) < 500) ∧ ∀ s4, s4 = ups s 131 (w32 ((w32 (v2 + (-2))) - 1)) (s 131 (w32 ((w32 (v2 + (-2))) + 1))) → P_X13_reckons_25 g e Q s4 v1 (w32 (v2 + (-2))) (w32 (v3 + 1))))) ∧ ((lCmp (s 131 (w32 ((w32 (v2 + (-2))) - 1))) 1) = 0 → ((0 ≤ (w32 (v2 + (-2))) ∧ (w32 (v2 + (-2))) < 500) ∧ ((0 ≤ (w32 ((w32 (v2 + (-2))) - 1)) ∧ (w32 ((w32 (v2 + (-2))) - 1)) < 500) ∧ ∀ s5, s5 = ups s 131 (w32 ((w32 (v2 + (-2))) - 1)) (s 131 (w32 (v2 + (-2)))) → P_X13_reckons_25 g e Q s5 v1 (w32 (v2 + (-2))) (w32 (v3 + 1)))))))))) ∧ ((s 110 v3) = 43 → ((0 ≤ (w32 (v2 - 1)) ∧ (w32 (v2 - 1)) < 500) ∧ ((0 ≤ (w32 (v2 - 1)) ∧ (w32 (v2 - 1)) < 500) ∧ ∀ s6, s6 = ups s 131 (w32 (v2 - 1)) (w64 (1 - (s 131 (w32 (v2 - 1))))) → P_X13_reckons_25 g e Q s6 v1 v2 (w32 (v3 + 1))))))) ∧ (¬ 30 < (s 110 v3) → ((¬ (s 110 v3) = 0 → ((¬ (s 110 v3) = 30 → ((0 ≤ (s 110 v3) ∧ (s 110 v3) < 12) ∧ ((0 ≤ v2 ∧ v2 < 500) ∧ ∀ s7, s7 = ups s 131 v2 (s 132 (s 110 v3)) → P_X13_reckons_25 g e Q s7 v1 (w32 (v2 + 1)) (w32 (v3 + 1))))) ∧ ((s 110 v3) = 30 → ((0 ≤ v2 ∧ v2 < 500) ∧ ∀ s8, s8 = ups s 131 v2 1 → P_X13_reckons_25 g e Q s8 v1 (w32 (v2 + 1)) (w32 (v3 + 1)))))) ∧ ((s 110 v3) = 0 → ((0 ≤ v3 ∧ v3 < 3200) ∧ ((0 ≤ v2 ∧ v2 < 500) ∧ ∀ s9, s9 = ups s 131 v2 (s 111 v3) → P_X13_reckons_25 g e Q s9 v1 (w32 (v2 + 1)) (w32 (v3 + 1))))))))))))) : P_X13_reckons_25 g e Q s v1 v2 v3 := by
  refine r_iload_n dX13_reckons_25 rfl ?_
  refine r_sipush dX13_reckons_26 (by decide) rfl ?_
  refine r_aload_n dX13_reckons_29 rfl rfl ?_
  refine gf_X13_51 rfl dX13_reckons_30 ?_
  refine r_imul dX13_reckons_33 ?_
  refine r_aload_n dX13_reckons_34 rfl rfl ?_
  refine gf_X13_99 rfl dX13_reckons_35 ?_
  refine r_iconst dX13_reckons_38 (by decide) ?_
  refine r_aload_n dX13_reckons_39 rfl rfl ?_
  refine gf_X13_51 rfl dX13_reckons_40 ?_
  refine r_imul dX13_reckons_43 ?_
  refine r_iload_n dX13_reckons_44 rfl ?_
  refine r_iadd dX13_reckons_45 ?_
  obtain ⟨hb, h⟩ := h
  refine r_iald (n := 4) rfl (by decide) dX13_reckons_46 hb ?_
  refine r_iadd dX13_reckons_47 ?_
  refine r_icmp_ge (tgt := 227) dX13_reckons_48 (by decide) (fun hc => ?_) (fun hc => ?_)
  · have h := h.1 hc
    refine r_aload_n dX13_reckons_227 rfl rfl ?_
    refine gf_X13_198 rfl dX13_reckons_228 ?_
    refine r_iconst dX13_reckons_231 (by decide) ?_
    refine r_lald (n := 500) rfl (by decide) dX13_reckons_232 (by decide) ?_
    exact r_lret dX13_reckons_233 rfl h
  · have h := h.2 hc
    refine r_aload_n dX13_reckons_51 rfl rfl ?_
    refine gf_X13_102 rfl dX13_reckons_52 ?_
    refine r_iload_n dX13_reckons_55 rfl ?_
    obtain ⟨hb, h⟩ := h
    refine r_iald (n := 3200) rfl (by decide) dX13_reckons_56 hb ?_
    refine r_istore (ls2 := [(21, 92), (0, v1), (0, v2), (0, v3), (0, (s 110 v3))]) dX13_reckons_57 (by decide) rfl ?_
    refine r_iload dX13_reckons_59 rfl ?_
    refine r_bipush dX13_reckons_61 (by decide) rfl ?_
    refine r_icmp_gt (tgt := 112) dX13_reckons_63 (by decide) (fun hc => ?_) (fun hc => ?_)
    · have h := h.1 hc
      refine r_iload dX13_reckons_112 rfl ?_
      refine r_bipush dX13_reckons_114 (by decide) rfl ?_
      refine r_icmp_ne (tgt := 140) dX13_reckons_116 (by decide) (fun hc => ?_) (fun hc => ?_)
      · have h := h.1 hc
        refine r_iload dX13_reckons_140 rfl ?_
        refine r_bipush dX13_reckons_142 (by decide) rfl ?_
        refine r_icmp_ne (tgt := 191) dX13_reckons_144 (by decide) (fun hc => ?_) (fun hc => ?_)
        · have h := h.1 hc
          refine r_iinc (ls2 := [(21, 92), (0, v1), (0, (w32 (v2 + (-1)))), (0, v3), (0, (s 110 v3))]) dX13_reckons_191 rfl (by decide) rfl ?_
          refine r_aload_n dX13_reckons_194 rfl rfl ?_
          refine gf_X13_198 rfl dX13_reckons_195 ?_
          refine r_iload_n dX13_reckons_198 rfl ?_
          refine r_iconst dX13_reckons_199 (by decide) ?_
          refine r_isub dX13_reckons_200 ?_
          refine r_iload dX13_reckons_201 rfl ?_
          refine r_aload_n dX13_reckons_203 rfl rfl ?_
          refine gf_X13_198 rfl dX13_reckons_204 ?_
          refine r_iload_n dX13_reckons_207 rfl ?_
          refine r_iconst dX13_reckons_208 (by decide) ?_
          refine r_isub dX13_reckons_209 ?_
          obtain ⟨hb, h⟩ := h
          refine r_lald (n := 500) rfl (by decide) dX13_reckons_210 hb ?_
          refine r_aload_n dX13_reckons_211 rfl rfl ?_
          refine gf_X13_198 rfl dX13_reckons_212 ?_
          refine r_iload_n dX13_reckons_215 rfl ?_
          obtain ⟨hb, h⟩ := h
          refine r_lald (n := 500) rfl (by decide) dX13_reckons_216 hb ?_
          refine r_callS (As := [(0, (s 110 v3)), (2, (s 131 (w32 ((w32 (v2 + (-1))) - 1)))), (2, (s 131 (w32 (v2 + (-1)))))]) (st := [(0, (w32 ((w32 (v2 + (-1))) - 1))), (58, 131)]) ok_X13_476 rfl rfl (Nat.le_of_ble_eq_true rfl) dX13_reckons_217 h (fun r1 s2 hv h => ?_)
          obtain ⟨hb, h⟩ := h
          refine r_last (n := 500) rfl (by decide) dX13_reckons_220 hb ?_
          have h := h _ rfl
          generalize hs_s3 : ups s2 131 (w32 ((w32 (v2 + (-1))) - 1)) r1 = s3 at h ⊢
          refine r_iinc (ls2 := [(21, 92), (0, v1), (0, (w32 (v2 + (-1)))), (0, (w32 (v3 + 1))), (0, (s 110 v3))]) dX13_reckons_221 rfl (by decide) rfl ?_
          refine r_goto (tgt := 25) dX13_reckons_224 (by decide) ?_
          exact r_fgt [true, true, true, true, false] rfl h
        · have h := h.2 hc
          refine r_iinc (ls2 := [(21, 92), (0, v1), (0, (w32 (v2 + (-2)))), (0, v3), (0, (s 110 v3))]) dX13_reckons_147 rfl (by decide) rfl ?_
          refine r_aload_n dX13_reckons_150 rfl rfl ?_
          refine gf_X13_198 rfl dX13_reckons_151 ?_
          refine r_iload_n dX13_reckons_154 rfl ?_
          refine r_iconst dX13_reckons_155 (by decide) ?_
          refine r_isub dX13_reckons_156 ?_
          refine r_aload_n dX13_reckons_157 rfl rfl ?_
          refine gf_X13_198 rfl dX13_reckons_158 ?_
          refine r_iload_n dX13_reckons_161 rfl ?_
          refine r_iconst dX13_reckons_162 (by decide) ?_
          refine r_isub dX13_reckons_163 ?_
          obtain ⟨hb, h⟩ := h
          refine r_lald (n := 500) rfl (by decide) dX13_reckons_164 hb ?_
          refine r_lconst (v := 1) dX13_reckons_165 rfl (by decide) ?_
          refine r_lcmp dX13_reckons_166 ?_
          refine r_if_ne (tgt := 179) dX13_reckons_167 (by decide) (fun hc => ?_) (fun hc => ?_)
          · have h := h.1 hc
            refine r_aload_n dX13_reckons_179 rfl rfl ?_
            refine gf_X13_198 rfl dX13_reckons_180 ?_
            refine r_iload_n dX13_reckons_183 rfl ?_
            refine r_iconst dX13_reckons_184 (by decide) ?_
            refine r_iadd dX13_reckons_185 ?_
            obtain ⟨hb, h⟩ := h
            refine r_lald (n := 500) rfl (by decide) dX13_reckons_186 hb ?_
            obtain ⟨hb, h⟩ := h
            refine r_last (n := 500) rfl (by decide) dX13_reckons_187 hb ?_
            have h := h _ rfl
            generalize hs_s4 : ups s 131 (w32 ((w32 (v2 + (-2))) - 1)) (s 131 (w32 ((w32 (v2 + (-2))) + 1))) = s4 at h ⊢
            refine r_goto (tgt := 221) dX13_reckons_188 (by decide) ?_
            refine r_iinc (ls2 := [(21, 92), (0, v1), (0, (w32 (v2 + (-2)))), (0, (w32 (v3 + 1))), (0, (s 110 v3))]) dX13_reckons_221 rfl (by decide) rfl ?_
            refine r_goto (tgt := 25) dX13_reckons_224 (by decide) ?_
            exact r_fgt [true, true, true, true, false] rfl h
          · have h := h.2 hc
            refine r_aload_n dX13_reckons_170 rfl rfl ?_
            refine gf_X13_198 rfl dX13_reckons_171 ?_
            refine r_iload_n dX13_reckons_174 rfl ?_
            obtain ⟨hb, h⟩ := h
            refine r_lald (n := 500) rfl (by decide) dX13_reckons_175 hb ?_
            refine r_goto (tgt := 187) dX13_reckons_176 (by decide) ?_
            obtain ⟨hb, h⟩ := h
            refine r_last (n := 500) rfl (by decide) dX13_reckons_187 hb ?_
            have h := h _ rfl
            generalize hs_s5 : ups s 131 (w32 ((w32 (v2 + (-2))) - 1)) (s 131 (w32 (v2 + (-2)))) = s5 at h ⊢
            refine r_goto (tgt := 221) dX13_reckons_188 (by decide) ?_
            refine r_iinc (ls2 := [(21, 92), (0, v1), (0, (w32 (v2 + (-2)))), (0, (w32 (v3 + 1))), (0, (s 110 v3))]) dX13_reckons_221 rfl (by decide) rfl ?_
            refine r_goto (tgt := 25) dX13_reckons_224 (by decide) ?_
            exact r_fgt [true, true, true, true, false] rfl h
      · have h := h.2 hc
        refine r_aload_n dX13_reckons_119 rfl rfl ?_
        refine gf_X13_198 rfl dX13_reckons_120 ?_
        refine r_iload_n dX13_reckons_123 rfl ?_
        refine r_iconst dX13_reckons_124 (by decide) ?_
        refine r_isub dX13_reckons_125 ?_
        refine r_lconst (v := 1) dX13_reckons_126 rfl (by decide) ?_
        refine r_aload_n dX13_reckons_127 rfl rfl ?_
        refine gf_X13_198 rfl dX13_reckons_128 ?_
        refine r_iload_n dX13_reckons_131 rfl ?_
        refine r_iconst dX13_reckons_132 (by decide) ?_
        refine r_isub dX13_reckons_133 ?_
        obtain ⟨hb, h⟩ := h
        refine r_lald (n := 500) rfl (by decide) dX13_reckons_134 hb ?_
        refine r_lsub dX13_reckons_135 ?_
        obtain ⟨hb, h⟩ := h
        refine r_last (n := 500) rfl (by decide) dX13_reckons_136 hb ?_
        have h := h _ rfl
        generalize hs_s6 : ups s 131 (w32 (v2 - 1)) (w64 (1 - (s 131 (w32 (v2 - 1))))) = s6 at h ⊢
        refine r_goto (tgt := 221) dX13_reckons_137 (by decide) ?_
        refine r_iinc (ls2 := [(21, 92), (0, v1), (0, v2), (0, (w32 (v3 + 1))), (0, (s 110 v3))]) dX13_reckons_221 rfl (by decide) rfl ?_
        refine r_goto (tgt := 25) dX13_reckons_224 (by decide) ?_
        exact r_fgt [true, true, true, true, false] rfl h
    · have h := h.2 hc
      refine r_aload_n dX13_reckons_66 rfl rfl ?_
      refine gf_X13_198 rfl dX13_reckons_67 ?_
      refine r_iload_n dX13_reckons_70 rfl ?_
      refine r_iload dX13_reckons_71 rfl ?_
      refine r_if_ne (tgt := 86) dX13_reckons_73 (by decide) (fun hc => ?_) (fun hc => ?_)
      · have h := h.1 hc
        refine r_iload dX13_reckons_86 rfl ?_
        refine r_bipush dX13_reckons_88 (by decide) rfl ?_
        refine r_icmp_ne (tgt := 97) dX13_reckons_90 (by decide) (fun hc => ?_) (fun hc => ?_)
        · have h := h.1 hc
          refine r_aload_n dX13_reckons_97 rfl rfl ?_
          refine gf_X13_201 rfl dX13_reckons_98 ?_
          refine r_iload dX13_reckons_101 rfl ?_
          obtain ⟨hb, h⟩ := h
          refine r_iald (n := 12) rfl (by decide) dX13_reckons_103 hb ?_
          refine r_i2l dX13_reckons_104 ?_
          obtain ⟨hb, h⟩ := h
          refine r_last (n := 500) rfl (by decide) dX13_reckons_105 hb ?_
          have h := h _ rfl
          generalize hs_s7 : ups s 131 v2 (s 132 (s 110 v3)) = s7 at h ⊢
          refine r_iinc (ls2 := [(21, 92), (0, v1), (0, (w32 (v2 + 1))), (0, v3), (0, (s 110 v3))]) dX13_reckons_106 rfl (by decide) rfl ?_
          refine r_goto (tgt := 221) dX13_reckons_109 (by decide) ?_
          refine r_iinc (ls2 := [(21, 92), (0, v1), (0, (w32 (v2 + 1))), (0, (w32 (v3 + 1))), (0, (s 110 v3))]) dX13_reckons_221 rfl (by decide) rfl ?_
          refine r_goto (tgt := 25) dX13_reckons_224 (by decide) ?_
          exact r_fgt [true, true, true, true, false] rfl h
        · have h := h.2 hc
          refine r_lconst (v := 1) dX13_reckons_93 rfl (by decide) ?_
          refine r_goto (tgt := 105) dX13_reckons_94 (by decide) ?_
          obtain ⟨hb, h⟩ := h
          refine r_last (n := 500) rfl (by decide) dX13_reckons_105 hb ?_
          have h := h _ rfl
          generalize hs_s8 : ups s 131 v2 1 = s8 at h ⊢
          refine r_iinc (ls2 := [(21, 92), (0, v1), (0, (w32 (v2 + 1))), (0, v3), (0, (s 110 v3))]) dX13_reckons_106 rfl (by decide) rfl ?_
          refine r_goto (tgt := 221) dX13_reckons_109 (by decide) ?_
          refine r_iinc (ls2 := [(21, 92), (0, v1), (0, (w32 (v2 + 1))), (0, (w32 (v3 + 1))), (0, (s 110 v3))]) dX13_reckons_221 rfl (by decide) rfl ?_
          refine r_goto (tgt := 25) dX13_reckons_224 (by decide) ?_
          exact r_fgt [true, true, true, true, false] rfl h
      · have h := h.2 hc
        refine r_aload_n dX13_reckons_76 rfl rfl ?_
        refine gf_X13_105 rfl dX13_reckons_77 ?_
        refine r_iload_n dX13_reckons_80 rfl ?_
        obtain ⟨hb, h⟩ := h
        refine r_iald (n := 3200) rfl (by decide) dX13_reckons_81 hb ?_
        refine r_i2l dX13_reckons_82 ?_
        refine r_goto (tgt := 105) dX13_reckons_83 (by decide) ?_
        obtain ⟨hb, h⟩ := h
        refine r_last (n := 500) rfl (by decide) dX13_reckons_105 hb ?_
        have h := h _ rfl
        generalize hs_s9 : ups s 131 v2 (s 111 v3) = s9 at h ⊢
        refine r_iinc (ls2 := [(21, 92), (0, v1), (0, (w32 (v2 + 1))), (0, v3), (0, (s 110 v3))]) dX13_reckons_106 rfl (by decide) rfl ?_
        refine r_goto (tgt := 221) dX13_reckons_109 (by decide) ?_
        refine r_iinc (ls2 := [(21, 92), (0, v1), (0, (w32 (v2 + 1))), (0, (w32 (v3 + 1))), (0, (s 110 v3))]) dX13_reckons_221 rfl (by decide) rfl ?_
        refine r_goto (tgt := 25) dX13_reckons_224 (by decide) ?_
        exact r_fgt [true, true, true, true, false] rfl h
set_option maxRecDepth 20000 in
theorem S_X13_reckons {g : GT} {e : Nat} {Q : Int → Sg → Prop} {s : Sg} {v1 : Int} (h : inR v1 → ((0 ≤ (w32 ((w32 (2 * (s 92 13))) + v1)) ∧ (w32 ((w32 (2 * (s 92 13))) + v1)) < 4) ∧ P_X13_reckons_25 g e Q s v1 0 (w32 ((w32 (1600 * (s 92 13))) + (s 108 (w32 ((w32 (2 * (s 92 13))) + v1))))))) : Mw g (e + 1) M_X13_reckons [(21, 92), (0, v1)] s Q := by
  refine Mw.of (ls := [(21, 92), (0, v1), (9, 0), (9, 0), (9, 0)]) pn_X13_reckons (Nat.le_of_ble_eq_true rfl) rfl (fun hv => ?_)
  have h := h (hv _ (List.Mem.tail _ (List.Mem.head _)))
  refine r_iconst dX13_reckons_0 (by decide) ?_
  refine r_istore_n (ls2 := [(21, 92), (0, v1), (0, 0), (9, 0), (9, 0)]) dX13_reckons_1 (by decide) rfl ?_
  refine r_sipush dX13_reckons_2 (by decide) rfl ?_
  refine r_aload_n dX13_reckons_5 rfl rfl ?_
  refine gf_X13_51 rfl dX13_reckons_6 ?_
  refine r_imul dX13_reckons_9 ?_
  refine r_aload_n dX13_reckons_10 rfl rfl ?_
  refine gf_X13_96 rfl dX13_reckons_11 ?_
  refine r_iconst dX13_reckons_14 (by decide) ?_
  refine r_aload_n dX13_reckons_15 rfl rfl ?_
  refine gf_X13_51 rfl dX13_reckons_16 ?_
  refine r_imul dX13_reckons_19 ?_
  refine r_iload_n dX13_reckons_20 rfl ?_
  refine r_iadd dX13_reckons_21 ?_
  obtain ⟨hb, h⟩ := h
  refine r_iald (n := 4) rfl (by decide) dX13_reckons_22 hb ?_
  refine r_iadd dX13_reckons_23 ?_
  refine r_istore_n (ls2 := [(21, 92), (0, v1), (0, 0), (0, (w32 ((w32 (1600 * (s 92 13))) + (s 108 (w32 ((w32 (2 * (s 92 13))) + v1)))))), (9, 0)]) dX13_reckons_24 (by decide) rfl ?_
  exact h
set_option maxRecDepth 20000 in
theorem S_X13_isTold {g : GT} {e : Nat} {Q : Int → Sg → Prop} {s : Sg} {v1 : Int} (h : inR v1 → ((0 ≤ (w32 ((w32 (2 * (s 92 13))) + v1)) ∧ (w32 ((w32 (2 * (s 92 13))) + v1)) < 4) ∧ (((s 108 (w32 ((w32 (2 * (s 92 13))) + v1))) = (-1) → Q 0 s) ∧ (¬ (s 108 (w32 ((w32 (2 * (s 92 13))) + v1))) = (-1) → Q 1 s)))) : Mw g (e + 1) M_X13_isTold [(21, 92), (0, v1)] s Q := by
  refine Mw.of (ls := [(21, 92), (0, v1)]) pn_X13_isTold (Nat.le_of_ble_eq_true rfl) rfl (fun hv => ?_)
  have h := h (hv _ (List.Mem.tail _ (List.Mem.head _)))
  refine r_aload_n dX13_isTold_0 rfl rfl ?_
  refine gf_X13_96 rfl dX13_isTold_1 ?_
  refine r_iconst dX13_isTold_4 (by decide) ?_
  refine r_aload_n dX13_isTold_5 rfl rfl ?_
  refine gf_X13_51 rfl dX13_isTold_6 ?_
  refine r_imul dX13_isTold_9 ?_
  refine r_iload_n dX13_isTold_10 rfl ?_
  refine r_iadd dX13_isTold_11 ?_
  obtain ⟨hb, h⟩ := h
  refine r_iald (n := 4) rfl (by decide) dX13_isTold_12 hb ?_
  refine r_iconst dX13_isTold_13 (by decide) ?_
  refine r_icmp_eq (tgt := 21) dX13_isTold_14 (by decide) (fun hc => ?_) (fun hc => ?_)
  · have h := h.1 hc
    refine r_iconst dX13_isTold_21 (by decide) ?_
    exact r_zret dX13_isTold_22 rfl (by decide) h
  · have h := h.2 hc
    refine r_iconst dX13_isTold_17 (by decide) ?_
    refine r_goto (tgt := 22) dX13_isTold_18 (by decide) ?_
    exact r_zret dX13_isTold_22 rfl (by decide) h
set_option maxRecDepth 20000 in
theorem S_X13_tells {g : GT} {e : Nat} {Q : Int → Sg → Prop} {s : Sg} {v1 : Int} {v2 : Int} {v3 : Int} {v4 : Int} (h : inR v1 → inR v2 → inR v3 → inR v4 → ((0 ≤ (w32 ((w32 (6 * (s 92 13))) + v1)) ∧ (w32 ((w32 (6 * (s 92 13))) + v1)) < 12) ∧ (∀ s1, s1 = ups s 132 1 (s 95 (w32 ((w32 (6 * (s 92 13))) + v1))) → ((0 ≤ (w32 ((w32 (6 * (s1 92 13))) + v1)) ∧ (w32 ((w32 (6 * (s1 92 13))) + v1)) < 12) ∧ (∀ s2, s2 = ups s1 132 2 (s1 96 (w32 ((w32 (6 * (s1 92 13))) + v1))) → (∀ s3, s3 = ups s2 132 3 v2 → (∀ s4, s4 = ups s3 132 4 v3 → (∀ s5, s5 = ups s4 132 5 v4 → Q 0 s5)))))))) : Mw g (e + 1) M_X13_tells [(21, 92), (0, v1), (0, v2), (0, v3), (0, v4)] s Q := by
  refine Mw.of (ls := [(21, 92), (0, v1), (0, v2), (0, v3), (0, v4)]) pn_X13_tells (Nat.le_of_ble_eq_true rfl) rfl (fun hv => ?_)
  have h := h (hv _ (List.Mem.tail _ (List.Mem.head _))) (hv _ (List.Mem.tail _ (List.Mem.tail _ (List.Mem.head _)))) (hv _ (List.Mem.tail _ (List.Mem.tail _ (List.Mem.tail _ (List.Mem.head _))))) (hv _ (List.Mem.tail _ (List.Mem.tail _ (List.Mem.tail _ (List.Mem.tail _ (List.Mem.head _))))))
  refine r_aload_n dX13_tells_0 rfl rfl ?_
  refine gf_X13_201 rfl dX13_tells_1 ?_
  refine r_iconst dX13_tells_4 (by decide) ?_
  refine r_aload_n dX13_tells_5 rfl rfl ?_
  refine gf_X13_57 rfl dX13_tells_6 ?_
  refine r_bipush dX13_tells_9 (by decide) rfl ?_
  refine r_aload_n dX13_tells_11 rfl rfl ?_
  refine gf_X13_51 rfl dX13_tells_12 ?_
  refine r_imul dX13_tells_15 ?_
  refine r_iload_n dX13_tells_16 rfl ?_
  refine r_iadd dX13_tells_17 ?_
  obtain ⟨hb, h⟩ := h
  refine r_iald (n := 12) rfl (by decide) dX13_tells_18 hb ?_
  refine r_iast (n := 12) rfl (by decide) dX13_tells_19 (by decide) ?_
  have h := h _ rfl
  generalize hs_s1 : ups s 132 1 (s 95 (w32 ((w32 (6 * (s 92 13))) + v1))) = s1 at h ⊢
  refine r_aload_n dX13_tells_20 rfl rfl ?_
  refine gf_X13_201 rfl dX13_tells_21 ?_
  refine r_iconst dX13_tells_24 (by decide) ?_
  refine r_aload_n dX13_tells_25 rfl rfl ?_
  refine gf_X13_60 rfl dX13_tells_26 ?_
  refine r_bipush dX13_tells_29 (by decide) rfl ?_
  refine r_aload_n dX13_tells_31 rfl rfl ?_
  refine gf_X13_51 rfl dX13_tells_32 ?_
  refine r_imul dX13_tells_35 ?_
  refine r_iload_n dX13_tells_36 rfl ?_
  refine r_iadd dX13_tells_37 ?_
  obtain ⟨hb, h⟩ := h
  refine r_iald (n := 12) rfl (by decide) dX13_tells_38 hb ?_
  refine r_iast (n := 12) rfl (by decide) dX13_tells_39 (by decide) ?_
  have h := h _ rfl
  generalize hs_s2 : ups s1 132 2 (s1 96 (w32 ((w32 (6 * (s1 92 13))) + v1))) = s2 at h ⊢
  refine r_aload_n dX13_tells_40 rfl rfl ?_
  refine gf_X13_201 rfl dX13_tells_41 ?_
  refine r_iconst dX13_tells_44 (by decide) ?_
  refine r_iload_n dX13_tells_45 rfl ?_
  refine r_iast (n := 12) rfl (by decide) dX13_tells_46 (by decide) ?_
  have h := h _ rfl
  generalize hs_s3 : ups s2 132 3 v2 = s3 at h ⊢
  refine r_aload_n dX13_tells_47 rfl rfl ?_
  refine gf_X13_201 rfl dX13_tells_48 ?_
  refine r_iconst dX13_tells_51 (by decide) ?_
  refine r_iload_n dX13_tells_52 rfl ?_
  refine r_iast (n := 12) rfl (by decide) dX13_tells_53 (by decide) ?_
  have h := h _ rfl
  generalize hs_s4 : ups s3 132 4 v3 = s4 at h ⊢
  refine r_aload_n dX13_tells_54 rfl rfl ?_
  refine gf_X13_201 rfl dX13_tells_55 ?_
  refine r_iconst dX13_tells_58 (by decide) ?_
  refine r_iload dX13_tells_59 rfl ?_
  refine r_iast (n := 12) rfl (by decide) dX13_tells_61 (by decide) ?_
  have h := h _ rfl
  generalize hs_s5 : ups s4 132 5 v4 = s5 at h ⊢
  exact r_ret dX13_tells_62 rfl h
abbrev P_X13_raised_32 (g : GT) (e : Nat) (Q : Int → Sg → Prop) (s : Sg) (v3 : Int) (x0 : Int) : Prop := Wp g (e + 1) M_X13_raised Q 32 [(9, 0), (9, 0), (9, 0), (0, v3), (9, 0), (9, 0), (9, 0)] [(2, x0)] s
abbrev P_X13_raised_62 (g : GT) (e : Nat) (Q : Int → Sg → Prop) (s : Sg) (v3 : Int) (x0 : Int) : Prop := Wp g (e + 1) M_X13_raised Q 62 [(9, 0), (9, 0), (9, 0), (0, v3), (9, 0), (9, 0), (9, 0)] [(2, x0)] s
set_option maxRecDepth 20000 in
theorem S_X13_raised_32 {g : GT} {e : Nat} {Q : Int → Sg → Prop} {s : Sg} {v3 : Int} {x0 : Int} (h : ((0 ≤ (lCmp x0 0) → (((lCmp x0 99) ≤ 0 → P_X13_raised_62 g e Q s v3 x0) ∧ (¬ (lCmp x0 99) ≤ 0 → P_X13_raised_62 g e Q s v3 99))) ∧ (¬ 0 ≤ (lCmp x0 0) → P_X13_raised_62 g e Q s v3 0))) : P_X13_raised_32 g e Q s v3 x0 := by
  refine r_lstore (ls2 := [(9, 0), (9, 0), (9, 0), (0, v3), (9, 0), (2, x0), (9, 0)]) dX13_raised_32 (by decide) rfl ?_
  refine r_lload dX13_raised_34 rfl ?_
  refine r_lconst (v := 0) dX13_raised_36 rfl (by decide) ?_
  refine r_lcmp dX13_raised_37 ?_
  refine r_if_ge (tgt := 45) dX13_raised_38 (by decide) (fun hc => ?_) (fun hc => ?_)
  · have h := h.1 hc
    refine r_lload dX13_raised_45 rfl ?_
    refine r_ldc2 (v := 99) dX13_raised_47 lk_X13_491 (by decide) ?_
    refine r_lcmp dX13_raised_50 ?_
    refine r_if_le (tgt := 60) dX13_raised_51 (by decide) (fun hc => ?_) (fun hc => ?_)
    · have h := h.1 hc
      refine r_lload dX13_raised_60 rfl ?_
      exact r_fgt [false, false, false, true, false, false, false] rfl h
    · have h := h.2 hc
      refine r_ldc2 (v := 99) dX13_raised_54 lk_X13_491 (by decide) ?_
      refine r_goto (tgt := 62) dX13_raised_57 (by decide) ?_
      exact r_fgt [false, false, false, true, false, false, false] rfl h
  · have h := h.2 hc
    refine r_lconst (v := 0) dX13_raised_41 rfl (by decide) ?_
    refine r_goto (tgt := 62) dX13_raised_42 (by decide) ?_
    exact r_fgt [false, false, false, true, false, false, false] rfl h
set_option maxRecDepth 20000 in
theorem S_X13_raised_62 {g : GT} {e : Nat} {Q : Int → Sg → Prop} {s : Sg} {v3 : Int} {x0 : Int} (h : (((lCmp (w64 (v3 + x0)) 999) ≤ 0 → Q (w32 (v3 + (w32 x0))) s) ∧ (¬ (lCmp (w64 (v3 + x0)) 999) ≤ 0 → Q 999 s))) : P_X13_raised_62 g e Q s v3 x0 := by
  refine r_lstore (ls2 := [(9, 0), (9, 0), (9, 0), (0, v3), (9, 0), (2, x0), (9, 0)]) dX13_raised_62 (by decide) rfl ?_
  refine r_iload_n dX13_raised_64 rfl ?_
  refine r_i2l dX13_raised_65 ?_
  refine r_lload dX13_raised_66 rfl ?_
  refine r_ladd dX13_raised_68 ?_
  refine r_ldc2 (v := 999) dX13_raised_69 lk_X13_493 (by decide) ?_
  refine r_lcmp dX13_raised_72 ?_
  refine r_if_le (tgt := 82) dX13_raised_73 (by decide) (fun hc => ?_) (fun hc => ?_)
  · have h := h.1 hc
    refine r_iload_n dX13_raised_82 rfl ?_
    refine r_lload dX13_raised_83 rfl ?_
    refine r_l2i dX13_raised_85 ?_
    refine r_iadd dX13_raised_86 ?_
    exact r_iret dX13_raised_87 rfl h
  · have h := h.2 hc
    refine r_sipush dX13_raised_76 (by decide) rfl ?_
    refine r_goto (tgt := 87) dX13_raised_79 (by decide) ?_
    exact r_iret dX13_raised_87 rfl h
set_option maxRecDepth 20000 in
theorem S_X13_raised {g : GT} {e : Nat} {Q : Int → Sg → Prop} {s : Sg} {v1 : Int} {v2 : Int} {v3 : Int} {v4 : Int} (h : inR v1 → inR v2 → inR v3 → inR v4 → (Mw g e M_X13_tells [(21, 92), (0, v1), (0, v2), (0, v3), (0, v4)] s (fun _ s2 => (Mw g e M_X13_isTold [(21, 92), (0, 0)] s2 (fun r3 s4 => ((r3 = 0 → P_X13_raised_32 g e Q s4 v3 (s4 132 1)) ∧ (¬ r3 = 0 → (Mw g e M_X13_reckons [(21, 92), (0, 0)] s4 (fun r5 s6 => P_X13_raised_32 g e Q s6 v3 r5))))))))) : Mw g (e + 1) M_X13_raised [(21, 92), (0, v1), (0, v2), (0, v3), (0, v4)] s Q := by
  refine Mw.of (ls := [(21, 92), (0, v1), (0, v2), (0, v3), (0, v4), (9, 0), (9, 0)]) pn_X13_raised (Nat.le_of_ble_eq_true rfl) rfl (fun hv => ?_)
  have h := h (hv _ (List.Mem.tail _ (List.Mem.head _))) (hv _ (List.Mem.tail _ (List.Mem.tail _ (List.Mem.head _)))) (hv _ (List.Mem.tail _ (List.Mem.tail _ (List.Mem.tail _ (List.Mem.head _))))) (hv _ (List.Mem.tail _ (List.Mem.tail _ (List.Mem.tail _ (List.Mem.tail _ (List.Mem.head _))))))
  refine r_aload_n dX13_raised_0 rfl rfl ?_
  refine r_iload_n dX13_raised_1 rfl ?_
  refine r_iload_n dX13_raised_2 rfl ?_
  refine r_iload_n dX13_raised_3 rfl ?_
  refine r_iload dX13_raised_4 rfl ?_
  refine r_callV (ci := 11) (As := [(0, v1), (0, v2), (0, v3), (0, v4)]) (st := []) (by decide) ok_X13_480 rfl rfl (Nat.le_of_ble_eq_true rfl) dX13_raised_6 h (fun r1 s2 hv h => ?_)
  refine r_aload_n dX13_raised_9 rfl rfl ?_
  refine r_iconst dX13_raised_10 (by decide) ?_
  refine r_callV (ci := 11) (As := [(0, 0)]) (st := []) (by decide) ok_X13_484 rfl rfl (Nat.le_of_ble_eq_true rfl) dX13_raised_11 h (fun r3 s4 hv h => ?_)
  refine r_if_eq (tgt := 25) dX13_raised_14 (by decide) (fun hc => ?_) (fun hc => ?_)
  · have h := h.1 hc
    refine r_aload_n dX13_raised_25 rfl rfl ?_
    refine gf_X13_201 rfl dX13_raised_26 ?_
    refine r_iconst dX13_raised_29 (by decide) ?_
    refine r_iald (n := 12) rfl (by decide) dX13_raised_30 (by decide) ?_
    refine r_i2l dX13_raised_31 ?_
    exact r_fgt [false, false, false, true, false, false, false] rfl h
  · have h := h.2 hc
    refine r_aload_n dX13_raised_17 rfl rfl ?_
    refine r_iconst dX13_raised_18 (by decide) ?_
    refine r_callV (ci := 11) (As := [(0, 0)]) (st := []) (by decide) ok_X13_487 rfl rfl (Nat.le_of_ble_eq_true rfl) dX13_raised_19 h (fun r5 s6 hv h => ?_)
    refine r_goto (tgt := 32) dX13_raised_22 (by decide) ?_
    exact r_fgt [false, false, false, true, false, false, false] rfl h
set_option maxRecDepth 20000 in
theorem S_X13_born {g : GT} {e : Nat} {Q : Int → Sg → Prop} {s : Sg} {v1 : Int} (h : inR v1 → ((0 ≤ (w32 ((w32 (8 * (s 92 13))) + v1)) ∧ (w32 ((w32 (8 * (s 92 13))) + v1)) < 16) ∧ Q (s 99 (w32 ((w32 (8 * (s 92 13))) + v1))) s)) : Mw g (e + 1) M_X13_born [(21, 92), (0, v1)] s Q := by
  refine Mw.of (ls := [(21, 92), (0, v1)]) pn_X13_born (Nat.le_of_ble_eq_true rfl) rfl (fun hv => ?_)
  have h := h (hv _ (List.Mem.tail _ (List.Mem.head _)))
  refine r_aload_n dX13_born_0 rfl rfl ?_
  refine gf_X13_69 rfl dX13_born_1 ?_
  refine r_bipush dX13_born_4 (by decide) rfl ?_
  refine r_aload_n dX13_born_6 rfl rfl ?_
  refine gf_X13_51 rfl dX13_born_7 ?_
  refine r_imul dX13_born_10 ?_
  refine r_iload_n dX13_born_11 rfl ?_
  refine r_iadd dX13_born_12 ?_
  obtain ⟨hb, h⟩ := h
  refine r_iald (n := 16) rfl (by decide) dX13_born_13 hb ?_
  exact r_iret dX13_born_14 rfl h
set_option maxRecDepth 20000 in
theorem S_X13_twin {g : GT} {e : Nat} {Q : Int → Sg → Prop} {s : Sg} {v1 : Int} (h : inR v1 → ((0 ≤ (w32 ((w32 (8 * (s 92 13))) + v1)) ∧ (w32 ((w32 (8 * (s 92 13))) + v1)) < 16) ∧ Q (s 100 (w32 ((w32 (8 * (s 92 13))) + v1))) s)) : Mw g (e + 1) M_X13_twin [(21, 92), (0, v1)] s Q := by
  refine Mw.of (ls := [(21, 92), (0, v1)]) pn_X13_twin (Nat.le_of_ble_eq_true rfl) rfl (fun hv => ?_)
  have h := h (hv _ (List.Mem.tail _ (List.Mem.head _)))
  refine r_aload_n dX13_twin_0 rfl rfl ?_
  refine gf_X13_72 rfl dX13_twin_1 ?_
  refine r_bipush dX13_twin_4 (by decide) rfl ?_
  refine r_aload_n dX13_twin_6 rfl rfl ?_
  refine gf_X13_51 rfl dX13_twin_7 ?_
  refine r_imul dX13_twin_10 ?_
  refine r_iload_n dX13_twin_11 rfl ?_
  refine r_iadd dX13_twin_12 ?_
  obtain ⟨hb, h⟩ := h
  refine r_iald (n := 16) rfl (by decide) dX13_twin_13 hb ?_
  exact r_iret dX13_twin_14 rfl h
set_option maxRecDepth 20000 in
theorem S_X13_age {g : GT} {e : Nat} {Q : Int → Sg → Prop} {s : Sg} {v1 : Int} {v2 : Int} (h : inR v1 → inR v2 → ((0 ≤ v1 ∧ v1 < 23) ∧ (Mw g e M_X13_born [(21, 92), (0, v2)] s (fun r1 s2 => Q (w32 ((s 122 v1) - r1)) s2)))) : Mw g (e + 1) M_X13_age [(21, 92), (0, v1), (0, v2)] s Q := by
  refine Mw.of (ls := [(21, 92), (0, v1), (0, v2)]) pn_X13_age (Nat.le_of_ble_eq_true rfl) rfl (fun hv => ?_)
  have h := h (hv _ (List.Mem.tail _ (List.Mem.head _))) (hv _ (List.Mem.tail _ (List.Mem.tail _ (List.Mem.head _))))
  refine r_aload_n dX13_age_0 rfl rfl ?_
  refine gf_X13_162 rfl dX13_age_1 ?_
  refine r_iload_n dX13_age_4 rfl ?_
  obtain ⟨hb, h⟩ := h
  refine r_iald (n := 23) rfl (by decide) dX13_age_5 hb ?_
  refine r_aload_n dX13_age_6 rfl rfl ?_
  refine r_iload_n dX13_age_7 rfl ?_
  refine r_callV (ci := 11) (As := [(0, v2)]) (st := [(0, (s 122 v1))]) (by decide) ok_X13_495 rfl rfl (Nat.le_of_ble_eq_true rfl) dX13_age_8 h (fun r1 s2 hv h => ?_)
  refine r_isub dX13_age_11 ?_
  exact r_iret dX13_age_12 rfl h
set_option maxRecDepth 20000 in
theorem S_X13_isRaised {g : GT} {e : Nat} {Q : Int → Sg → Prop} {s : Sg} {v1 : Int} {v2 : Int} (h : inR v1 → inR v2 → (Mw g e M_X13_age [(21, 92), (0, v1), (0, v2)] s (fun r1 s2 => (Mw g e M_X13_toldOf [(21, 92), (0, 0)] s2 (fun r3 s4 => (Mw g e M_X13_toldOf [(21, 92), (0, 1)] s4 (fun r5 s6 => (Mw g e M_X13_is [(0, r1), (0, r3), (0, (w32 (r5 - 1)))] s6 (fun r7 s8 => ((r7 = 0 ∨ r7 = 1) ∧ Q r7 s8)))))))))) : Mw g (e + 1) M_X13_isRaised [(21, 92), (0, v1), (0, v2)] s Q := by
  refine Mw.of (ls := [(21, 92), (0, v1), (0, v2)]) pn_X13_isRaised (Nat.le_of_ble_eq_true rfl) rfl (fun hv => ?_)
  have h := h (hv _ (List.Mem.tail _ (List.Mem.head _))) (hv _ (List.Mem.tail _ (List.Mem.tail _ (List.Mem.head _))))
  refine r_aload_n dX13_isRaised_0 rfl rfl ?_
  refine r_iload_n dX13_isRaised_1 rfl ?_
  refine r_iload_n dX13_isRaised_2 rfl ?_
  refine r_callV (ci := 11) (As := [(0, v1), (0, v2)]) (st := []) (by decide) ok_X13_498 rfl rfl (Nat.le_of_ble_eq_true rfl) dX13_isRaised_3 h (fun r1 s2 hv h => ?_)
  refine r_aload_n dX13_isRaised_6 rfl rfl ?_
  refine r_iconst dX13_isRaised_7 (by decide) ?_
  refine r_callV (ci := 11) (As := [(0, 0)]) (st := [(0, r1)]) (by decide) ok_X13_501 rfl rfl (Nat.le_of_ble_eq_true rfl) dX13_isRaised_8 h (fun r3 s4 hv h => ?_)
  refine r_aload_n dX13_isRaised_11 rfl rfl ?_
  refine r_iconst dX13_isRaised_12 (by decide) ?_
  refine r_callV (ci := 11) (As := [(0, 1)]) (st := [(0, r3), (0, r1)]) (by decide) ok_X13_501 rfl rfl (Nat.le_of_ble_eq_true rfl) dX13_isRaised_13 h (fun r5 s6 hv h => ?_)
  refine r_iconst dX13_isRaised_16 (by decide) ?_
  refine r_isub dX13_isRaised_17 ?_
  refine r_callS (As := [(0, r1), (0, r3), (0, (w32 (r5 - 1)))]) (st := []) ok_X13_347 rfl rfl (Nat.le_of_ble_eq_true rfl) dX13_isRaised_18 h (fun r7 s8 hv h => ?_)
  exact r_zret dX13_isRaised_21 rfl h.1 h.2
set_option maxRecDepth 20000 in
theorem S_X13_isDone {g : GT} {e : Nat} {Q : Int → Sg → Prop} {s : Sg} {v1 : Int} {v2 : Int} (h : inR v1 → inR v2 → (Mw g e M_X13_age [(21, 92), (0, v1), (0, v2)] s (fun r1 s2 => (Mw g e M_X13_toldOf [(21, 92), (0, 1)] s2 (fun r3 s4 => ((r1 < r3 → Q 0 s4) ∧ (¬ r1 < r3 → Q 1 s4))))))) : Mw g (e + 1) M_X13_isDone [(21, 92), (0, v1), (0, v2)] s Q := by
  refine Mw.of (ls := [(21, 92), (0, v1), (0, v2)]) pn_X13_isDone (Nat.le_of_ble_eq_true rfl) rfl (fun hv => ?_)
  have h := h (hv _ (List.Mem.tail _ (List.Mem.head _))) (hv _ (List.Mem.tail _ (List.Mem.tail _ (List.Mem.head _))))
  refine r_aload_n dX13_isDone_0 rfl rfl ?_
  refine r_iload_n dX13_isDone_1 rfl ?_
  refine r_iload_n dX13_isDone_2 rfl ?_
  refine r_callV (ci := 11) (As := [(0, v1), (0, v2)]) (st := []) (by decide) ok_X13_498 rfl rfl (Nat.le_of_ble_eq_true rfl) dX13_isDone_3 h (fun r1 s2 hv h => ?_)
  refine r_aload_n dX13_isDone_6 rfl rfl ?_
  refine r_iconst dX13_isDone_7 (by decide) ?_
  refine r_callV (ci := 11) (As := [(0, 1)]) (st := [(0, r1)]) (by decide) ok_X13_501 rfl rfl (Nat.le_of_ble_eq_true rfl) dX13_isDone_8 h (fun r3 s4 hv h => ?_)
  refine r_icmp_lt (tgt := 18) dX13_isDone_11 (by decide) (fun hc => ?_) (fun hc => ?_)
  · have h := h.1 hc
    refine r_iconst dX13_isDone_18 (by decide) ?_
    exact r_zret dX13_isDone_19 rfl (by decide) h
  · have h := h.2 hc
    refine r_iconst dX13_isDone_14 (by decide) ?_
    refine r_goto (tgt := 19) dX13_isDone_15 (by decide) ?_
    exact r_zret dX13_isDone_19 rfl (by decide) h
set_option maxRecDepth 20000 in
theorem S_X13_inWall {g : GT} {e : Nat} {Q : Int → Sg → Prop} {s : Sg} {v1 : Int} {v2 : Int} (h : inR v1 → inR v2 → ((0 ≤ (w32 ((w32 (8 * v1)) + v2)) ∧ (w32 ((w32 (8 * v1)) + v2)) < 184) ∧ Q (s 126 (w32 ((w32 (8 * v1)) + v2))) s)) : Mw g (e + 1) M_X13_inWall [(21, 92), (0, v1), (0, v2)] s Q := by
  refine Mw.of (ls := [(21, 92), (0, v1), (0, v2)]) pn_X13_inWall (Nat.le_of_ble_eq_true rfl) rfl (fun hv => ?_)
  have h := h (hv _ (List.Mem.tail _ (List.Mem.head _))) (hv _ (List.Mem.tail _ (List.Mem.tail _ (List.Mem.head _))))
  refine r_aload_n dX13_inWall_0 rfl rfl ?_
  refine gf_X13_174 rfl dX13_inWall_1 ?_
  refine r_bipush dX13_inWall_4 (by decide) rfl ?_
  refine r_iload_n dX13_inWall_6 rfl ?_
  refine r_imul dX13_inWall_7 ?_
  refine r_iload_n dX13_inWall_8 rfl ?_
  refine r_iadd dX13_inWall_9 ?_
  obtain ⟨hb, h⟩ := h
  refine r_iald (n := 184) rfl (by decide) dX13_inWall_10 hb ?_
  exact r_iret dX13_inWall_11 rfl h
set_option maxRecDepth 20000 in
theorem S_X13_column {g : GT} {e : Nat} {Q : Int → Sg → Prop} {s : Sg} {v1 : Int} {v2 : Int} (h : inR v1 → inR v2 → ((0 ≤ (w32 ((w32 (8 * v1)) + v2)) ∧ (w32 ((w32 (8 * v1)) + v2)) < 184) ∧ Q (s 127 (w32 ((w32 (8 * v1)) + v2))) s)) : Mw g (e + 1) M_X13_column [(21, 92), (0, v1), (0, v2)] s Q := by
  refine Mw.of (ls := [(21, 92), (0, v1), (0, v2)]) pn_X13_column (Nat.le_of_ble_eq_true rfl) rfl (fun hv => ?_)
  have h := h (hv _ (List.Mem.tail _ (List.Mem.head _))) (hv _ (List.Mem.tail _ (List.Mem.tail _ (List.Mem.head _))))
  refine r_aload_n dX13_column_0 rfl rfl ?_
  refine gf_X13_177 rfl dX13_column_1 ?_
  refine r_bipush dX13_column_4 (by decide) rfl ?_
  refine r_iload_n dX13_column_6 rfl ?_
  refine r_imul dX13_column_7 ?_
  refine r_iload_n dX13_column_8 rfl ?_
  refine r_iadd dX13_column_9 ?_
  obtain ⟨hb, h⟩ := h
  refine r_iald (n := 184) rfl (by decide) dX13_column_10 hb ?_
  exact r_iret dX13_column_11 rfl h
set_option maxRecDepth 20000 in
theorem S_X13_course {g : GT} {e : Nat} {Q : Int → Sg → Prop} {s : Sg} {v1 : Int} {v2 : Int} (h : inR v1 → inR v2 → ((0 ≤ (w32 ((w32 (8 * v1)) + v2)) ∧ (w32 ((w32 (8 * v1)) + v2)) < 184) ∧ Q (s 128 (w32 ((w32 (8 * v1)) + v2))) s)) : Mw g (e + 1) M_X13_course [(21, 92), (0, v1), (0, v2)] s Q := by
  refine Mw.of (ls := [(21, 92), (0, v1), (0, v2)]) pn_X13_course (Nat.le_of_ble_eq_true rfl) rfl (fun hv => ?_)
  have h := h (hv _ (List.Mem.tail _ (List.Mem.head _))) (hv _ (List.Mem.tail _ (List.Mem.tail _ (List.Mem.head _))))
  refine r_aload_n dX13_course_0 rfl rfl ?_
  refine gf_X13_180 rfl dX13_course_1 ?_
  refine r_bipush dX13_course_4 (by decide) rfl ?_
  refine r_iload_n dX13_course_6 rfl ?_
  refine r_imul dX13_course_7 ?_
  refine r_iload_n dX13_course_8 rfl ?_
  refine r_iadd dX13_course_9 ?_
  obtain ⟨hb, h⟩ := h
  refine r_iald (n := 184) rfl (by decide) dX13_course_10 hb ?_
  exact r_iret dX13_course_11 rfl h
set_option maxRecDepth 20000 in
theorem S_X13_strong {g : GT} {e : Nat} {Q : Int → Sg → Prop} {s : Sg} {v1 : Int} {v2 : Int} (h : inR v1 → inR v2 → ((0 ≤ (w32 ((w32 (8 * v1)) + v2)) ∧ (w32 ((w32 (8 * v1)) + v2)) < 184) ∧ Q (s 125 (w32 ((w32 (8 * v1)) + v2))) s)) : Mw g (e + 1) M_X13_strong [(21, 92), (0, v1), (0, v2)] s Q := by
  refine Mw.of (ls := [(21, 92), (0, v1), (0, v2)]) pn_X13_strong (Nat.le_of_ble_eq_true rfl) rfl (fun hv => ?_)
  have h := h (hv _ (List.Mem.tail _ (List.Mem.head _))) (hv _ (List.Mem.tail _ (List.Mem.tail _ (List.Mem.head _))))
  refine r_aload_n dX13_strong_0 rfl rfl ?_
  refine gf_X13_171 rfl dX13_strong_1 ?_
  refine r_bipush dX13_strong_4 (by decide) rfl ?_
  refine r_iload_n dX13_strong_6 rfl ?_
  refine r_imul dX13_strong_7 ?_
  refine r_iload_n dX13_strong_8 rfl ?_
  refine r_iadd dX13_strong_9 ?_
  obtain ⟨hb, h⟩ := h
  refine r_iald (n := 184) rfl (by decide) dX13_strong_10 hb ?_
  exact r_iret dX13_strong_11 rfl h
set_option maxRecDepth 20000 in
theorem S_X13_isOnShelf {g : GT} {e : Nat} {Q : Int → Sg → Prop} {s : Sg} {v1 : Int} {v2 : Int} (h : inR v1 → inR v2 → (Mw g e M_X13_isDone [(21, 92), (0, v1), (0, v2)] s (fun r1 s2 => ((r1 = 0 → Q 0 s2) ∧ (¬ r1 = 0 → (Mw g e M_X13_inWall [(21, 92), (0, v1), (0, v2)] s2 (fun r3 s4 => ((¬ r3 = (-1) → Q 0 s4) ∧ (r3 = (-1) → Q 1 s4))))))))) : Mw g (e + 1) M_X13_isOnShelf [(21, 92), (0, v1), (0, v2)] s Q := by
  refine Mw.of (ls := [(21, 92), (0, v1), (0, v2)]) pn_X13_isOnShelf (Nat.le_of_ble_eq_true rfl) rfl (fun hv => ?_)
  have h := h (hv _ (List.Mem.tail _ (List.Mem.head _))) (hv _ (List.Mem.tail _ (List.Mem.tail _ (List.Mem.head _))))
  refine r_aload_n dX13_isOnShelf_0 rfl rfl ?_
  refine r_iload_n dX13_isOnShelf_1 rfl ?_
  refine r_iload_n dX13_isOnShelf_2 rfl ?_
  refine r_callV (ci := 11) (As := [(0, v1), (0, v2)]) (st := []) (by decide) ok_X13_504 rfl rfl (Nat.le_of_ble_eq_true rfl) dX13_isOnShelf_3 h (fun r1 s2 hv h => ?_)
  refine r_if_eq (tgt := 23) dX13_isOnShelf_6 (by decide) (fun hc => ?_) (fun hc => ?_)
  · have h := h.1 hc
    refine r_iconst dX13_isOnShelf_23 (by decide) ?_
    exact r_zret dX13_isOnShelf_24 rfl (by decide) h
  · have h := h.2 hc
    refine r_aload_n dX13_isOnShelf_9 rfl rfl ?_
    refine r_iload_n dX13_isOnShelf_10 rfl ?_
    refine r_iload_n dX13_isOnShelf_11 rfl ?_
    refine r_callV (ci := 11) (As := [(0, v1), (0, v2)]) (st := []) (by decide) ok_X13_507 rfl rfl (Nat.le_of_ble_eq_true rfl) dX13_isOnShelf_12 h (fun r3 s4 hv h => ?_)
    refine r_iconst dX13_isOnShelf_15 (by decide) ?_
    refine r_icmp_ne (tgt := 23) dX13_isOnShelf_16 (by decide) (fun hc => ?_) (fun hc => ?_)
    · have h := h.1 hc
      refine r_iconst dX13_isOnShelf_23 (by decide) ?_
      exact r_zret dX13_isOnShelf_24 rfl (by decide) h
    · have h := h.2 hc
      refine r_iconst dX13_isOnShelf_19 (by decide) ?_
      refine r_goto (tgt := 24) dX13_isOnShelf_20 (by decide) ?_
      exact r_zret dX13_isOnShelf_24 rfl (by decide) h
abbrev P_X13_lies_3 (g : GT) (e : Nat) (Q : Int → Sg → Prop) (s : Sg) (v1 : Int) (v2 : Int) (v3 : Int) (v4 : Int) (v5 : Int) : Prop := Wp g (e + 1) M_X13_lies Q 3 [(21, 92), (0, v1), (0, v2), (0, v3), (0, v4), (0, v5)] [] s
set_option maxRecDepth 20000 in
theorem S_X13_lies_3 {g : GT} {e : Nat} {Q : Int → Sg → Prop} {s : Sg} {v1 : Int} {v2 : Int} {v3 : Int} {v4 : Int} {v5 : Int} (h : ((0 ≤ (s 92 13) ∧ (s 92 13) < 2) ∧ (((s 97 (s 92 13)) ≤ v5 → Q (-1) s) ∧ (¬ (s 97 (s 92 13)) ≤ v5 → (Mw g e M_X13_inWall [(21, 92), (0, v1), (0, v5)] s (fun r1 s2 => ((¬ r1 = v2 → P_X13_lies_3 g e Q s2 v1 v2 v3 v4 (w32 (v5 + 1))) ∧ (r1 = v2 → (Mw g e M_X13_column [(21, 92), (0, v1), (0, v5)] s2 (fun r3 s4 => ((¬ r3 = v3 → P_X13_lies_3 g e Q s4 v1 v2 v3 v4 (w32 (v5 + 1))) ∧ (r3 = v3 → (Mw g e M_X13_course [(21, 92), (0, v1), (0, v5)] s4 (fun r5 s6 => ((¬ r5 = v4 → P_X13_lies_3 g e Q s6 v1 v2 v3 v4 (w32 (v5 + 1))) ∧ (r5 = v4 → Q v5 s6)))))))))))))))) : P_X13_lies_3 g e Q s v1 v2 v3 v4 v5 := by
  refine r_iload dX13_lies_3 rfl ?_
  refine r_aload_n dX13_lies_5 rfl rfl ?_
  refine gf_X13_63 rfl dX13_lies_6 ?_
  refine r_aload_n dX13_lies_9 rfl rfl ?_
  refine gf_X13_51 rfl dX13_lies_10 ?_
  obtain ⟨hb, h⟩ := h
  refine r_iald (n := 2) rfl (by decide) dX13_lies_13 hb ?_
  refine r_icmp_ge (tgt := 60) dX13_lies_14 (by decide) (fun hc => ?_) (fun hc => ?_)
  · have h := h.1 hc
    refine r_iconst dX13_lies_60 (by decide) ?_
    exact r_iret dX13_lies_61 rfl h
  · have h := h.2 hc
    refine r_aload_n dX13_lies_17 rfl rfl ?_
    refine r_iload_n dX13_lies_18 rfl ?_
    refine r_iload dX13_lies_19 rfl ?_
    refine r_callV (ci := 11) (As := [(0, v1), (0, v5)]) (st := []) (by decide) ok_X13_507 rfl rfl (Nat.le_of_ble_eq_true rfl) dX13_lies_21 h (fun r1 s2 hv h => ?_)
    refine r_iload_n dX13_lies_24 rfl ?_
    refine r_icmp_ne (tgt := 54) dX13_lies_25 (by decide) (fun hc => ?_) (fun hc => ?_)
    · have h := h.1 hc
      refine r_iinc (ls2 := [(21, 92), (0, v1), (0, v2), (0, v3), (0, v4), (0, (w32 (v5 + 1)))]) dX13_lies_54 rfl (by decide) rfl ?_
      refine r_goto (tgt := 3) dX13_lies_57 (by decide) ?_
      exact h
    · have h := h.2 hc
      refine r_aload_n dX13_lies_28 rfl rfl ?_
      refine r_iload_n dX13_lies_29 rfl ?_
      refine r_iload dX13_lies_30 rfl ?_
      refine r_callV (ci := 11) (As := [(0, v1), (0, v5)]) (st := []) (by decide) ok_X13_510 rfl rfl (Nat.le_of_ble_eq_true rfl) dX13_lies_32 h (fun r3 s4 hv h => ?_)
      refine r_iload_n dX13_lies_35 rfl ?_
      refine r_icmp_ne (tgt := 54) dX13_lies_36 (by decide) (fun hc => ?_) (fun hc => ?_)
      · have h := h.1 hc
        refine r_iinc (ls2 := [(21, 92), (0, v1), (0, v2), (0, v3), (0, v4), (0, (w32 (v5 + 1)))]) dX13_lies_54 rfl (by decide) rfl ?_
        refine r_goto (tgt := 3) dX13_lies_57 (by decide) ?_
        exact h
      · have h := h.2 hc
        refine r_aload_n dX13_lies_39 rfl rfl ?_
        refine r_iload_n dX13_lies_40 rfl ?_
        refine r_iload dX13_lies_41 rfl ?_
        refine r_callV (ci := 11) (As := [(0, v1), (0, v5)]) (st := []) (by decide) ok_X13_513 rfl rfl (Nat.le_of_ble_eq_true rfl) dX13_lies_43 h (fun r5 s6 hv h => ?_)
        refine r_iload dX13_lies_46 rfl ?_
        refine r_icmp_ne (tgt := 54) dX13_lies_48 (by decide) (fun hc => ?_) (fun hc => ?_)
        · have h := h.1 hc
          refine r_iinc (ls2 := [(21, 92), (0, v1), (0, v2), (0, v3), (0, v4), (0, (w32 (v5 + 1)))]) dX13_lies_54 rfl (by decide) rfl ?_
          refine r_goto (tgt := 3) dX13_lies_57 (by decide) ?_
          exact h
        · have h := h.2 hc
          refine r_iload dX13_lies_51 rfl ?_
          exact r_iret dX13_lies_53 rfl h
set_option maxRecDepth 20000 in
theorem S_X13_lies {g : GT} {e : Nat} {Q : Int → Sg → Prop} {s : Sg} {v1 : Int} {v2 : Int} {v3 : Int} {v4 : Int} (h : inR v1 → inR v2 → inR v3 → inR v4 → P_X13_lies_3 g e Q s v1 v2 v3 v4 0) : Mw g (e + 1) M_X13_lies [(21, 92), (0, v1), (0, v2), (0, v3), (0, v4)] s Q := by
  refine Mw.of (ls := [(21, 92), (0, v1), (0, v2), (0, v3), (0, v4), (9, 0)]) pn_X13_lies (Nat.le_of_ble_eq_true rfl) rfl (fun hv => ?_)
  have h := h (hv _ (List.Mem.tail _ (List.Mem.head _))) (hv _ (List.Mem.tail _ (List.Mem.tail _ (List.Mem.head _)))) (hv _ (List.Mem.tail _ (List.Mem.tail _ (List.Mem.tail _ (List.Mem.head _))))) (hv _ (List.Mem.tail _ (List.Mem.tail _ (List.Mem.tail _ (List.Mem.tail _ (List.Mem.head _))))))
  refine r_iconst dX13_lies_0 (by decide) ?_
  refine r_istore (ls2 := [(21, 92), (0, v1), (0, v2), (0, v3), (0, v4), (0, 0)]) dX13_lies_1 (by decide) rfl ?_
  exact h
abbrev P_X13_tall_6 (g : GT) (e : Nat) (Q : Int → Sg → Prop) (s : Sg) (v1 : Int) (v2 : Int) (v3 : Int) (v4 : Int) (v5 : Int) : Prop := Wp g (e + 1) M_X13_tall Q 6 [(21, 92), (0, v1), (0, v2), (0, v3), (0, v4), (0, v5)] [] s
set_option maxRecDepth 20000 in
theorem S_X13_tall_6 {g : GT} {e : Nat} {Q : Int → Sg → Prop} {s : Sg} {v1 : Int} {v2 : Int} {v3 : Int} {v4 : Int} {v5 : Int} (h : ((0 ≤ (s 92 13) ∧ (s 92 13) < 2) ∧ (((s 97 (s 92 13)) ≤ v5 → Q v4 s) ∧ (¬ (s 97 (s 92 13)) ≤ v5 → (Mw g e M_X13_inWall [(21, 92), (0, v1), (0, v5)] s (fun r1 s2 => ((¬ r1 = v2 → P_X13_tall_6 g e Q s2 v1 v2 v3 (w32 (v4 + 0)) (w32 (v5 + 1))) ∧ (r1 = v2 → (Mw g e M_X13_column [(21, 92), (0, v1), (0, v5)] s2 (fun r3 s4 => ((¬ r3 = v3 → P_X13_tall_6 g e Q s4 v1 v2 v3 (w32 (v4 + 0)) (w32 (v5 + 1))) ∧ (r3 = v3 → P_X13_tall_6 g e Q s4 v1 v2 v3 (w32 (v4 + 1)) (w32 (v5 + 1)))))))))))))) : P_X13_tall_6 g e Q s v1 v2 v3 v4 v5 := by
  refine r_iload dX13_tall_6 rfl ?_
  refine r_aload_n dX13_tall_8 rfl rfl ?_
  refine gf_X13_63 rfl dX13_tall_9 ?_
  refine r_aload_n dX13_tall_12 rfl rfl ?_
  refine gf_X13_51 rfl dX13_tall_13 ?_
  obtain ⟨hb, h⟩ := h
  refine r_iald (n := 2) rfl (by decide) dX13_tall_16 hb ?_
  refine r_icmp_ge (tgt := 58) dX13_tall_17 (by decide) (fun hc => ?_) (fun hc => ?_)
  · have h := h.1 hc
    refine r_iload dX13_tall_58 rfl ?_
    exact r_iret dX13_tall_60 rfl h
  · have h := h.2 hc
    refine r_iload dX13_tall_20 rfl ?_
    refine r_aload_n dX13_tall_22 rfl rfl ?_
    refine r_iload_n dX13_tall_23 rfl ?_
    refine r_iload dX13_tall_24 rfl ?_
    refine r_callV (ci := 11) (As := [(0, v1), (0, v5)]) (st := [(0, v4)]) (by decide) ok_X13_507 rfl rfl (Nat.le_of_ble_eq_true rfl) dX13_tall_26 h (fun r1 s2 hv h => ?_)
    refine r_iload_n dX13_tall_29 rfl ?_
    refine r_icmp_ne (tgt := 48) dX13_tall_30 (by decide) (fun hc => ?_) (fun hc => ?_)
    · have h := h.1 hc
      refine r_iconst dX13_tall_48 (by decide) ?_
      refine r_iadd dX13_tall_49 ?_
      refine r_istore (ls2 := [(21, 92), (0, v1), (0, v2), (0, v3), (0, (w32 (v4 + 0))), (0, v5)]) dX13_tall_50 (by decide) rfl ?_
      refine r_iinc (ls2 := [(21, 92), (0, v1), (0, v2), (0, v3), (0, (w32 (v4 + 0))), (0, (w32 (v5 + 1)))]) dX13_tall_52 rfl (by decide) rfl ?_
      refine r_goto (tgt := 6) dX13_tall_55 (by decide) ?_
      exact h
    · have h := h.2 hc
      refine r_aload_n dX13_tall_33 rfl rfl ?_
      refine r_iload_n dX13_tall_34 rfl ?_
      refine r_iload dX13_tall_35 rfl ?_
      refine r_callV (ci := 11) (As := [(0, v1), (0, v5)]) (st := [(0, v4)]) (by decide) ok_X13_510 rfl rfl (Nat.le_of_ble_eq_true rfl) dX13_tall_37 h (fun r3 s4 hv h => ?_)
      refine r_iload_n dX13_tall_40 rfl ?_
      refine r_icmp_ne (tgt := 48) dX13_tall_41 (by decide) (fun hc => ?_) (fun hc => ?_)
      · have h := h.1 hc
        refine r_iconst dX13_tall_48 (by decide) ?_
        refine r_iadd dX13_tall_49 ?_
        refine r_istore (ls2 := [(21, 92), (0, v1), (0, v2), (0, v3), (0, (w32 (v4 + 0))), (0, v5)]) dX13_tall_50 (by decide) rfl ?_
        refine r_iinc (ls2 := [(21, 92), (0, v1), (0, v2), (0, v3), (0, (w32 (v4 + 0))), (0, (w32 (v5 + 1)))]) dX13_tall_52 rfl (by decide) rfl ?_
        refine r_goto (tgt := 6) dX13_tall_55 (by decide) ?_
        exact h
      · have h := h.2 hc
        refine r_iconst dX13_tall_44 (by decide) ?_
        refine r_goto (tgt := 49) dX13_tall_45 (by decide) ?_
        refine r_iadd dX13_tall_49 ?_
        refine r_istore (ls2 := [(21, 92), (0, v1), (0, v2), (0, v3), (0, (w32 (v4 + 1))), (0, v5)]) dX13_tall_50 (by decide) rfl ?_
        refine r_iinc (ls2 := [(21, 92), (0, v1), (0, v2), (0, v3), (0, (w32 (v4 + 1))), (0, (w32 (v5 + 1)))]) dX13_tall_52 rfl (by decide) rfl ?_
        refine r_goto (tgt := 6) dX13_tall_55 (by decide) ?_
        exact h
set_option maxRecDepth 20000 in
theorem S_X13_tall {g : GT} {e : Nat} {Q : Int → Sg → Prop} {s : Sg} {v1 : Int} {v2 : Int} {v3 : Int} (h : inR v1 → inR v2 → inR v3 → P_X13_tall_6 g e Q s v1 v2 v3 0 0) : Mw g (e + 1) M_X13_tall [(21, 92), (0, v1), (0, v2), (0, v3)] s Q := by
  refine Mw.of (ls := [(21, 92), (0, v1), (0, v2), (0, v3), (9, 0), (9, 0)]) pn_X13_tall (Nat.le_of_ble_eq_true rfl) rfl (fun hv => ?_)
  have h := h (hv _ (List.Mem.tail _ (List.Mem.head _))) (hv _ (List.Mem.tail _ (List.Mem.tail _ (List.Mem.head _)))) (hv _ (List.Mem.tail _ (List.Mem.tail _ (List.Mem.tail _ (List.Mem.head _)))))
  refine r_iconst dX13_tall_0 (by decide) ?_
  refine r_istore (ls2 := [(21, 92), (0, v1), (0, v2), (0, v3), (0, 0), (9, 0)]) dX13_tall_1 (by decide) rfl ?_
  refine r_iconst dX13_tall_3 (by decide) ?_
  refine r_istore (ls2 := [(21, 92), (0, v1), (0, v2), (0, v3), (0, 0), (0, 0)]) dX13_tall_4 (by decide) rfl ?_
  exact h
set_option maxRecDepth 20000 in
theorem S_X13_load {g : GT} {e : Nat} {Q : Int → Sg → Prop} {s : Sg} {v1 : Int} {v2 : Int} (h : inR v1 → inR v2 → (Mw g e M_X13_inWall [(21, 92), (0, v1), (0, v2)] s (fun r1 s2 => (Mw g e M_X13_column [(21, 92), (0, v1), (0, v2)] s2 (fun r3 s4 => (Mw g e M_X13_tall [(21, 92), (0, v1), (0, r1), (0, r3)] s4 (fun r5 s6 => (Mw g e M_X13_course [(21, 92), (0, v1), (0, v2)] s6 (fun r7 s8 => (Mw g e M_X13_toldOf [(21, 92), (0, 2)] s8 (fun r9 s10 => Q (w32 ((w32 ((w32 (r5 - 1)) - r7)) * r9)) s10))))))))))) : Mw g (e + 1) M_X13_load [(21, 92), (0, v1), (0, v2)] s Q := by
  refine Mw.of (ls := [(21, 92), (0, v1), (0, v2)]) pn_X13_load (Nat.le_of_ble_eq_true rfl) rfl (fun hv => ?_)
  have h := h (hv _ (List.Mem.tail _ (List.Mem.head _))) (hv _ (List.Mem.tail _ (List.Mem.tail _ (List.Mem.head _))))
  refine r_aload_n dX13_load_0 rfl rfl ?_
  refine r_iload_n dX13_load_1 rfl ?_
  refine r_aload_n dX13_load_2 rfl rfl ?_
  refine r_iload_n dX13_load_3 rfl ?_
  refine r_iload_n dX13_load_4 rfl ?_
  refine r_callV (ci := 11) (As := [(0, v1), (0, v2)]) (st := [(0, v1), (21, 92)]) (by decide) ok_X13_507 rfl rfl (Nat.le_of_ble_eq_true rfl) dX13_load_5 h (fun r1 s2 hv h => ?_)
  refine r_aload_n dX13_load_8 rfl rfl ?_
  refine r_iload_n dX13_load_9 rfl ?_
  refine r_iload_n dX13_load_10 rfl ?_
  refine r_callV (ci := 11) (As := [(0, v1), (0, v2)]) (st := [(0, r1), (0, v1), (21, 92)]) (by decide) ok_X13_510 rfl rfl (Nat.le_of_ble_eq_true rfl) dX13_load_11 h (fun r3 s4 hv h => ?_)
  refine r_callV (ci := 11) (As := [(0, v1), (0, r1), (0, r3)]) (st := []) (by decide) ok_X13_516 rfl rfl (Nat.le_of_ble_eq_true rfl) dX13_load_14 h (fun r5 s6 hv h => ?_)
  refine r_iconst dX13_load_17 (by decide) ?_
  refine r_isub dX13_load_18 ?_
  refine r_aload_n dX13_load_19 rfl rfl ?_
  refine r_iload_n dX13_load_20 rfl ?_
  refine r_iload_n dX13_load_21 rfl ?_
  refine r_callV (ci := 11) (As := [(0, v1), (0, v2)]) (st := [(0, (w32 (r5 - 1)))]) (by decide) ok_X13_513 rfl rfl (Nat.le_of_ble_eq_true rfl) dX13_load_22 h (fun r7 s8 hv h => ?_)
  refine r_isub dX13_load_25 ?_
  refine r_aload_n dX13_load_26 rfl rfl ?_
  refine r_iconst dX13_load_27 (by decide) ?_
  refine r_callV (ci := 11) (As := [(0, 2)]) (st := [(0, (w32 ((w32 (r5 - 1)) - r7)))]) (by decide) ok_X13_501 rfl rfl (Nat.le_of_ble_eq_true rfl) dX13_load_28 h (fun r9 s10 hv h => ?_)
  refine r_imul dX13_load_31 ?_
  exact r_iret dX13_load_32 rfl h
abbrev P_X13_bears_28 (g : GT) (e : Nat) (Q : Int → Sg → Prop) (s : Sg) (v1 : Int) (v2 : Int) : Prop := Wp g (e + 1) M_X13_bears Q 28 [(21, 92), (0, v1), (0, v2)] [] s
set_option maxRecDepth 20000 in
theorem S_X13_bears_28 {g : GT} {e : Nat} {Q : Int → Sg → Prop} {s : Sg} {v1 : Int} {v2 : Int} (h : (Mw g e M_X13_strong [(21, 92), (0, v1), (0, v2)] s (fun r1 s2 => Q r1 s2))) : P_X13_bears_28 g e Q s v1 v2 := by
  refine r_aload_n dX13_bears_28 rfl rfl ?_
  refine r_iload_n dX13_bears_29 rfl ?_
  refine r_iload_n dX13_bears_30 rfl ?_
  refine r_callV (ci := 11) (As := [(0, v1), (0, v2)]) (st := []) (by decide) ok_X13_522 rfl rfl (Nat.le_of_ble_eq_true rfl) dX13_bears_31 h (fun r1 s2 hv h => ?_)
  refine r_goto (tgt := 45) dX13_bears_34 (by decide) ?_
  exact r_iret dX13_bears_45 rfl h
set_option maxRecDepth 20000 in
theorem S_X13_bears {g : GT} {e : Nat} {Q : Int → Sg → Prop} {s : Sg} {v1 : Int} {v2 : Int} (h : inR v1 → inR v2 → (Mw g e M_X13_twin [(21, 92), (0, v2)] s (fun r1 s2 => ((r1 = (-1) → P_X13_bears_28 g e Q s2 v1 v2) ∧ (¬ r1 = (-1) → (Mw g e M_X13_twin [(21, 92), (0, v2)] s2 (fun r3 s4 => (Mw g e M_X13_inWall [(21, 92), (0, v1), (0, r3)] s4 (fun r5 s6 => (Mw g e M_X13_inWall [(21, 92), (0, v1), (0, v2)] s6 (fun r7 s8 => ((¬ r5 = r7 → (Mw g e M_X13_strong [(21, 92), (0, v1), (0, v2)] s8 (fun r9 s10 => Q (w32 (Int.tdiv r9 2)) s10))) ∧ (r5 = r7 → P_X13_bears_28 g e Q s8 v1 v2))))))))))))) : Mw g (e + 1) M_X13_bears [(21, 92), (0, v1), (0, v2)] s Q := by
  refine Mw.of (ls := [(21, 92), (0, v1), (0, v2)]) pn_X13_bears (Nat.le_of_ble_eq_true rfl) rfl (fun hv => ?_)
  have h := h (hv _ (List.Mem.tail _ (List.Mem.head _))) (hv _ (List.Mem.tail _ (List.Mem.tail _ (List.Mem.head _))))
  refine r_aload_n dX13_bears_0 rfl rfl ?_
  refine r_iload_n dX13_bears_1 rfl ?_
  refine r_callV (ci := 11) (As := [(0, v2)]) (st := []) (by decide) ok_X13_519 rfl rfl (Nat.le_of_ble_eq_true rfl) dX13_bears_2 h (fun r1 s2 hv h => ?_)
  refine r_iconst dX13_bears_5 (by decide) ?_
  refine r_icmp_eq (tgt := 28) dX13_bears_6 (by decide) (fun hc => ?_) (fun hc => ?_)
  · have h := h.1 hc
    exact h
  · have h := h.2 hc
    refine r_aload_n dX13_bears_9 rfl rfl ?_
    refine r_iload_n dX13_bears_10 rfl ?_
    refine r_aload_n dX13_bears_11 rfl rfl ?_
    refine r_iload_n dX13_bears_12 rfl ?_
    refine r_callV (ci := 11) (As := [(0, v2)]) (st := [(0, v1), (21, 92)]) (by decide) ok_X13_519 rfl rfl (Nat.le_of_ble_eq_true rfl) dX13_bears_13 h (fun r3 s4 hv h => ?_)
    refine r_callV (ci := 11) (As := [(0, v1), (0, r3)]) (st := []) (by decide) ok_X13_507 rfl rfl (Nat.le_of_ble_eq_true rfl) dX13_bears_16 h (fun r5 s6 hv h => ?_)
    refine r_aload_n dX13_bears_19 rfl rfl ?_
    refine r_iload_n dX13_bears_20 rfl ?_
    refine r_iload_n dX13_bears_21 rfl ?_
    refine r_callV (ci := 11) (As := [(0, v1), (0, v2)]) (st := [(0, r5)]) (by decide) ok_X13_507 rfl rfl (Nat.le_of_ble_eq_true rfl) dX13_bears_22 h (fun r7 s8 hv h => ?_)
    refine r_icmp_ne (tgt := 37) dX13_bears_25 (by decide) (fun hc => ?_) (fun hc => ?_)
    · have h := h.1 hc
      refine r_aload_n dX13_bears_37 rfl rfl ?_
      refine r_iload_n dX13_bears_38 rfl ?_
      refine r_iload_n dX13_bears_39 rfl ?_
      refine r_callV (ci := 11) (As := [(0, v1), (0, v2)]) (st := []) (by decide) ok_X13_522 rfl rfl (Nat.le_of_ble_eq_true rfl) dX13_bears_40 h (fun r9 s10 hv h => ?_)
      refine r_iconst dX13_bears_43 (by decide) ?_
      refine r_idiv dX13_bears_44 (by decide) ?_
      exact r_iret dX13_bears_45 rfl h
    · have h := h.2 hc
      exact h
set_option maxRecDepth 20000 in
theorem S_X13_holds {g : GT} {e : Nat} {Q : Int → Sg → Prop} {s : Sg} {v1 : Int} {v2 : Int} (h : inR v1 → inR v2 → (Mw g e M_X13_bears [(21, 92), (0, v1), (0, v2)] s (fun r1 s2 => (Mw g e M_X13_load [(21, 92), (0, v1), (0, v2)] s2 (fun r3 s4 => ((r1 < r3 → Q 0 s4) ∧ (¬ r1 < r3 → Q 1 s4))))))) : Mw g (e + 1) M_X13_holds [(21, 92), (0, v1), (0, v2)] s Q := by
  refine Mw.of (ls := [(21, 92), (0, v1), (0, v2)]) pn_X13_holds (Nat.le_of_ble_eq_true rfl) rfl (fun hv => ?_)
  have h := h (hv _ (List.Mem.tail _ (List.Mem.head _))) (hv _ (List.Mem.tail _ (List.Mem.tail _ (List.Mem.head _))))
  refine r_aload_n dX13_holds_0 rfl rfl ?_
  refine r_iload_n dX13_holds_1 rfl ?_
  refine r_iload_n dX13_holds_2 rfl ?_
  refine r_callV (ci := 11) (As := [(0, v1), (0, v2)]) (st := []) (by decide) ok_X13_525 rfl rfl (Nat.le_of_ble_eq_true rfl) dX13_holds_3 h (fun r1 s2 hv h => ?_)
  refine r_aload_n dX13_holds_6 rfl rfl ?_
  refine r_iload_n dX13_holds_7 rfl ?_
  refine r_iload_n dX13_holds_8 rfl ?_
  refine r_callV (ci := 11) (As := [(0, v1), (0, v2)]) (st := [(0, r1)]) (by decide) ok_X13_528 rfl rfl (Nat.le_of_ble_eq_true rfl) dX13_holds_9 h (fun r3 s4 hv h => ?_)
  refine r_icmp_lt (tgt := 19) dX13_holds_12 (by decide) (fun hc => ?_) (fun hc => ?_)
  · have h := h.1 hc
    refine r_iconst dX13_holds_19 (by decide) ?_
    exact r_zret dX13_holds_20 rfl (by decide) h
  · have h := h.2 hc
    refine r_iconst dX13_holds_15 (by decide) ?_
    refine r_goto (tgt := 20) dX13_holds_16 (by decide) ?_
    exact r_zret dX13_holds_20 rfl (by decide) h
abbrev P_X13_allHold_2 (g : GT) (e : Nat) (Q : Int → Sg → Prop) (s : Sg) (v1 : Int) (v2 : Int) (v3 : Int) : Prop := Wp g (e + 1) M_X13_allHold Q 2 [(21, 92), (0, v1), (0, v2), (0, v3)] [] s
set_option maxRecDepth 20000 in
theorem S_X13_allHold_2 {g : GT} {e : Nat} {Q : Int → Sg → Prop} {s : Sg} {v1 : Int} {v2 : Int} {v3 : Int} (h : ((0 ≤ (s 92 13) ∧ (s 92 13) < 2) ∧ (((s 97 (s 92 13)) ≤ v3 → Q 1 s) ∧ (¬ (s 97 (s 92 13)) ≤ v3 → (Mw g e M_X13_inWall [(21, 92), (0, v1), (0, v3)] s (fun r1 s2 => ((¬ r1 = v2 → P_X13_allHold_2 g e Q s2 v1 v2 (w32 (v3 + 1))) ∧ (r1 = v2 → (Mw g e M_X13_holds [(21, 92), (0, v1), (0, v3)] s2 (fun r3 s4 => ((¬ r3 = 0 → P_X13_allHold_2 g e Q s4 v1 v2 (w32 (v3 + 1))) ∧ (r3 = 0 → Q 0 s4)))))))))))) : P_X13_allHold_2 g e Q s v1 v2 v3 := by
  refine r_iload_n dX13_allHold_2 rfl ?_
  refine r_aload_n dX13_allHold_3 rfl rfl ?_
  refine gf_X13_63 rfl dX13_allHold_4 ?_
  refine r_aload_n dX13_allHold_7 rfl rfl ?_
  refine gf_X13_51 rfl dX13_allHold_8 ?_
  obtain ⟨hb, h⟩ := h
  refine r_iald (n := 2) rfl (by decide) dX13_allHold_11 hb ?_
  refine r_icmp_ge (tgt := 42) dX13_allHold_12 (by decide) (fun hc => ?_) (fun hc => ?_)
  · have h := h.1 hc
    refine r_iconst dX13_allHold_42 (by decide) ?_
    exact r_zret dX13_allHold_43 rfl (by decide) h
  · have h := h.2 hc
    refine r_aload_n dX13_allHold_15 rfl rfl ?_
    refine r_iload_n dX13_allHold_16 rfl ?_
    refine r_iload_n dX13_allHold_17 rfl ?_
    refine r_callV (ci := 11) (As := [(0, v1), (0, v3)]) (st := []) (by decide) ok_X13_507 rfl rfl (Nat.le_of_ble_eq_true rfl) dX13_allHold_18 h (fun r1 s2 hv h => ?_)
    refine r_iload_n dX13_allHold_21 rfl ?_
    refine r_icmp_ne (tgt := 36) dX13_allHold_22 (by decide) (fun hc => ?_) (fun hc => ?_)
    · have h := h.1 hc
      refine r_iinc (ls2 := [(21, 92), (0, v1), (0, v2), (0, (w32 (v3 + 1)))]) dX13_allHold_36 rfl (by decide) rfl ?_
      refine r_goto (tgt := 2) dX13_allHold_39 (by decide) ?_
      exact h
    · have h := h.2 hc
      refine r_aload_n dX13_allHold_25 rfl rfl ?_
      refine r_iload_n dX13_allHold_26 rfl ?_
      refine r_iload_n dX13_allHold_27 rfl ?_
      refine r_callV (ci := 11) (As := [(0, v1), (0, v3)]) (st := []) (by decide) ok_X13_531 rfl rfl (Nat.le_of_ble_eq_true rfl) dX13_allHold_28 h (fun r3 s4 hv h => ?_)
      refine r_if_ne (tgt := 36) dX13_allHold_31 (by decide) (fun hc => ?_) (fun hc => ?_)
      · have h := h.1 hc
        refine r_iinc (ls2 := [(21, 92), (0, v1), (0, v2), (0, (w32 (v3 + 1)))]) dX13_allHold_36 rfl (by decide) rfl ?_
        refine r_goto (tgt := 2) dX13_allHold_39 (by decide) ?_
        exact h
      · have h := h.2 hc
        refine r_iconst dX13_allHold_34 (by decide) ?_
        exact r_zret dX13_allHold_35 rfl (by decide) h
set_option maxRecDepth 20000 in
theorem S_X13_allHold {g : GT} {e : Nat} {Q : Int → Sg → Prop} {s : Sg} {v1 : Int} {v2 : Int} (h : inR v1 → inR v2 → P_X13_allHold_2 g e Q s v1 v2 0) : Mw g (e + 1) M_X13_allHold [(21, 92), (0, v1), (0, v2)] s Q := by
  refine Mw.of (ls := [(21, 92), (0, v1), (0, v2), (9, 0)]) pn_X13_allHold (Nat.le_of_ble_eq_true rfl) rfl (fun hv => ?_)
  have h := h (hv _ (List.Mem.tail _ (List.Mem.head _))) (hv _ (List.Mem.tail _ (List.Mem.tail _ (List.Mem.head _))))
  refine r_iconst dX13_allHold_0 (by decide) ?_
  refine r_istore_n (ls2 := [(21, 92), (0, v1), (0, v2), (0, 0)]) dX13_allHold_1 (by decide) rfl ?_
  exact h
abbrev P_X13_writesDown_18 (g : GT) (e : Nat) (Q : Int → Sg → Prop) (s : Sg) (v1 : Int) (v2 : Int) (v3 : Int) (v4 : Int) (v5 : Int) : Prop := Wp g (e + 1) M_X13_writesDown Q 18 [(21, 92), (0, v1), (0, v2), (0, v3), (0, v4), (0, v5)] [] s
abbrev P_X13_writesDown_66 (g : GT) (e : Nat) (Q : Int → Sg → Prop) (s : Sg) (v1 : Int) (v2 : Int) (v3 : Int) (v4 : Int) : Prop := Wp g (e + 1) M_X13_writesDown Q 66 [(21, 92), (0, v1), (0, v2), (0, v3), (0, v4), (9, 0)] [] s
set_option maxRecDepth 20000 in
theorem S_X13_writesDown_18 {g : GT} {e : Nat} {Q : Int → Sg → Prop} {s : Sg} {v1 : Int} {v2 : Int} {v3 : Int} {v4 : Int} {v5 : Int} (h : (((w32 ((w32 ((w32 (240 * v1)) + 240)) - 4)) ≤ v5 → ((0 ≤ v1 ∧ v1 < 23) ∧ ((0 ≤ v1 ∧ v1 < 23) ∧ ∀ s1, s1 = ups s 129 v1 (w32 ((s 129 v1) - 1)) → P_X13_writesDown_66 g e Q s1 v1 v2 v3 v4))) ∧ (¬ (w32 ((w32 ((w32 (240 * v1)) + 240)) - 4)) ≤ v5 → ((0 ≤ (w32 (v5 + 4)) ∧ (w32 (v5 + 4)) < 5520) ∧ ((0 ≤ v5 ∧ v5 < 5520) ∧ ∀ s2, s2 = ups s 130 v5 (s 130 (w32 (v5 + 4))) → P_X13_writesDown_18 g e Q s2 v1 v2 v3 v4 (w32 (v5 + 1))))))) : P_X13_writesDown_18 g e Q s v1 v2 v3 v4 v5 := by
  refine r_iload dX13_writesDown_18 rfl ?_
  refine r_sipush dX13_writesDown_20 (by decide) rfl ?_
  refine r_iload_n dX13_writesDown_23 rfl ?_
  refine r_imul dX13_writesDown_24 ?_
  refine r_sipush dX13_writesDown_25 (by decide) rfl ?_
  refine r_iadd dX13_writesDown_28 ?_
  refine r_iconst dX13_writesDown_29 (by decide) ?_
  refine r_isub dX13_writesDown_30 ?_
  refine r_icmp_ge (tgt := 56) dX13_writesDown_31 (by decide) (fun hc => ?_) (fun hc => ?_)
  · have h := h.1 hc
    refine r_aload_n dX13_writesDown_56 rfl rfl ?_
    refine gf_X13_183 rfl dX13_writesDown_57 ?_
    refine r_iload_n dX13_writesDown_60 rfl ?_
    refine r_dup2 dX13_writesDown_61 (show (0 : Nat) ≠ 2 by decide) (show (55 : Nat) ≠ 2 by decide) ?_
    obtain ⟨hb, h⟩ := h
    refine r_iald (n := 23) rfl (by decide) dX13_writesDown_62 hb ?_
    refine r_iconst dX13_writesDown_63 (by decide) ?_
    refine r_isub dX13_writesDown_64 ?_
    obtain ⟨hb, h⟩ := h
    refine r_iast (n := 23) rfl (by decide) dX13_writesDown_65 hb ?_
    have h := h _ rfl
    generalize hs_s1 : ups s 129 v1 (w32 ((s 129 v1) - 1)) = s1 at h ⊢
    exact r_fgt [true, true, true, true, true, false] rfl h
  · have h := h.2 hc
    refine r_aload_n dX13_writesDown_34 rfl rfl ?_
    refine gf_X13_186 rfl dX13_writesDown_35 ?_
    refine r_iload dX13_writesDown_38 rfl ?_
    refine r_aload_n dX13_writesDown_40 rfl rfl ?_
    refine gf_X13_186 rfl dX13_writesDown_41 ?_
    refine r_iload dX13_writesDown_44 rfl ?_
    refine r_iconst dX13_writesDown_46 (by decide) ?_
    refine r_iadd dX13_writesDown_47 ?_
    obtain ⟨hb, h⟩ := h
    refine r_iald (n := 5520) rfl (by decide) dX13_writesDown_48 hb ?_
    obtain ⟨hb, h⟩ := h
    refine r_iast (n := 5520) rfl (by decide) dX13_writesDown_49 hb ?_
    have h := h _ rfl
    generalize hs_s2 : ups s 130 v5 (s 130 (w32 (v5 + 4))) = s2 at h ⊢
    refine r_iinc (ls2 := [(21, 92), (0, v1), (0, v2), (0, v3), (0, v4), (0, (w32 (v5 + 1)))]) dX13_writesDown_50 rfl (by decide) rfl ?_
    refine r_goto (tgt := 18) dX13_writesDown_53 (by decide) ?_
    exact h
set_option maxRecDepth 20000 in
theorem S_X13_writesDown_66 {g : GT} {e : Nat} {Q : Int → Sg → Prop} {s : Sg} {v1 : Int} {v2 : Int} {v3 : Int} {v4 : Int} (h : ((0 ≤ v1 ∧ v1 < 23) ∧ ((0 ≤ v1 ∧ v1 < 23) ∧ ((0 ≤ (w32 (4 * (w32 ((w32 (60 * v1)) + (s 129 v1))))) ∧ (w32 (4 * (w32 ((w32 (60 * v1)) + (s 129 v1))))) < 5520) ∧ ∀ s1, s1 = ups s 130 (w32 (4 * (w32 ((w32 (60 * v1)) + (s 129 v1))))) (s 122 v1) → ((0 ≤ (w32 ((w32 (4 * (w32 ((w32 (60 * v1)) + (s 129 v1))))) + 1)) ∧ (w32 ((w32 (4 * (w32 ((w32 (60 * v1)) + (s 129 v1))))) + 1)) < 5520) ∧ ∀ s2, s2 = ups s1 130 (w32 ((w32 (4 * (w32 ((w32 (60 * v1)) + (s 129 v1))))) + 1)) v2 → ((0 ≤ (w32 ((w32 (4 * (w32 ((w32 (60 * v1)) + (s 129 v1))))) + 2)) ∧ (w32 ((w32 (4 * (w32 ((w32 (60 * v1)) + (s 129 v1))))) + 2)) < 5520) ∧ ∀ s3, s3 = ups s2 130 (w32 ((w32 (4 * (w32 ((w32 (60 * v1)) + (s 129 v1))))) + 2)) v3 → ((0 ≤ (w32 ((w32 (4 * (w32 ((w32 (60 * v1)) + (s 129 v1))))) + 3)) ∧ (w32 ((w32 (4 * (w32 ((w32 (60 * v1)) + (s 129 v1))))) + 3)) < 5520) ∧ ∀ s4, s4 = ups s3 130 (w32 ((w32 (4 * (w32 ((w32 (60 * v1)) + (s 129 v1))))) + 3)) v4 → ((0 ≤ v1 ∧ v1 < 23) ∧ ((0 ≤ v1 ∧ v1 < 23) ∧ ∀ s5, s5 = ups s4 129 v1 (w32 ((s4 129 v1) + 1)) → Q 0 s5))))))))) : P_X13_writesDown_66 g e Q s v1 v2 v3 v4 := by
  refine r_iconst dX13_writesDown_66 (by decide) ?_
  refine r_bipush dX13_writesDown_67 (by decide) rfl ?_
  refine r_iload_n dX13_writesDown_69 rfl ?_
  refine r_imul dX13_writesDown_70 ?_
  refine r_aload_n dX13_writesDown_71 rfl rfl ?_
  refine gf_X13_183 rfl dX13_writesDown_72 ?_
  refine r_iload_n dX13_writesDown_75 rfl ?_
  obtain ⟨hb, h⟩ := h
  refine r_iald (n := 23) rfl (by decide) dX13_writesDown_76 hb ?_
  refine r_iadd dX13_writesDown_77 ?_
  refine r_imul dX13_writesDown_78 ?_
  refine r_istore (ls2 := [(21, 92), (0, v1), (0, v2), (0, v3), (0, v4), (0, (w32 (4 * (w32 ((w32 (60 * v1)) + (s 129 v1))))))]) dX13_writesDown_79 (by decide) rfl ?_
  refine r_aload_n dX13_writesDown_81 rfl rfl ?_
  refine gf_X13_186 rfl dX13_writesDown_82 ?_
  refine r_iload dX13_writesDown_85 rfl ?_
  refine r_aload_n dX13_writesDown_87 rfl rfl ?_
  refine gf_X13_162 rfl dX13_writesDown_88 ?_
  refine r_iload_n dX13_writesDown_91 rfl ?_
  obtain ⟨hb, h⟩ := h
  refine r_iald (n := 23) rfl (by decide) dX13_writesDown_92 hb ?_
  obtain ⟨hb, h⟩ := h
  refine r_iast (n := 5520) rfl (by decide) dX13_writesDown_93 hb ?_
  have h := h _ rfl
  generalize hs_s1 : ups s 130 (w32 (4 * (w32 ((w32 (60 * v1)) + (s 129 v1))))) (s 122 v1) = s1 at h ⊢
  refine r_aload_n dX13_writesDown_94 rfl rfl ?_
  refine gf_X13_186 rfl dX13_writesDown_95 ?_
  refine r_iload dX13_writesDown_98 rfl ?_
  refine r_iconst dX13_writesDown_100 (by decide) ?_
  refine r_iadd dX13_writesDown_101 ?_
  refine r_iload_n dX13_writesDown_102 rfl ?_
  obtain ⟨hb, h⟩ := h
  refine r_iast (n := 5520) rfl (by decide) dX13_writesDown_103 hb ?_
  have h := h _ rfl
  generalize hs_s2 : ups s1 130 (w32 ((w32 (4 * (w32 ((w32 (60 * v1)) + (s 129 v1))))) + 1)) v2 = s2 at h ⊢
  refine r_aload_n dX13_writesDown_104 rfl rfl ?_
  refine gf_X13_186 rfl dX13_writesDown_105 ?_
  refine r_iload dX13_writesDown_108 rfl ?_
  refine r_iconst dX13_writesDown_110 (by decide) ?_
  refine r_iadd dX13_writesDown_111 ?_
  refine r_iload_n dX13_writesDown_112 rfl ?_
  obtain ⟨hb, h⟩ := h
  refine r_iast (n := 5520) rfl (by decide) dX13_writesDown_113 hb ?_
  have h := h _ rfl
  generalize hs_s3 : ups s2 130 (w32 ((w32 (4 * (w32 ((w32 (60 * v1)) + (s 129 v1))))) + 2)) v3 = s3 at h ⊢
  refine r_aload_n dX13_writesDown_114 rfl rfl ?_
  refine gf_X13_186 rfl dX13_writesDown_115 ?_
  refine r_iload dX13_writesDown_118 rfl ?_
  refine r_iconst dX13_writesDown_120 (by decide) ?_
  refine r_iadd dX13_writesDown_121 ?_
  refine r_iload dX13_writesDown_122 rfl ?_
  obtain ⟨hb, h⟩ := h
  refine r_iast (n := 5520) rfl (by decide) dX13_writesDown_124 hb ?_
  have h := h _ rfl
  generalize hs_s4 : ups s3 130 (w32 ((w32 (4 * (w32 ((w32 (60 * v1)) + (s 129 v1))))) + 3)) v4 = s4 at h ⊢
  refine r_aload_n dX13_writesDown_125 rfl rfl ?_
  refine gf_X13_183 rfl dX13_writesDown_126 ?_
  refine r_iload_n dX13_writesDown_129 rfl ?_
  refine r_dup2 dX13_writesDown_130 (show (0 : Nat) ≠ 2 by decide) (show (55 : Nat) ≠ 2 by decide) ?_
  obtain ⟨hb, h⟩ := h
  refine r_iald (n := 23) rfl (by decide) dX13_writesDown_131 hb ?_
  refine r_iconst dX13_writesDown_132 (by decide) ?_
  refine r_iadd dX13_writesDown_133 ?_
  obtain ⟨hb, h⟩ := h
  refine r_iast (n := 23) rfl (by decide) dX13_writesDown_134 hb ?_
  have h := h _ rfl
  generalize hs_s5 : ups s4 129 v1 (w32 ((s4 129 v1) + 1)) = s5 at h ⊢
  exact r_ret dX13_writesDown_135 rfl h
set_option maxRecDepth 20000 in
theorem S_X13_writesDown {g : GT} {e : Nat} {Q : Int → Sg → Prop} {s : Sg} {v1 : Int} {v2 : Int} {v3 : Int} {v4 : Int} (h : inR v1 → inR v2 → inR v3 → inR v4 → ((0 ≤ v1 ∧ v1 < 23) ∧ ((¬ (s 129 v1) = 60 → P_X13_writesDown_66 g e Q s v1 v2 v3 v4) ∧ ((s 129 v1) = 60 → P_X13_writesDown_18 g e Q s v1 v2 v3 v4 (w32 (240 * v1)))))) : Mw g (e + 1) M_X13_writesDown [(21, 92), (0, v1), (0, v2), (0, v3), (0, v4)] s Q := by
  refine Mw.of (ls := [(21, 92), (0, v1), (0, v2), (0, v3), (0, v4), (9, 0)]) pn_X13_writesDown (Nat.le_of_ble_eq_true rfl) rfl (fun hv => ?_)
  have h := h (hv _ (List.Mem.tail _ (List.Mem.head _))) (hv _ (List.Mem.tail _ (List.Mem.tail _ (List.Mem.head _)))) (hv _ (List.Mem.tail _ (List.Mem.tail _ (List.Mem.tail _ (List.Mem.head _))))) (hv _ (List.Mem.tail _ (List.Mem.tail _ (List.Mem.tail _ (List.Mem.tail _ (List.Mem.head _))))))
  refine r_aload_n dX13_writesDown_0 rfl rfl ?_
  refine gf_X13_183 rfl dX13_writesDown_1 ?_
  refine r_iload_n dX13_writesDown_4 rfl ?_
  obtain ⟨hb, h⟩ := h
  refine r_iald (n := 23) rfl (by decide) dX13_writesDown_5 hb ?_
  refine r_bipush dX13_writesDown_6 (by decide) rfl ?_
  refine r_icmp_ne (tgt := 66) dX13_writesDown_8 (by decide) (fun hc => ?_) (fun hc => ?_)
  · have h := h.1 hc
    exact h
  · have h := h.2 hc
    refine r_sipush dX13_writesDown_11 (by decide) rfl ?_
    refine r_iload_n dX13_writesDown_14 rfl ?_
    refine r_imul dX13_writesDown_15 ?_
    refine r_istore (ls2 := [(21, 92), (0, v1), (0, v2), (0, v3), (0, v4), (0, (w32 (240 * v1)))]) dX13_writesDown_16 (by decide) rfl ?_
    exact h
abbrev P_X13_takesDown_26 (g : GT) (e : Nat) (Q : Int → Sg → Prop) (s : Sg) (v1 : Int) (v3 : Int) (v4 : Int) (v5 : Int) (v6 : Int) : Prop := Wp g (e + 1) M_X13_takesDown Q 26 [(21, 92), (0, v1), (9, 0), (0, v3), (0, v4), (0, v5), (0, v6), (9, 0)] [] s
abbrev P_X13_takesDown_80 (g : GT) (e : Nat) (Q : Int → Sg → Prop) (s : Sg) (v1 : Int) (v5 : Int) (v6 : Int) : Prop := Wp g (e + 1) M_X13_takesDown Q 80 [(21, 92), (0, v1), (9, 0), (9, 0), (9, 0), (0, v5), (0, v6), (9, 0)] [] s
set_option maxRecDepth 20000 in
theorem S_X13_takesDown_26 {g : GT} {e : Nat} {Q : Int → Sg → Prop} {s : Sg} {v1 : Int} {v3 : Int} {v4 : Int} {v5 : Int} {v6 : Int} (h : ((4 ≤ v6 → P_X13_takesDown_80 g e Q s v1 v5 0) ∧ (¬ 4 ≤ v6 → (Mw g e M_X13_lies [(21, 92), (0, v1), (0, v3), (0, v4), (0, v6)] s (fun r1 s2 => ((¬ r1 = (-1) → (Mw g e M_X13_writesDown [(21, 92), (0, v1), (0, r1), (0, v3), (0, 0)] s2 (fun _ s4 => P_X13_takesDown_26 g e Q s4 v1 v3 v4 (bOr v5 (bShl 1 r1)) (w32 (v6 + 1))))) ∧ (r1 = (-1) → P_X13_takesDown_80 g e Q s2 v1 v5 0))))))) : P_X13_takesDown_26 g e Q s v1 v3 v4 v5 v6 := by
  refine r_iload dX13_takesDown_26 rfl ?_
  refine r_iconst dX13_takesDown_28 (by decide) ?_
  refine r_icmp_ge (tgt := 77) dX13_takesDown_29 (by decide) (fun hc => ?_) (fun hc => ?_)
  · have h := h.1 hc
    refine r_iconst dX13_takesDown_77 (by decide) ?_
    refine r_istore (ls2 := [(21, 92), (0, v1), (9, 0), (0, v3), (0, v4), (0, v5), (0, 0), (9, 0)]) dX13_takesDown_78 (by decide) rfl ?_
    exact r_fgt [true, true, false, false, false, true, true, false] rfl h
  · have h := h.2 hc
    refine r_aload_n dX13_takesDown_32 rfl rfl ?_
    refine r_iload_n dX13_takesDown_33 rfl ?_
    refine r_iload_n dX13_takesDown_34 rfl ?_
    refine r_iload dX13_takesDown_35 rfl ?_
    refine r_iload dX13_takesDown_37 rfl ?_
    refine r_callV (ci := 11) (As := [(0, v1), (0, v3), (0, v4), (0, v6)]) (st := []) (by decide) ok_X13_534 rfl rfl (Nat.le_of_ble_eq_true rfl) dX13_takesDown_39 h (fun r1 s2 hv h => ?_)
    refine r_istore (ls2 := [(21, 92), (0, v1), (9, 0), (0, v3), (0, v4), (0, v5), (0, v6), (0, r1)]) dX13_takesDown_42 (by decide) rfl ?_
    refine r_iload dX13_takesDown_44 rfl ?_
    refine r_iconst dX13_takesDown_46 (by decide) ?_
    refine r_icmp_ne (tgt := 53) dX13_takesDown_47 (by decide) (fun hc => ?_) (fun hc => ?_)
    · have h := h.1 hc
      refine r_iload dX13_takesDown_53 rfl ?_
      refine r_iconst dX13_takesDown_55 (by decide) ?_
      refine r_iload dX13_takesDown_56 rfl ?_
      refine r_ishl dX13_takesDown_58 ?_
      refine r_ior dX13_takesDown_59 ?_
      refine r_istore (ls2 := [(21, 92), (0, v1), (9, 0), (0, v3), (0, v4), (0, (bOr v5 (bShl 1 r1))), (0, v6), (0, r1)]) dX13_takesDown_60 (by decide) rfl ?_
      refine r_aload_n dX13_takesDown_62 rfl rfl ?_
      refine r_iload_n dX13_takesDown_63 rfl ?_
      refine r_iload dX13_takesDown_64 rfl ?_
      refine r_iload_n dX13_takesDown_66 rfl ?_
      refine r_iconst dX13_takesDown_67 (by decide) ?_
      refine r_callV (ci := 11) (As := [(0, v1), (0, r1), (0, v3), (0, 0)]) (st := []) (by decide) ok_X13_538 rfl rfl (Nat.le_of_ble_eq_true rfl) dX13_takesDown_68 h (fun r3 s4 hv h => ?_)
      refine r_iinc (ls2 := [(21, 92), (0, v1), (9, 0), (0, v3), (0, v4), (0, (bOr v5 (bShl 1 r1))), (0, (w32 (v6 + 1))), (0, r1)]) dX13_takesDown_71 rfl (by decide) rfl ?_
      refine r_goto (tgt := 26) dX13_takesDown_74 (by decide) ?_
      exact r_fgt [true, true, false, true, true, true, true, false] rfl h
    · have h := h.2 hc
      refine r_goto (tgt := 77) dX13_takesDown_50 (by decide) ?_
      refine r_iconst dX13_takesDown_77 (by decide) ?_
      refine r_istore (ls2 := [(21, 92), (0, v1), (9, 0), (0, v3), (0, v4), (0, v5), (0, 0), (0, r1)]) dX13_takesDown_78 (by decide) rfl ?_
      exact r_fgt [true, true, false, false, false, true, true, false] rfl h
set_option maxRecDepth 20000 in
theorem S_X13_takesDown_80 {g : GT} {e : Nat} {Q : Int → Sg → Prop} {s : Sg} {v1 : Int} {v5 : Int} {v6 : Int} (h : ((0 ≤ (s 92 13) ∧ (s 92 13) < 2) ∧ (((s 97 (s 92 13)) ≤ v6 → Q v5 s) ∧ (¬ (s 97 (s 92 13)) ≤ v6 → (Mw g e M_X13_has2 [(0, v5), (0, v6)] s (fun r1 s2 => ((¬ r1 = 0 → ((0 ≤ (w32 ((w32 (8 * v1)) + v6)) ∧ (w32 ((w32 (8 * v1)) + v6)) < 184) ∧ ∀ s3, s3 = ups s2 126 (w32 ((w32 (8 * v1)) + v6)) (-1) → ((0 ≤ (w32 ((w32 (8 * v1)) + v6)) ∧ (w32 ((w32 (8 * v1)) + v6)) < 184) ∧ ∀ s4, s4 = ups s3 127 (w32 ((w32 (8 * v1)) + v6)) 0 → ((0 ≤ (w32 ((w32 (8 * v1)) + v6)) ∧ (w32 ((w32 (8 * v1)) + v6)) < 184) ∧ ∀ s5, s5 = ups s4 128 (w32 ((w32 (8 * v1)) + v6)) 0 → P_X13_takesDown_80 g e Q s5 v1 v5 (w32 (v6 + 1)))))) ∧ (r1 = 0 → P_X13_takesDown_80 g e Q s2 v1 v5 (w32 (v6 + 1)))))))))) : P_X13_takesDown_80 g e Q s v1 v5 v6 := by
  refine r_iload dX13_takesDown_80 rfl ?_
  refine r_aload_n dX13_takesDown_82 rfl rfl ?_
  refine gf_X13_63 rfl dX13_takesDown_83 ?_
  refine r_aload_n dX13_takesDown_86 rfl rfl ?_
  refine gf_X13_51 rfl dX13_takesDown_87 ?_
  obtain ⟨hb, h⟩ := h
  refine r_iald (n := 2) rfl (by decide) dX13_takesDown_90 hb ?_
  refine r_icmp_ge (tgt := 152) dX13_takesDown_91 (by decide) (fun hc => ?_) (fun hc => ?_)
  · have h := h.1 hc
    refine r_iload dX13_takesDown_152 rfl ?_
    exact r_iret dX13_takesDown_154 rfl h
  · have h := h.2 hc
    refine r_iload dX13_takesDown_94 rfl ?_
    refine r_iload dX13_takesDown_96 rfl ?_
    refine r_callS (As := [(0, v5), (0, v6)]) (st := []) ok_X13_389 rfl rfl (Nat.le_of_ble_eq_true rfl) dX13_takesDown_98 h (fun r1 s2 hv h => ?_)
    refine r_if_ne (tgt := 107) dX13_takesDown_101 (by decide) (fun hc => ?_) (fun hc => ?_)
    · have h := h.1 hc
      refine r_aload_n dX13_takesDown_107 rfl rfl ?_
      refine gf_X13_174 rfl dX13_takesDown_108 ?_
      refine r_bipush dX13_takesDown_111 (by decide) rfl ?_
      refine r_iload_n dX13_takesDown_113 rfl ?_
      refine r_imul dX13_takesDown_114 ?_
      refine r_iload dX13_takesDown_115 rfl ?_
      refine r_iadd dX13_takesDown_117 ?_
      refine r_iconst dX13_takesDown_118 (by decide) ?_
      obtain ⟨hb, h⟩ := h
      refine r_iast (n := 184) rfl (by decide) dX13_takesDown_119 hb ?_
      have h := h _ rfl
      generalize hs_s3 : ups s2 126 (w32 ((w32 (8 * v1)) + v6)) (-1) = s3 at h ⊢
      refine r_aload_n dX13_takesDown_120 rfl rfl ?_
      refine gf_X13_177 rfl dX13_takesDown_121 ?_
      refine r_bipush dX13_takesDown_124 (by decide) rfl ?_
      refine r_iload_n dX13_takesDown_126 rfl ?_
      refine r_imul dX13_takesDown_127 ?_
      refine r_iload dX13_takesDown_128 rfl ?_
      refine r_iadd dX13_takesDown_130 ?_
      refine r_iconst dX13_takesDown_131 (by decide) ?_
      obtain ⟨hb, h⟩ := h
      refine r_iast (n := 184) rfl (by decide) dX13_takesDown_132 hb ?_
      have h := h _ rfl
      generalize hs_s4 : ups s3 127 (w32 ((w32 (8 * v1)) + v6)) 0 = s4 at h ⊢
      refine r_aload_n dX13_takesDown_133 rfl rfl ?_
      refine gf_X13_180 rfl dX13_takesDown_134 ?_
      refine r_bipush dX13_takesDown_137 (by decide) rfl ?_
      refine r_iload_n dX13_takesDown_139 rfl ?_
      refine r_imul dX13_takesDown_140 ?_
      refine r_iload dX13_takesDown_141 rfl ?_
      refine r_iadd dX13_takesDown_143 ?_
      refine r_iconst dX13_takesDown_144 (by decide) ?_
      obtain ⟨hb, h⟩ := h
      refine r_iast (n := 184) rfl (by decide) dX13_takesDown_145 hb ?_
      have h := h _ rfl
      generalize hs_s5 : ups s4 128 (w32 ((w32 (8 * v1)) + v6)) 0 = s5 at h ⊢
      refine r_iinc (ls2 := [(21, 92), (0, v1), (9, 0), (9, 0), (9, 0), (0, v5), (0, (w32 (v6 + 1))), (9, 0)]) dX13_takesDown_146 rfl (by decide) rfl ?_
      refine r_goto (tgt := 80) dX13_takesDown_149 (by decide) ?_
      exact h
    · have h := h.2 hc
      refine r_goto (tgt := 146) dX13_takesDown_104 (by decide) ?_
      refine r_iinc (ls2 := [(21, 92), (0, v1), (9, 0), (9, 0), (9, 0), (0, v5), (0, (w32 (v6 + 1))), (9, 0)]) dX13_takesDown_146 rfl (by decide) rfl ?_
      refine r_goto (tgt := 80) dX13_takesDown_149 (by decide) ?_
      exact h
set_option maxRecDepth 20000 in
theorem S_X13_takesDown {g : GT} {e : Nat} {Q : Int → Sg → Prop} {s : Sg} {v1 : Int} {v2 : Int} (h : inR v1 → inR v2 → (Mw g e M_X13_inWall [(21, 92), (0, v1), (0, v2)] s (fun r1 s2 => (Mw g e M_X13_column [(21, 92), (0, v1), (0, v2)] s2 (fun r3 s4 => (Mw g e M_X13_course [(21, 92), (0, v1), (0, v2)] s4 (fun r5 s6 => P_X13_takesDown_26 g e Q s6 v1 r1 r3 0 r5))))))) : Mw g (e + 1) M_X13_takesDown [(21, 92), (0, v1), (0, v2)] s Q := by
  refine Mw.of (ls := [(21, 92), (0, v1), (0, v2), (9, 0), (9, 0), (9, 0), (9, 0), (9, 0)]) pn_X13_takesDown (Nat.le_of_ble_eq_true rfl) rfl (fun hv => ?_)
  have h := h (hv _ (List.Mem.tail _ (List.Mem.head _))) (hv _ (List.Mem.tail _ (List.Mem.tail _ (List.Mem.head _))))
  refine r_aload_n dX13_takesDown_0 rfl rfl ?_
  refine r_iload_n dX13_takesDown_1 rfl ?_
  refine r_iload_n dX13_takesDown_2 rfl ?_
  refine r_callV (ci := 11) (As := [(0, v1), (0, v2)]) (st := []) (by decide) ok_X13_507 rfl rfl (Nat.le_of_ble_eq_true rfl) dX13_takesDown_3 h (fun r1 s2 hv h => ?_)
  refine r_istore_n (ls2 := [(21, 92), (0, v1), (0, v2), (0, r1), (9, 0), (9, 0), (9, 0), (9, 0)]) dX13_takesDown_6 (by decide) rfl ?_
  refine r_aload_n dX13_takesDown_7 rfl rfl ?_
  refine r_iload_n dX13_takesDown_8 rfl ?_
  refine r_iload_n dX13_takesDown_9 rfl ?_
  refine r_callV (ci := 11) (As := [(0, v1), (0, v2)]) (st := []) (by decide) ok_X13_510 rfl rfl (Nat.le_of_ble_eq_true rfl) dX13_takesDown_10 h (fun r3 s4 hv h => ?_)
  refine r_istore (ls2 := [(21, 92), (0, v1), (0, v2), (0, r1), (0, r3), (9, 0), (9, 0), (9, 0)]) dX13_takesDown_13 (by decide) rfl ?_
  refine r_iconst dX13_takesDown_15 (by decide) ?_
  refine r_istore (ls2 := [(21, 92), (0, v1), (0, v2), (0, r1), (0, r3), (0, 0), (9, 0), (9, 0)]) dX13_takesDown_16 (by decide) rfl ?_
  refine r_aload_n dX13_takesDown_18 rfl rfl ?_
  refine r_iload_n dX13_takesDown_19 rfl ?_
  refine r_iload_n dX13_takesDown_20 rfl ?_
  refine r_callV (ci := 11) (As := [(0, v1), (0, v2)]) (st := []) (by decide) ok_X13_513 rfl rfl (Nat.le_of_ble_eq_true rfl) dX13_takesDown_21 h (fun r5 s6 hv h => ?_)
  refine r_istore (ls2 := [(21, 92), (0, v1), (0, v2), (0, r1), (0, r3), (0, 0), (0, r5), (9, 0)]) dX13_takesDown_24 (by decide) rfl ?_
  exact r_fgt [true, true, false, true, true, true, true, false] rfl h
abbrev P_X13_loose_2 (g : GT) (e : Nat) (Q : Int → Sg → Prop) (s : Sg) (v1 : Int) (v2 : Int) : Prop := Wp g (e + 1) M_X13_loose Q 2 [(21, 92), (0, v1), (0, v2), (9, 0), (9, 0), (9, 0)] [] s
abbrev P_X13_loose_17 (g : GT) (e : Nat) (Q : Int → Sg → Prop) (s : Sg) (v1 : Int) (v2 : Int) (v3 : Int) : Prop := Wp g (e + 1) M_X13_loose Q 17 [(21, 92), (0, v1), (0, v2), (0, v3), (9, 0), (9, 0)] [] s
abbrev P_X13_loose_25 (g : GT) (e : Nat) (Q : Int → Sg → Prop) (s : Sg) (v1 : Int) (v2 : Int) (v3 : Int) (v4 : Int) : Prop := Wp g (e + 1) M_X13_loose Q 25 [(21, 92), (0, v1), (0, v2), (0, v3), (0, v4), (9, 0)] [] s
set_option maxRecDepth 20000 in
theorem S_X13_loose_2 {g : GT} {e : Nat} {Q : Int → Sg → Prop} {s : Sg} {v1 : Int} {v2 : Int} (h : ((0 ≤ (s 92 13) ∧ (s 92 13) < 2) ∧ (((s 104 (s 92 13)) ≤ v2 → Q (-1) s) ∧ (¬ (s 104 (s 92 13)) ≤ v2 → P_X13_loose_17 g e Q s v1 v2 0)))) : P_X13_loose_2 g e Q s v1 v2 := by
  refine r_iload_n dX13_loose_2 rfl ?_
  refine r_aload_n dX13_loose_3 rfl rfl ?_
  refine gf_X13_84 rfl dX13_loose_4 ?_
  refine r_aload_n dX13_loose_7 rfl rfl ?_
  refine gf_X13_51 rfl dX13_loose_8 ?_
  obtain ⟨hb, h⟩ := h
  refine r_iald (n := 2) rfl (by decide) dX13_loose_11 hb ?_
  refine r_icmp_ge (tgt := 79) dX13_loose_12 (by decide) (fun hc => ?_) (fun hc => ?_)
  · have h := h.1 hc
    refine r_iconst dX13_loose_79 (by decide) ?_
    exact r_iret dX13_loose_80 rfl h
  · have h := h.2 hc
    refine r_iconst dX13_loose_15 (by decide) ?_
    refine r_istore_n (ls2 := [(21, 92), (0, v1), (0, v2), (0, 0), (9, 0), (9, 0)]) dX13_loose_16 (by decide) rfl ?_
    exact h
set_option maxRecDepth 20000 in
theorem S_X13_loose_17 {g : GT} {e : Nat} {Q : Int → Sg → Prop} {s : Sg} {v1 : Int} {v2 : Int} {v3 : Int} (h : ((4 ≤ v3 → P_X13_loose_2 g e Q s v1 (w32 (v2 + 1))) ∧ (¬ 4 ≤ v3 → P_X13_loose_25 g e Q s v1 v2 v3 0))) : P_X13_loose_17 g e Q s v1 v2 v3 := by
  refine r_iload_n dX13_loose_17 rfl ?_
  refine r_iconst dX13_loose_18 (by decide) ?_
  refine r_icmp_ge (tgt := 73) dX13_loose_19 (by decide) (fun hc => ?_) (fun hc => ?_)
  · have h := h.1 hc
    refine r_iinc (ls2 := [(21, 92), (0, v1), (0, (w32 (v2 + 1))), (0, v3), (9, 0), (9, 0)]) dX13_loose_73 rfl (by decide) rfl ?_
    refine r_goto (tgt := 2) dX13_loose_76 (by decide) ?_
    exact r_fgt [true, true, true, false, false, false] rfl h
  · have h := h.2 hc
    refine r_iconst dX13_loose_22 (by decide) ?_
    refine r_istore (ls2 := [(21, 92), (0, v1), (0, v2), (0, v3), (0, 0), (9, 0)]) dX13_loose_23 (by decide) rfl ?_
    exact h
set_option maxRecDepth 20000 in
theorem S_X13_loose_25 {g : GT} {e : Nat} {Q : Int → Sg → Prop} {s : Sg} {v1 : Int} {v2 : Int} {v3 : Int} {v4 : Int} (h : ((4 ≤ v4 → P_X13_loose_17 g e Q s v1 v2 (w32 (v3 + 1))) ∧ (¬ 4 ≤ v4 → (Mw g e M_X13_lies [(21, 92), (0, v1), (0, v2), (0, v3), (0, v4)] s (fun r1 s2 => ((r1 = (-1) → P_X13_loose_25 g e Q s2 v1 v2 v3 (w32 (v4 + 1))) ∧ (¬ r1 = (-1) → (Mw g e M_X13_holds [(21, 92), (0, v1), (0, r1)] s2 (fun r3 s4 => ((¬ r3 = 0 → P_X13_loose_25 g e Q s4 v1 v2 v3 (w32 (v4 + 1))) ∧ (r3 = 0 → Q r1 s4))))))))))) : P_X13_loose_25 g e Q s v1 v2 v3 v4 := by
  refine r_iload dX13_loose_25 rfl ?_
  refine r_iconst dX13_loose_27 (by decide) ?_
  refine r_icmp_ge (tgt := 67) dX13_loose_28 (by decide) (fun hc => ?_) (fun hc => ?_)
  · have h := h.1 hc
    refine r_iinc (ls2 := [(21, 92), (0, v1), (0, v2), (0, (w32 (v3 + 1))), (0, v4), (9, 0)]) dX13_loose_67 rfl (by decide) rfl ?_
    refine r_goto (tgt := 17) dX13_loose_70 (by decide) ?_
    exact r_fgt [true, true, true, true, false, false] rfl h
  · have h := h.2 hc
    refine r_aload_n dX13_loose_31 rfl rfl ?_
    refine r_iload_n dX13_loose_32 rfl ?_
    refine r_iload_n dX13_loose_33 rfl ?_
    refine r_iload_n dX13_loose_34 rfl ?_
    refine r_iload dX13_loose_35 rfl ?_
    refine r_callV (ci := 11) (As := [(0, v1), (0, v2), (0, v3), (0, v4)]) (st := []) (by decide) ok_X13_534 rfl rfl (Nat.le_of_ble_eq_true rfl) dX13_loose_37 h (fun r1 s2 hv h => ?_)
    refine r_istore (ls2 := [(21, 92), (0, v1), (0, v2), (0, v3), (0, v4), (0, r1)]) dX13_loose_40 (by decide) rfl ?_
    refine r_iload dX13_loose_42 rfl ?_
    refine r_iconst dX13_loose_44 (by decide) ?_
    refine r_icmp_eq (tgt := 61) dX13_loose_45 (by decide) (fun hc => ?_) (fun hc => ?_)
    · have h := h.1 hc
      refine r_iinc (ls2 := [(21, 92), (0, v1), (0, v2), (0, v3), (0, (w32 (v4 + 1))), (0, r1)]) dX13_loose_61 rfl (by decide) rfl ?_
      refine r_goto (tgt := 25) dX13_loose_64 (by decide) ?_
      exact r_fgt [true, true, true, true, true, false] rfl h
    · have h := h.2 hc
      refine r_aload_n dX13_loose_48 rfl rfl ?_
      refine r_iload_n dX13_loose_49 rfl ?_
      refine r_iload dX13_loose_50 rfl ?_
      refine r_callV (ci := 11) (As := [(0, v1), (0, r1)]) (st := []) (by decide) ok_X13_531 rfl rfl (Nat.le_of_ble_eq_true rfl) dX13_loose_52 h (fun r3 s4 hv h => ?_)
      refine r_if_ne (tgt := 61) dX13_loose_55 (by decide) (fun hc => ?_) (fun hc => ?_)
      · have h := h.1 hc
        refine r_iinc (ls2 := [(21, 92), (0, v1), (0, v2), (0, v3), (0, (w32 (v4 + 1))), (0, r1)]) dX13_loose_61 rfl (by decide) rfl ?_
        refine r_goto (tgt := 25) dX13_loose_64 (by decide) ?_
        exact r_fgt [true, true, true, true, true, false] rfl h
      · have h := h.2 hc
        refine r_iload dX13_loose_58 rfl ?_
        exact r_iret dX13_loose_60 rfl h
set_option maxRecDepth 20000 in
theorem S_X13_loose {g : GT} {e : Nat} {Q : Int → Sg → Prop} {s : Sg} {v1 : Int} (h : inR v1 → P_X13_loose_2 g e Q s v1 0) : Mw g (e + 1) M_X13_loose [(21, 92), (0, v1)] s Q := by
  refine Mw.of (ls := [(21, 92), (0, v1), (9, 0), (9, 0), (9, 0), (9, 0)]) pn_X13_loose (Nat.le_of_ble_eq_true rfl) rfl (fun hv => ?_)
  have h := h (hv _ (List.Mem.tail _ (List.Mem.head _)))
  refine r_iconst dX13_loose_0 (by decide) ?_
  refine r_istore_n (ls2 := [(21, 92), (0, v1), (0, 0), (9, 0), (9, 0), (9, 0)]) dX13_loose_1 (by decide) rfl ?_
  exact h
abbrev P_X13_falls_8 (g : GT) (e : Nat) (Q : Int → Sg → Prop) (s : Sg) (v1 : Int) (v2 : Int) (v3 : Int) : Prop := Wp g (e + 1) M_X13_falls Q 8 [(21, 92), (0, v1), (0, v2), (0, v3)] [] s
set_option maxRecDepth 20000 in
theorem S_X13_falls_8 {g : GT} {e : Nat} {Q : Int → Sg → Prop} {s : Sg} {v1 : Int} {v2 : Int} {v3 : Int} (h : ((v3 = (-1) → Q v2 s) ∧ (¬ v3 = (-1) → (Mw g e M_X13_takesDown [(21, 92), (0, v1), (0, v3)] s (fun r1 s2 => (Mw g e M_X13_loose [(21, 92), (0, v1)] s2 (fun r3 s4 => P_X13_falls_8 g e Q s4 v1 (bOr v2 r1) r3))))))) : P_X13_falls_8 g e Q s v1 v2 v3 := by
  refine r_iload_n dX13_falls_8 rfl ?_
  refine r_iconst dX13_falls_9 (by decide) ?_
  refine r_icmp_eq (tgt := 31) dX13_falls_10 (by decide) (fun hc => ?_) (fun hc => ?_)
  · have h := h.1 hc
    refine r_iload_n dX13_falls_31 rfl ?_
    exact r_iret dX13_falls_32 rfl h
  · have h := h.2 hc
    refine r_iload_n dX13_falls_13 rfl ?_
    refine r_aload_n dX13_falls_14 rfl rfl ?_
    refine r_iload_n dX13_falls_15 rfl ?_
    refine r_iload_n dX13_falls_16 rfl ?_
    refine r_callV (ci := 11) (As := [(0, v1), (0, v3)]) (st := [(0, v2)]) (by decide) ok_X13_544 rfl rfl (Nat.le_of_ble_eq_true rfl) dX13_falls_17 h (fun r1 s2 hv h => ?_)
    refine r_ior dX13_falls_20 ?_
    refine r_istore_n (ls2 := [(21, 92), (0, v1), (0, (bOr v2 r1)), (0, v3)]) dX13_falls_21 (by decide) rfl ?_
    refine r_aload_n dX13_falls_22 rfl rfl ?_
    refine r_iload_n dX13_falls_23 rfl ?_
    refine r_callV (ci := 11) (As := [(0, v1)]) (st := []) (by decide) ok_X13_541 rfl rfl (Nat.le_of_ble_eq_true rfl) dX13_falls_24 h (fun r3 s4 hv h => ?_)
    refine r_istore_n (ls2 := [(21, 92), (0, v1), (0, (bOr v2 r1)), (0, r3)]) dX13_falls_27 (by decide) rfl ?_
    refine r_goto (tgt := 8) dX13_falls_28 (by decide) ?_
    exact h
set_option maxRecDepth 20000 in
theorem S_X13_falls {g : GT} {e : Nat} {Q : Int → Sg → Prop} {s : Sg} {v1 : Int} (h : inR v1 → (Mw g e M_X13_loose [(21, 92), (0, v1)] s (fun r1 s2 => P_X13_falls_8 g e Q s2 v1 0 r1))) : Mw g (e + 1) M_X13_falls [(21, 92), (0, v1)] s Q := by
  refine Mw.of (ls := [(21, 92), (0, v1), (9, 0), (9, 0)]) pn_X13_falls (Nat.le_of_ble_eq_true rfl) rfl (fun hv => ?_)
  have h := h (hv _ (List.Mem.tail _ (List.Mem.head _)))
  refine r_iconst dX13_falls_0 (by decide) ?_
  refine r_istore_n (ls2 := [(21, 92), (0, v1), (0, 0), (9, 0)]) dX13_falls_1 (by decide) rfl ?_
  refine r_aload_n dX13_falls_2 rfl rfl ?_
  refine r_iload_n dX13_falls_3 rfl ?_
  refine r_callV (ci := 11) (As := [(0, v1)]) (st := []) (by decide) ok_X13_541 rfl rfl (Nat.le_of_ble_eq_true rfl) dX13_falls_4 h (fun r1 s2 hv h => ?_)
  refine r_istore_n (ls2 := [(21, 92), (0, v1), (0, 0), (0, r1)]) dX13_falls_7 (by decide) rfl ?_
  exact h
set_option maxRecDepth 20000 in
theorem S_X13_isFeud {g : GT} {e : Nat} {Q : Int → Sg → Prop} {s : Sg} {v1 : Int} {v2 : Int} {v3 : Int} (h : inR v1 → inR v2 → inR v3 → ((v3 = (-1) → Q 0 s) ∧ (¬ v3 = (-1) → ((0 ≤ v1 ∧ v1 < 23) ∧ (Mw g e M_X13_feuding [(21, 92), (0, (s 92 13)), (0, v2), (0, (s 123 v1))] s (fun r1 s2 => (Mw g e M_X13_has2 [(0, r1), (0, v3)] s2 (fun r3 s4 => ((r3 = 0 → Q 0 s4) ∧ (¬ r3 = 0 → Q 1 s4)))))))))) : Mw g (e + 1) M_X13_isFeud [(21, 92), (0, v1), (0, v2), (0, v3)] s Q := by
  refine Mw.of (ls := [(21, 92), (0, v1), (0, v2), (0, v3)]) pn_X13_isFeud (Nat.le_of_ble_eq_true rfl) rfl (fun hv => ?_)
  have h := h (hv _ (List.Mem.tail _ (List.Mem.head _))) (hv _ (List.Mem.tail _ (List.Mem.tail _ (List.Mem.head _)))) (hv _ (List.Mem.tail _ (List.Mem.tail _ (List.Mem.tail _ (List.Mem.head _)))))
  refine r_iload_n dX13_isFeud_0 rfl ?_
  refine r_iconst dX13_isFeud_1 (by decide) ?_
  refine r_icmp_eq (tgt := 31) dX13_isFeud_2 (by decide) (fun hc => ?_) (fun hc => ?_)
  · have h := h.1 hc
    refine r_iconst dX13_isFeud_31 (by decide) ?_
    exact r_zret dX13_isFeud_32 rfl (by decide) h
  · have h := h.2 hc
    refine r_aload_n dX13_isFeud_5 rfl rfl ?_
    refine r_aload_n dX13_isFeud_6 rfl rfl ?_
    refine gf_X13_51 rfl dX13_isFeud_7 ?_
    refine r_iload_n dX13_isFeud_10 rfl ?_
    refine r_aload_n dX13_isFeud_11 rfl rfl ?_
    refine gf_X13_165 rfl dX13_isFeud_12 ?_
    refine r_iload_n dX13_isFeud_15 rfl ?_
    obtain ⟨hb, h⟩ := h
    refine r_iald (n := 23) rfl (by decide) dX13_isFeud_16 hb ?_
    refine r_callV (ci := 11) (As := [(0, (s 92 13)), (0, v2), (0, (s 123 v1))]) (st := []) (by decide) ok_X13_415 rfl rfl (Nat.le_of_ble_eq_true rfl) dX13_isFeud_17 h (fun r1 s2 hv h => ?_)
    refine r_iload_n dX13_isFeud_20 rfl ?_
    refine r_callS (As := [(0, r1), (0, v3)]) (st := []) ok_X13_389 rfl rfl (Nat.le_of_ble_eq_true rfl) dX13_isFeud_21 h (fun r3 s4 hv h => ?_)
    refine r_if_eq (tgt := 31) dX13_isFeud_24 (by decide) (fun hc => ?_) (fun hc => ?_)
    · have h := h.1 hc
      refine r_iconst dX13_isFeud_31 (by decide) ?_
      exact r_zret dX13_isFeud_32 rfl (by decide) h
    · have h := h.2 hc
      refine r_iconst dX13_isFeud_27 (by decide) ?_
      refine r_goto (tgt := 32) dX13_isFeud_28 (by decide) ?_
      exact r_zret dX13_isFeud_32 rfl (by decide) h
abbrev P_X13_goesInto_6 (g : GT) (e : Nat) (Q : Int → Sg → Prop) (s : Sg) (v1 : Int) (v2 : Int) (v3 : Int) (v4 : Int) (v5 : Int) : Prop := Wp g (e + 1) M_X13_goesInto Q 6 [(21, 92), (0, v1), (0, v2), (0, v3), (0, v4), (0, v5), (9, 0), (9, 0)] [] s
abbrev P_X13_goesInto_218 (g : GT) (e : Nat) (Q : Int → Sg → Prop) (s : Sg) (v1 : Int) (v2 : Int) (v3 : Int) (v4 : Int) (v5 : Int) (v7 : Int) (x2 : Int) : Prop := Wp g (e + 1) M_X13_goesInto Q 218 [(21, 92), (0, v1), (0, v2), (0, v3), (0, v4), (0, v5), (9, 0), (0, v7)] [(0, x2), (0, 7), (47, 132)] s
abbrev P_X13_goesInto_242 (g : GT) (e : Nat) (Q : Int → Sg → Prop) (s : Sg) (v1 : Int) (v2 : Int) (v3 : Int) (v4 : Int) (v5 : Int) (x2 : Int) : Prop := Wp g (e + 1) M_X13_goesInto Q 242 [(21, 92), (0, v1), (0, v2), (0, v3), (0, v4), (0, v5), (9, 0), (9, 0)] [(0, x2), (0, 8), (47, 132)] s
abbrev P_X13_goesInto_255 (g : GT) (e : Nat) (Q : Int → Sg → Prop) (s : Sg) (v1 : Int) (v2 : Int) (v3 : Int) (v4 : Int) (v5 : Int) : Prop := Wp g (e + 1) M_X13_goesInto Q 255 [(21, 92), (0, v1), (0, v2), (0, v3), (0, v4), (0, v5), (9, 0), (9, 0)] [] s
set_option maxRecDepth 20000 in
theorem S_X13_goesInto_6 {g : GT} {e : Nat} {Q : Int → Sg → Prop} {s : Sg} {v1 : Int} {v2 : Int} {v3 : Int} {v4 : Int} {v5 : Int} (h : ((0 ≤ (w32 ((w32 (4 * (s 92 13))) + v3)) ∧ (w32 ((w32 (4 * (s 92 13))) + v3)) < 8) ∧ (((s 105 (w32 ((w32 (4 * (s 92 13))) + v3))) ≤ v5 → (Mw g e M_X13_tall [(21, 92), (0, v1), (0, v3), (0, v4)] s (fun r1 s2 => ((0 ≤ (w32 ((w32 (4 * (s2 92 13))) + v3)) ∧ (w32 ((w32 (4 * (s2 92 13))) + v3)) < 8) ∧ ((¬ r1 = (s2 106 (w32 ((w32 (4 * (s2 92 13))) + v3))) → (Mw g e M_X13_lies [(21, 92), (0, v1), (0, v3), (0, (w32 (v4 - 1))), (0, r1)] s2 (fun r3 s4 => (Mw g e M_X13_isFeud [(21, 92), (0, v1), (0, v2), (0, r3)] s4 (fun r5 s6 => ((¬ r5 = 0 → Q 0 s6) ∧ (r5 = 0 → (Mw g e M_X13_lies [(21, 92), (0, v1), (0, v3), (0, (w32 (v4 + 1))), (0, r1)] s6 (fun r7 s8 => (Mw g e M_X13_isFeud [(21, 92), (0, v1), (0, v2), (0, r7)] s8 (fun r9 s10 => ((r9 = 0 → (Mw g e M_X13_isTold [(21, 92), (0, 1)] s10 (fun r11 s12 => ((r11 = 0 → P_X13_goesInto_255 g e Q s12 v1 v2 v3 v4 r1) ∧ (¬ r11 = 0 → (Mw g e M_X13_lies [(21, 92), (0, v1), (0, v3), (0, v4), (0, (w32 (r1 - 1)))] s12 (fun r13 s14 => ((0 ≤ (w32 ((w32 (8 * v1)) + v2)) ∧ (w32 ((w32 (8 * v1)) + v2)) < 184) ∧ (Mw g e M_X13_age [(21, 92), (0, v1), (0, v2)] s14 (fun r15 s16 => (Mw g e M_X13_strong [(21, 92), (0, v1), (0, v2)] s16 (fun r17 s18 => ((0 ≤ v1 ∧ v1 < 23) ∧ (Mw g e M_X13_tells [(21, 92), (0, (s14 124 (w32 ((w32 (8 * v1)) + v2)))), (0, r15), (0, r17), (0, (s18 122 v1))] s18 (fun _ s20 => (∀ s21, s21 = ups s20 132 6 r1 → ((¬ r3 = (-1) → (Mw g e M_X13_strong [(21, 92), (0, v1), (0, r3)] s21 (fun r22 s23 => P_X13_goesInto_218 g e Q s23 v1 v2 v3 v4 r1 r13 r22))) ∧ (r3 = (-1) → P_X13_goesInto_218 g e Q s21 v1 v2 v3 v4 r1 r13 0)))))))))))))))))) ∧ (¬ r9 = 0 → Q 0 s10))))))))))))) ∧ (r1 = (s2 106 (w32 ((w32 (4 * (s2 92 13))) + v3))) → Q 0 s2)))))) ∧ (¬ (s 105 (w32 ((w32 (4 * (s 92 13))) + v3))) ≤ v5 → (Mw g e M_X13_tall [(21, 92), (0, v1), (0, v3), (0, v5)] s (fun r24 s25 => (Mw g e M_X13_tall [(21, 92), (0, v1), (0, v3), (0, v4)] s25 (fun r26 s27 => ((r26 ≤ r24 → P_X13_goesInto_6 g e Q s27 v1 v2 v3 v4 (w32 (v5 + 1))) ∧ (¬ r26 ≤ r24 → P_X13_goesInto_6 g e Q s27 v1 v2 v3 v5 (w32 (v5 + 1)))))))))))) : P_X13_goesInto_6 g e Q s v1 v2 v3 v4 v5 := by
  refine r_iload dX13_goesInto_6 rfl ?_
  refine r_aload_n dX13_goesInto_8 rfl rfl ?_
  refine gf_X13_87 rfl dX13_goesInto_9 ?_
  refine r_iconst dX13_goesInto_12 (by decide) ?_
  refine r_aload_n dX13_goesInto_13 rfl rfl ?_
  refine gf_X13_51 rfl dX13_goesInto_14 ?_
  refine r_imul dX13_goesInto_17 ?_
  refine r_iload_n dX13_goesInto_18 rfl ?_
  refine r_iadd dX13_goesInto_19 ?_
  obtain ⟨hb, h⟩ := h
  refine r_iald (n := 8) rfl (by decide) dX13_goesInto_20 hb ?_
  refine r_icmp_ge (tgt := 53) dX13_goesInto_21 (by decide) (fun hc => ?_) (fun hc => ?_)
  · have h := h.1 hc
    refine r_aload_n dX13_goesInto_53 rfl rfl ?_
    refine r_iload_n dX13_goesInto_54 rfl ?_
    refine r_iload_n dX13_goesInto_55 rfl ?_
    refine r_iload dX13_goesInto_56 rfl ?_
    refine r_callV (ci := 11) (As := [(0, v1), (0, v3), (0, v4)]) (st := []) (by decide) ok_X13_516 rfl rfl (Nat.le_of_ble_eq_true rfl) dX13_goesInto_58 h (fun r1 s2 hv h => ?_)
    refine r_istore (ls2 := [(21, 92), (0, v1), (0, v2), (0, v3), (0, v4), (0, r1), (9, 0), (9, 0)]) dX13_goesInto_61 (by decide) rfl ?_
    refine r_iload dX13_goesInto_63 rfl ?_
    refine r_aload_n dX13_goesInto_65 rfl rfl ?_
    refine gf_X13_90 rfl dX13_goesInto_66 ?_
    refine r_iconst dX13_goesInto_69 (by decide) ?_
    refine r_aload_n dX13_goesInto_70 rfl rfl ?_
    refine gf_X13_51 rfl dX13_goesInto_71 ?_
    refine r_imul dX13_goesInto_74 ?_
    refine r_iload_n dX13_goesInto_75 rfl ?_
    refine r_iadd dX13_goesInto_76 ?_
    obtain ⟨hb, h⟩ := h
    refine r_iald (n := 8) rfl (by decide) dX13_goesInto_77 hb ?_
    refine r_icmp_ne (tgt := 83) dX13_goesInto_78 (by decide) (fun hc => ?_) (fun hc => ?_)
    · have h := h.1 hc
      refine r_aload_n dX13_goesInto_83 rfl rfl ?_
      refine r_iload_n dX13_goesInto_84 rfl ?_
      refine r_iload_n dX13_goesInto_85 rfl ?_
      refine r_iload dX13_goesInto_86 rfl ?_
      refine r_iconst dX13_goesInto_88 (by decide) ?_
      refine r_isub dX13_goesInto_89 ?_
      refine r_iload dX13_goesInto_90 rfl ?_
      refine r_callV (ci := 11) (As := [(0, v1), (0, v3), (0, (w32 (v4 - 1))), (0, r1)]) (st := []) (by decide) ok_X13_534 rfl rfl (Nat.le_of_ble_eq_true rfl) dX13_goesInto_92 h (fun r3 s4 hv h => ?_)
      refine r_istore (ls2 := [(21, 92), (0, v1), (0, v2), (0, v3), (0, v4), (0, r1), (0, r3), (9, 0)]) dX13_goesInto_95 (by decide) rfl ?_
      refine r_aload_n dX13_goesInto_97 rfl rfl ?_
      refine r_iload_n dX13_goesInto_98 rfl ?_
      refine r_iload_n dX13_goesInto_99 rfl ?_
      refine r_iload dX13_goesInto_100 rfl ?_
      refine r_callV (ci := 11) (As := [(0, v1), (0, v2), (0, r3)]) (st := []) (by decide) ok_X13_547 rfl rfl (Nat.le_of_ble_eq_true rfl) dX13_goesInto_102 h (fun r5 s6 hv h => ?_)
      refine r_if_ne (tgt := 129) dX13_goesInto_105 (by decide) (fun hc => ?_) (fun hc => ?_)
      · have h := h.1 hc
        refine r_iconst dX13_goesInto_129 (by decide) ?_
        exact r_zret dX13_goesInto_130 rfl (by decide) h
      · have h := h.2 hc
        refine r_aload_n dX13_goesInto_108 rfl rfl ?_
        refine r_iload_n dX13_goesInto_109 rfl ?_
        refine r_iload_n dX13_goesInto_110 rfl ?_
        refine r_aload_n dX13_goesInto_111 rfl rfl ?_
        refine r_iload_n dX13_goesInto_112 rfl ?_
        refine r_iload_n dX13_goesInto_113 rfl ?_
        refine r_iload dX13_goesInto_114 rfl ?_
        refine r_iconst dX13_goesInto_116 (by decide) ?_
        refine r_iadd dX13_goesInto_117 ?_
        refine r_iload dX13_goesInto_118 rfl ?_
        refine r_callV (ci := 11) (As := [(0, v1), (0, v3), (0, (w32 (v4 + 1))), (0, r1)]) (st := [(0, v2), (0, v1), (21, 92)]) (by decide) ok_X13_534 rfl rfl (Nat.le_of_ble_eq_true rfl) dX13_goesInto_120 h (fun r7 s8 hv h => ?_)
        refine r_callV (ci := 11) (As := [(0, v1), (0, v2), (0, r7)]) (st := []) (by decide) ok_X13_547 rfl rfl (Nat.le_of_ble_eq_true rfl) dX13_goesInto_123 h (fun r9 s10 hv h => ?_)
        refine r_if_eq (tgt := 131) dX13_goesInto_126 (by decide) (fun hc => ?_) (fun hc => ?_)
        · have h := h.1 hc
          refine r_aload_n dX13_goesInto_131 rfl rfl ?_
          refine r_iconst dX13_goesInto_132 (by decide) ?_
          refine r_callV (ci := 11) (As := [(0, 1)]) (st := []) (by decide) ok_X13_484 rfl rfl (Nat.le_of_ble_eq_true rfl) dX13_goesInto_133 h (fun r11 s12 hv h => ?_)
          refine r_if_eq (tgt := 255) dX13_goesInto_136 (by decide) (fun hc => ?_) (fun hc => ?_)
          · have h := h.1 hc
            exact r_fgt [true, true, true, true, true, true, false, false] rfl h
          · have h := h.2 hc
            refine r_aload_n dX13_goesInto_139 rfl rfl ?_
            refine r_iload_n dX13_goesInto_140 rfl ?_
            refine r_iload_n dX13_goesInto_141 rfl ?_
            refine r_iload dX13_goesInto_142 rfl ?_
            refine r_iload dX13_goesInto_144 rfl ?_
            refine r_iconst dX13_goesInto_146 (by decide) ?_
            refine r_isub dX13_goesInto_147 ?_
            refine r_callV (ci := 11) (As := [(0, v1), (0, v3), (0, v4), (0, (w32 (r1 - 1)))]) (st := []) (by decide) ok_X13_534 rfl rfl (Nat.le_of_ble_eq_true rfl) dX13_goesInto_148 h (fun r13 s14 hv h => ?_)
            refine r_istore (ls2 := [(21, 92), (0, v1), (0, v2), (0, v3), (0, v4), (0, r1), (0, r3), (0, r13)]) dX13_goesInto_151 (by decide) rfl ?_
            refine r_aload_n dX13_goesInto_153 rfl rfl ?_
            refine r_aload_n dX13_goesInto_154 rfl rfl ?_
            refine gf_X13_168 rfl dX13_goesInto_155 ?_
            refine r_bipush dX13_goesInto_158 (by decide) rfl ?_
            refine r_iload_n dX13_goesInto_160 rfl ?_
            refine r_imul dX13_goesInto_161 ?_
            refine r_iload_n dX13_goesInto_162 rfl ?_
            refine r_iadd dX13_goesInto_163 ?_
            obtain ⟨hb, h⟩ := h
            refine r_iald (n := 184) rfl (by decide) dX13_goesInto_164 hb ?_
            refine r_aload_n dX13_goesInto_165 rfl rfl ?_
            refine r_iload_n dX13_goesInto_166 rfl ?_
            refine r_iload_n dX13_goesInto_167 rfl ?_
            refine r_callV (ci := 11) (As := [(0, v1), (0, v2)]) (st := [(0, (s14 124 (w32 ((w32 (8 * v1)) + v2)))), (21, 92)]) (by decide) ok_X13_498 rfl rfl (Nat.le_of_ble_eq_true rfl) dX13_goesInto_168 h (fun r15 s16 hv h => ?_)
            refine r_aload_n dX13_goesInto_171 rfl rfl ?_
            refine r_iload_n dX13_goesInto_172 rfl ?_
            refine r_iload_n dX13_goesInto_173 rfl ?_
            refine r_callV (ci := 11) (As := [(0, v1), (0, v2)]) (st := [(0, r15), (0, (s14 124 (w32 ((w32 (8 * v1)) + v2)))), (21, 92)]) (by decide) ok_X13_522 rfl rfl (Nat.le_of_ble_eq_true rfl) dX13_goesInto_174 h (fun r17 s18 hv h => ?_)
            refine r_aload_n dX13_goesInto_177 rfl rfl ?_
            refine gf_X13_162 rfl dX13_goesInto_178 ?_
            refine r_iload_n dX13_goesInto_181 rfl ?_
            obtain ⟨hb, h⟩ := h
            refine r_iald (n := 23) rfl (by decide) dX13_goesInto_182 hb ?_
            refine r_callV (ci := 11) (As := [(0, (s14 124 (w32 ((w32 (8 * v1)) + v2)))), (0, r15), (0, r17), (0, (s18 122 v1))]) (st := []) (by decide) ok_X13_480 rfl rfl (Nat.le_of_ble_eq_true rfl) dX13_goesInto_183 h (fun r19 s20 hv h => ?_)
            refine r_aload_n dX13_goesInto_186 rfl rfl ?_
            refine gf_X13_201 rfl dX13_goesInto_187 ?_
            refine r_bipush dX13_goesInto_190 (by decide) rfl ?_
            refine r_iload dX13_goesInto_192 rfl ?_
            refine r_iast (n := 12) rfl (by decide) dX13_goesInto_194 (by decide) ?_
            have h := h _ rfl
            generalize hs_s21 : ups s20 132 6 r1 = s21 at h ⊢
            refine r_aload_n dX13_goesInto_195 rfl rfl ?_
            refine gf_X13_201 rfl dX13_goesInto_196 ?_
            refine r_bipush dX13_goesInto_199 (by decide) rfl ?_
            refine r_iload dX13_goesInto_201 rfl ?_
            refine r_iconst dX13_goesInto_203 (by decide) ?_
            refine r_icmp_ne (tgt := 211) dX13_goesInto_204 (by decide) (fun hc => ?_) (fun hc => ?_)
            · have h := h.1 hc
              refine r_aload_n dX13_goesInto_211 rfl rfl ?_
              refine r_iload_n dX13_goesInto_212 rfl ?_
              refine r_iload dX13_goesInto_213 rfl ?_
              refine r_callV (ci := 11) (As := [(0, v1), (0, r3)]) (st := [(0, 7), (47, 132)]) (by decide) ok_X13_522 rfl rfl (Nat.le_of_ble_eq_true rfl) dX13_goesInto_215 h (fun r22 s23 hv h => ?_)
              exact r_fgt [true, true, true, true, true, true, false, true] rfl h
            · have h := h.2 hc
              refine r_iconst dX13_goesInto_207 (by decide) ?_
              refine r_goto (tgt := 218) dX13_goesInto_208 (by decide) ?_
              exact r_fgt [true, true, true, true, true, true, false, true] rfl h
        · have h := h.2 hc
          refine r_iconst dX13_goesInto_129 (by decide) ?_
          exact r_zret dX13_goesInto_130 rfl (by decide) h
    · have h := h.2 hc
      refine r_iconst dX13_goesInto_81 (by decide) ?_
      exact r_zret dX13_goesInto_82 rfl (by decide) h
  · have h := h.2 hc
    refine r_aload_n dX13_goesInto_24 rfl rfl ?_
    refine r_iload_n dX13_goesInto_25 rfl ?_
    refine r_iload_n dX13_goesInto_26 rfl ?_
    refine r_iload dX13_goesInto_27 rfl ?_
    refine r_callV (ci := 11) (As := [(0, v1), (0, v3), (0, v5)]) (st := []) (by decide) ok_X13_516 rfl rfl (Nat.le_of_ble_eq_true rfl) dX13_goesInto_29 h (fun r24 s25 hv h => ?_)
    refine r_aload_n dX13_goesInto_32 rfl rfl ?_
    refine r_iload_n dX13_goesInto_33 rfl ?_
    refine r_iload_n dX13_goesInto_34 rfl ?_
    refine r_iload dX13_goesInto_35 rfl ?_
    refine r_callV (ci := 11) (As := [(0, v1), (0, v3), (0, v4)]) (st := [(0, r24)]) (by decide) ok_X13_516 rfl rfl (Nat.le_of_ble_eq_true rfl) dX13_goesInto_37 h (fun r26 s27 hv h => ?_)
    refine r_icmp_ge (tgt := 47) dX13_goesInto_40 (by decide) (fun hc => ?_) (fun hc => ?_)
    · have h := h.1 hc
      refine r_iinc (ls2 := [(21, 92), (0, v1), (0, v2), (0, v3), (0, v4), (0, (w32 (v5 + 1))), (9, 0), (9, 0)]) dX13_goesInto_47 rfl (by decide) rfl ?_
      refine r_goto (tgt := 6) dX13_goesInto_50 (by decide) ?_
      exact h
    · have h := h.2 hc
      refine r_iload dX13_goesInto_43 rfl ?_
      refine r_istore (ls2 := [(21, 92), (0, v1), (0, v2), (0, v3), (0, v5), (0, v5), (9, 0), (9, 0)]) dX13_goesInto_45 (by decide) rfl ?_
      refine r_iinc (ls2 := [(21, 92), (0, v1), (0, v2), (0, v3), (0, v5), (0, (w32 (v5 + 1))), (9, 0), (9, 0)]) dX13_goesInto_47 rfl (by decide) rfl ?_
      refine r_goto (tgt := 6) dX13_goesInto_50 (by decide) ?_
      exact h
set_option maxRecDepth 20000 in
theorem S_X13_goesInto_218 {g : GT} {e : Nat} {Q : Int → Sg → Prop} {s : Sg} {v1 : Int} {v2 : Int} {v3 : Int} {v4 : Int} {v5 : Int} {v7 : Int} {x2 : Int} (h : (∀ s1, s1 = ups s 132 7 x2 → ((¬ v7 = (-1) → (Mw g e M_X13_strong [(21, 92), (0, v1), (0, v7)] s1 (fun r2 s3 => P_X13_goesInto_242 g e Q s3 v1 v2 v3 v4 v5 r2))) ∧ (v7 = (-1) → P_X13_goesInto_242 g e Q s1 v1 v2 v3 v4 v5 0)))) : P_X13_goesInto_218 g e Q s v1 v2 v3 v4 v5 v7 x2 := by
  refine r_iast (n := 12) rfl (by decide) dX13_goesInto_218 (by decide) ?_
  have h := h _ rfl
  generalize hs_s1 : ups s 132 7 x2 = s1 at h ⊢
  refine r_aload_n dX13_goesInto_219 rfl rfl ?_
  refine gf_X13_201 rfl dX13_goesInto_220 ?_
  refine r_bipush dX13_goesInto_223 (by decide) rfl ?_
  refine r_iload dX13_goesInto_225 rfl ?_
  refine r_iconst dX13_goesInto_227 (by decide) ?_
  refine r_icmp_ne (tgt := 235) dX13_goesInto_228 (by decide) (fun hc => ?_) (fun hc => ?_)
  · have h := h.1 hc
    refine r_aload_n dX13_goesInto_235 rfl rfl ?_
    refine r_iload_n dX13_goesInto_236 rfl ?_
    refine r_iload dX13_goesInto_237 rfl ?_
    refine r_callV (ci := 11) (As := [(0, v1), (0, v7)]) (st := [(0, 8), (47, 132)]) (by decide) ok_X13_522 rfl rfl (Nat.le_of_ble_eq_true rfl) dX13_goesInto_239 h (fun r2 s3 hv h => ?_)
    exact r_fgt [true, true, true, true, true, true, false, false] rfl h
  · have h := h.2 hc
    refine r_iconst dX13_goesInto_231 (by decide) ?_
    refine r_goto (tgt := 242) dX13_goesInto_232 (by decide) ?_
    exact r_fgt [true, true, true, true, true, true, false, false] rfl h
set_option maxRecDepth 20000 in
theorem S_X13_goesInto_242 {g : GT} {e : Nat} {Q : Int → Sg → Prop} {s : Sg} {v1 : Int} {v2 : Int} {v3 : Int} {v4 : Int} {v5 : Int} {x2 : Int} (h : (∀ s1, s1 = ups s 132 8 x2 → (Mw g e M_X13_reckons [(21, 92), (0, 1)] s1 (fun r2 s3 => ((¬ (lCmp r2 0) = 0 → P_X13_goesInto_255 g e Q s3 v1 v2 v3 v4 v5) ∧ ((lCmp r2 0) = 0 → Q 0 s3)))))) : P_X13_goesInto_242 g e Q s v1 v2 v3 v4 v5 x2 := by
  refine r_iast (n := 12) rfl (by decide) dX13_goesInto_242 (by decide) ?_
  have h := h _ rfl
  generalize hs_s1 : ups s 132 8 x2 = s1 at h ⊢
  refine r_aload_n dX13_goesInto_243 rfl rfl ?_
  refine r_iconst dX13_goesInto_244 (by decide) ?_
  refine r_callV (ci := 11) (As := [(0, 1)]) (st := []) (by decide) ok_X13_487 rfl rfl (Nat.le_of_ble_eq_true rfl) dX13_goesInto_245 h (fun r2 s3 hv h => ?_)
  refine r_lconst (v := 0) dX13_goesInto_248 rfl (by decide) ?_
  refine r_lcmp dX13_goesInto_249 ?_
  refine r_if_ne (tgt := 255) dX13_goesInto_250 (by decide) (fun hc => ?_) (fun hc => ?_)
  · have h := h.1 hc
    exact h
  · have h := h.2 hc
    refine r_iconst dX13_goesInto_253 (by decide) ?_
    exact r_zret dX13_goesInto_254 rfl (by decide) h
set_option maxRecDepth 20000 in
theorem S_X13_goesInto_255 {g : GT} {e : Nat} {Q : Int → Sg → Prop} {s : Sg} {v1 : Int} {v2 : Int} {v3 : Int} {v4 : Int} {v5 : Int} (h : ((0 ≤ (w32 ((w32 (8 * v1)) + v2)) ∧ (w32 ((w32 (8 * v1)) + v2)) < 184) ∧ ∀ s1, s1 = ups s 126 (w32 ((w32 (8 * v1)) + v2)) v3 → ((0 ≤ (w32 ((w32 (8 * v1)) + v2)) ∧ (w32 ((w32 (8 * v1)) + v2)) < 184) ∧ ∀ s2, s2 = ups s1 127 (w32 ((w32 (8 * v1)) + v2)) v4 → ((0 ≤ (w32 ((w32 (8 * v1)) + v2)) ∧ (w32 ((w32 (8 * v1)) + v2)) < 184) ∧ ∀ s3, s3 = ups s2 128 (w32 ((w32 (8 * v1)) + v2)) v5 → (Mw g e M_X13_allHold [(21, 92), (0, v1), (0, v3)] s3 (fun r4 s5 => ((r4 = 0 → ((0 ≤ (w32 ((w32 (8 * v1)) + v2)) ∧ (w32 ((w32 (8 * v1)) + v2)) < 184) ∧ ∀ s6, s6 = ups s5 126 (w32 ((w32 (8 * v1)) + v2)) (-1) → ((0 ≤ (w32 ((w32 (8 * v1)) + v2)) ∧ (w32 ((w32 (8 * v1)) + v2)) < 184) ∧ ∀ s7, s7 = ups s6 127 (w32 ((w32 (8 * v1)) + v2)) 0 → ((0 ≤ (w32 ((w32 (8 * v1)) + v2)) ∧ (w32 ((w32 (8 * v1)) + v2)) < 184) ∧ ∀ s8, s8 = ups s7 128 (w32 ((w32 (8 * v1)) + v2)) 0 → Q 0 s8)))) ∧ (¬ r4 = 0 → Q 1 s5)))))))) : P_X13_goesInto_255 g e Q s v1 v2 v3 v4 v5 := by
  refine r_aload_n dX13_goesInto_255 rfl rfl ?_
  refine gf_X13_174 rfl dX13_goesInto_256 ?_
  refine r_bipush dX13_goesInto_259 (by decide) rfl ?_
  refine r_iload_n dX13_goesInto_261 rfl ?_
  refine r_imul dX13_goesInto_262 ?_
  refine r_iload_n dX13_goesInto_263 rfl ?_
  refine r_iadd dX13_goesInto_264 ?_
  refine r_iload_n dX13_goesInto_265 rfl ?_
  obtain ⟨hb, h⟩ := h
  refine r_iast (n := 184) rfl (by decide) dX13_goesInto_266 hb ?_
  have h := h _ rfl
  generalize hs_s1 : ups s 126 (w32 ((w32 (8 * v1)) + v2)) v3 = s1 at h ⊢
  refine r_aload_n dX13_goesInto_267 rfl rfl ?_
  refine gf_X13_177 rfl dX13_goesInto_268 ?_
  refine r_bipush dX13_goesInto_271 (by decide) rfl ?_
  refine r_iload_n dX13_goesInto_273 rfl ?_
  refine r_imul dX13_goesInto_274 ?_
  refine r_iload_n dX13_goesInto_275 rfl ?_
  refine r_iadd dX13_goesInto_276 ?_
  refine r_iload dX13_goesInto_277 rfl ?_
  obtain ⟨hb, h⟩ := h
  refine r_iast (n := 184) rfl (by decide) dX13_goesInto_279 hb ?_
  have h := h _ rfl
  generalize hs_s2 : ups s1 127 (w32 ((w32 (8 * v1)) + v2)) v4 = s2 at h ⊢
  refine r_aload_n dX13_goesInto_280 rfl rfl ?_
  refine gf_X13_180 rfl dX13_goesInto_281 ?_
  refine r_bipush dX13_goesInto_284 (by decide) rfl ?_
  refine r_iload_n dX13_goesInto_286 rfl ?_
  refine r_imul dX13_goesInto_287 ?_
  refine r_iload_n dX13_goesInto_288 rfl ?_
  refine r_iadd dX13_goesInto_289 ?_
  refine r_iload dX13_goesInto_290 rfl ?_
  obtain ⟨hb, h⟩ := h
  refine r_iast (n := 184) rfl (by decide) dX13_goesInto_292 hb ?_
  have h := h _ rfl
  generalize hs_s3 : ups s2 128 (w32 ((w32 (8 * v1)) + v2)) v5 = s3 at h ⊢
  refine r_aload_n dX13_goesInto_293 rfl rfl ?_
  refine r_iload_n dX13_goesInto_294 rfl ?_
  refine r_iload_n dX13_goesInto_295 rfl ?_
  refine r_callV (ci := 11) (As := [(0, v1), (0, v3)]) (st := []) (by decide) ok_X13_550 rfl rfl (Nat.le_of_ble_eq_true rfl) dX13_goesInto_296 h (fun r4 s5 hv h => ?_)
  refine r_if_eq (tgt := 304) dX13_goesInto_299 (by decide) (fun hc => ?_) (fun hc => ?_)
  · have h := h.1 hc
    refine r_aload_n dX13_goesInto_304 rfl rfl ?_
    refine gf_X13_174 rfl dX13_goesInto_305 ?_
    refine r_bipush dX13_goesInto_308 (by decide) rfl ?_
    refine r_iload_n dX13_goesInto_310 rfl ?_
    refine r_imul dX13_goesInto_311 ?_
    refine r_iload_n dX13_goesInto_312 rfl ?_
    refine r_iadd dX13_goesInto_313 ?_
    refine r_iconst dX13_goesInto_314 (by decide) ?_
    obtain ⟨hb, h⟩ := h
    refine r_iast (n := 184) rfl (by decide) dX13_goesInto_315 hb ?_
    have h := h _ rfl
    generalize hs_s6 : ups s5 126 (w32 ((w32 (8 * v1)) + v2)) (-1) = s6 at h ⊢
    refine r_aload_n dX13_goesInto_316 rfl rfl ?_
    refine gf_X13_177 rfl dX13_goesInto_317 ?_
    refine r_bipush dX13_goesInto_320 (by decide) rfl ?_
    refine r_iload_n dX13_goesInto_322 rfl ?_
    refine r_imul dX13_goesInto_323 ?_
    refine r_iload_n dX13_goesInto_324 rfl ?_
    refine r_iadd dX13_goesInto_325 ?_
    refine r_iconst dX13_goesInto_326 (by decide) ?_
    obtain ⟨hb, h⟩ := h
    refine r_iast (n := 184) rfl (by decide) dX13_goesInto_327 hb ?_
    have h := h _ rfl
    generalize hs_s7 : ups s6 127 (w32 ((w32 (8 * v1)) + v2)) 0 = s7 at h ⊢
    refine r_aload_n dX13_goesInto_328 rfl rfl ?_
    refine gf_X13_180 rfl dX13_goesInto_329 ?_
    refine r_bipush dX13_goesInto_332 (by decide) rfl ?_
    refine r_iload_n dX13_goesInto_334 rfl ?_
    refine r_imul dX13_goesInto_335 ?_
    refine r_iload_n dX13_goesInto_336 rfl ?_
    refine r_iadd dX13_goesInto_337 ?_
    refine r_iconst dX13_goesInto_338 (by decide) ?_
    obtain ⟨hb, h⟩ := h
    refine r_iast (n := 184) rfl (by decide) dX13_goesInto_339 hb ?_
    have h := h _ rfl
    generalize hs_s8 : ups s7 128 (w32 ((w32 (8 * v1)) + v2)) 0 = s8 at h ⊢
    refine r_iconst dX13_goesInto_340 (by decide) ?_
    exact r_zret dX13_goesInto_341 rfl (by decide) h
  · have h := h.2 hc
    refine r_iconst dX13_goesInto_302 (by decide) ?_
    exact r_zret dX13_goesInto_303 rfl (by decide) h
set_option maxRecDepth 20000 in
theorem S_X13_goesInto {g : GT} {e : Nat} {Q : Int → Sg → Prop} {s : Sg} {v1 : Int} {v2 : Int} {v3 : Int} (h : inR v1 → inR v2 → inR v3 → P_X13_goesInto_6 g e Q s v1 v2 v3 0 1) : Mw g (e + 1) M_X13_goesInto [(21, 92), (0, v1), (0, v2), (0, v3)] s Q := by
  refine Mw.of (ls := [(21, 92), (0, v1), (0, v2), (0, v3), (9, 0), (9, 0), (9, 0), (9, 0)]) pn_X13_goesInto (Nat.le_of_ble_eq_true rfl) rfl (fun hv => ?_)
  have h := h (hv _ (List.Mem.tail _ (List.Mem.head _))) (hv _ (List.Mem.tail _ (List.Mem.tail _ (List.Mem.head _)))) (hv _ (List.Mem.tail _ (List.Mem.tail _ (List.Mem.tail _ (List.Mem.head _)))))
  refine r_iconst dX13_goesInto_0 (by decide) ?_
  refine r_istore (ls2 := [(21, 92), (0, v1), (0, v2), (0, v3), (0, 0), (9, 0), (9, 0), (9, 0)]) dX13_goesInto_1 (by decide) rfl ?_
  refine r_iconst dX13_goesInto_3 (by decide) ?_
  refine r_istore (ls2 := [(21, 92), (0, v1), (0, v2), (0, v3), (0, 0), (0, 1), (9, 0), (9, 0)]) dX13_goesInto_4 (by decide) rfl ?_
  exact h
abbrev P_X13_isBuilt_2 (g : GT) (e : Nat) (Q : Int → Sg → Prop) (s : Sg) (v1 : Int) (v2 : Int) (v3 : Int) : Prop := Wp g (e + 1) M_X13_isBuilt Q 2 [(21, 92), (0, v1), (0, v2), (0, v3)] [] s
set_option maxRecDepth 20000 in
theorem S_X13_isBuilt_2 {g : GT} {e : Nat} {Q : Int → Sg → Prop} {s : Sg} {v1 : Int} {v2 : Int} {v3 : Int} (h : ((0 ≤ (s 92 13) ∧ (s 92 13) < 2) ∧ (((s 104 (s 92 13)) ≤ v3 → Q 0 s) ∧ (¬ (s 104 (s 92 13)) ≤ v3 → (Mw g e M_X13_goesInto [(21, 92), (0, v1), (0, v2), (0, v3)] s (fun r1 s2 => ((¬ r1 = 0 → (Mw g e M_X13_writesDown [(21, 92), (0, v1), (0, v2), (0, v3), (0, 1)] s2 (fun _ s4 => Q 1 s4))) ∧ (r1 = 0 → P_X13_isBuilt_2 g e Q s2 v1 v2 (w32 (v3 + 1)))))))))) : P_X13_isBuilt_2 g e Q s v1 v2 v3 := by
  refine r_iload_n dX13_isBuilt_2 rfl ?_
  refine r_aload_n dX13_isBuilt_3 rfl rfl ?_
  refine gf_X13_84 rfl dX13_isBuilt_4 ?_
  refine r_aload_n dX13_isBuilt_7 rfl rfl ?_
  refine gf_X13_51 rfl dX13_isBuilt_8 ?_
  obtain ⟨hb, h⟩ := h
  refine r_iald (n := 2) rfl (by decide) dX13_isBuilt_11 hb ?_
  refine r_icmp_ge (tgt := 44) dX13_isBuilt_12 (by decide) (fun hc => ?_) (fun hc => ?_)
  · have h := h.1 hc
    refine r_iconst dX13_isBuilt_44 (by decide) ?_
    exact r_zret dX13_isBuilt_45 rfl (by decide) h
  · have h := h.2 hc
    refine r_aload_n dX13_isBuilt_15 rfl rfl ?_
    refine r_iload_n dX13_isBuilt_16 rfl ?_
    refine r_iload_n dX13_isBuilt_17 rfl ?_
    refine r_iload_n dX13_isBuilt_18 rfl ?_
    refine r_callV (ci := 11) (As := [(0, v1), (0, v2), (0, v3)]) (st := []) (by decide) ok_X13_553 rfl rfl (Nat.le_of_ble_eq_true rfl) dX13_isBuilt_19 h (fun r1 s2 hv h => ?_)
    refine r_if_ne (tgt := 28) dX13_isBuilt_22 (by decide) (fun hc => ?_) (fun hc => ?_)
    · have h := h.1 hc
      refine r_aload_n dX13_isBuilt_28 rfl rfl ?_
      refine r_iload_n dX13_isBuilt_29 rfl ?_
      refine r_iload_n dX13_isBuilt_30 rfl ?_
      refine r_iload_n dX13_isBuilt_31 rfl ?_
      refine r_iconst dX13_isBuilt_32 (by decide) ?_
      refine r_callV (ci := 11) (As := [(0, v1), (0, v2), (0, v3), (0, 1)]) (st := []) (by decide) ok_X13_538 rfl rfl (Nat.le_of_ble_eq_true rfl) dX13_isBuilt_33 h (fun r3 s4 hv h => ?_)
      refine r_iconst dX13_isBuilt_36 (by decide) ?_
      exact r_zret dX13_isBuilt_37 rfl (by decide) h
    · have h := h.2 hc
      refine r_goto (tgt := 38) dX13_isBuilt_25 (by decide) ?_
      refine r_iinc (ls2 := [(21, 92), (0, v1), (0, v2), (0, (w32 (v3 + 1)))]) dX13_isBuilt_38 rfl (by decide) rfl ?_
      refine r_goto (tgt := 2) dX13_isBuilt_41 (by decide) ?_
      exact h
set_option maxRecDepth 20000 in
theorem S_X13_isBuilt {g : GT} {e : Nat} {Q : Int → Sg → Prop} {s : Sg} {v1 : Int} {v2 : Int} (h : inR v1 → inR v2 → P_X13_isBuilt_2 g e Q s v1 v2 0) : Mw g (e + 1) M_X13_isBuilt [(21, 92), (0, v1), (0, v2)] s Q := by
  refine Mw.of (ls := [(21, 92), (0, v1), (0, v2), (9, 0)]) pn_X13_isBuilt (Nat.le_of_ble_eq_true rfl) rfl (fun hv => ?_)
  have h := h (hv _ (List.Mem.tail _ (List.Mem.head _))) (hv _ (List.Mem.tail _ (List.Mem.tail _ (List.Mem.head _))))
  refine r_iconst dX13_isBuilt_0 (by decide) ?_
  refine r_istore_n (ls2 := [(21, 92), (0, v1), (0, v2), (0, 0)]) dX13_isBuilt_1 (by decide) rfl ?_
  exact h
abbrev P_X13_bits_4 (g : GT) (e : Nat) (Q : Int → Sg → Prop) (s : Sg) (v1 : Int) (v2 : Int) : Prop := Wp g (e + 1) M_X13_bits Q 4 [(9, 0), (0, v1), (0, v2)] [] s
set_option maxRecDepth 20000 in
theorem S_X13_bits_4 {g : GT} {e : Nat} {Q : Int → Sg → Prop} {s : Sg} {v1 : Int} {v2 : Int} (h : ((v2 = 0 → Q v1 s) ∧ (¬ v2 = 0 → P_X13_bits_4 g e Q s (w32 (v1 + 1)) (bAnd v2 (w32 (v2 - 1)))))) : P_X13_bits_4 g e Q s v1 v2 := by
  refine r_iload_n dX13_bits_4 rfl ?_
  refine r_if_eq (tgt := 20) dX13_bits_5 (by decide) (fun hc => ?_) (fun hc => ?_)
  · have h := h.1 hc
    refine r_iload_n dX13_bits_20 rfl ?_
    exact r_iret dX13_bits_21 rfl h
  · have h := h.2 hc
    refine r_iinc (ls2 := [(9, 0), (0, (w32 (v1 + 1))), (0, v2)]) dX13_bits_8 rfl (by decide) rfl ?_
    refine r_iload_n dX13_bits_11 rfl ?_
    refine r_iload_n dX13_bits_12 rfl ?_
    refine r_iconst dX13_bits_13 (by decide) ?_
    refine r_isub dX13_bits_14 ?_
    refine r_iand dX13_bits_15 ?_
    refine r_istore_n (ls2 := [(9, 0), (0, (w32 (v1 + 1))), (0, (bAnd v2 (w32 (v2 - 1))))]) dX13_bits_16 (by decide) rfl ?_
    refine r_goto (tgt := 4) dX13_bits_17 (by decide) ?_
    exact h
set_option maxRecDepth 20000 in
theorem S_X13_bits {g : GT} {e : Nat} {Q : Int → Sg → Prop} {s : Sg} {v0 : Int} (h : inR v0 → P_X13_bits_4 g e Q s 0 v0) : Mw g (e + 1) M_X13_bits [(0, v0)] s Q := by
  refine Mw.of (ls := [(0, v0), (9, 0), (9, 0)]) pn_X13_bits (Nat.le_of_ble_eq_true rfl) rfl (fun hv => ?_)
  have h := h (hv _ (List.Mem.head _))
  refine r_iconst dX13_bits_0 (by decide) ?_
  refine r_istore_n (ls2 := [(0, v0), (0, 0), (9, 0)]) dX13_bits_1 (by decide) rfl ?_
  refine r_iload_n dX13_bits_2 rfl ?_
  refine r_istore_n (ls2 := [(0, v0), (0, 0), (0, v0)]) dX13_bits_3 (by decide) rfl ?_
  exact r_fgt [false, true, true] rfl h
abbrev P_X13_freezes_2 (g : GT) (e : Nat) (Q : Int → Sg → Prop) (s : Sg) (v1 : Int) (v2 : Int) : Prop := Wp g (e + 1) M_X13_freezes Q 2 [(21, 92), (0, v1), (0, v2), (9, 0)] [] s
set_option maxRecDepth 20000 in
theorem S_X13_freezes_2 {g : GT} {e : Nat} {Q : Int → Sg → Prop} {s : Sg} {v1 : Int} {v2 : Int} (h : ((0 ≤ (s 92 13) ∧ (s 92 13) < 2) ∧ (((s 97 (s 92 13)) ≤ v2 → Q 0 s) ∧ (¬ (s 97 (s 92 13)) ≤ v2 → ((0 ≤ (w32 ((w32 (8 * v1)) + v2)) ∧ (w32 ((w32 (8 * v1)) + v2)) < 184) ∧ (((s 126 (w32 ((w32 (8 * v1)) + v2))) = (-1) → P_X13_freezes_2 g e Q s v1 (w32 (v2 + 1))) ∧ (¬ (s 126 (w32 ((w32 (8 * v1)) + v2))) = (-1) → ((0 ≤ (w32 ((w32 (8 * v1)) + v2)) ∧ (w32 ((w32 (8 * v1)) + v2)) < 184) ∧ (Mw g e M_X13_toldOf [(21, 92), (0, 4)] s (fun r1 s2 => (((s 125 (w32 ((w32 (8 * v1)) + v2))) ≤ r1 → ((0 ≤ (w32 ((w32 (8 * v1)) + v2)) ∧ (w32 ((w32 (8 * v1)) + v2)) < 184) ∧ ∀ s3, s3 = ups s2 125 (w32 ((w32 (8 * v1)) + v2)) 0 → P_X13_freezes_2 g e Q s3 v1 (w32 (v2 + 1)))) ∧ (¬ (s 125 (w32 ((w32 (8 * v1)) + v2))) ≤ r1 → ((0 ≤ (w32 ((w32 (8 * v1)) + v2)) ∧ (w32 ((w32 (8 * v1)) + v2)) < 184) ∧ (Mw g e M_X13_toldOf [(21, 92), (0, 4)] s2 (fun r4 s5 => ((0 ≤ (w32 ((w32 (8 * v1)) + v2)) ∧ (w32 ((w32 (8 * v1)) + v2)) < 184) ∧ ∀ s6, s6 = ups s5 125 (w32 ((w32 (8 * v1)) + v2)) (w32 ((s2 125 (w32 ((w32 (8 * v1)) + v2))) - r4)) → P_X13_freezes_2 g e Q s6 v1 (w32 (v2 + 1)))))))))))))))))) : P_X13_freezes_2 g e Q s v1 v2 := by
  refine r_iload_n dX13_freezes_2 rfl ?_
  refine r_aload_n dX13_freezes_3 rfl rfl ?_
  refine gf_X13_63 rfl dX13_freezes_4 ?_
  refine r_aload_n dX13_freezes_7 rfl rfl ?_
  refine gf_X13_51 rfl dX13_freezes_8 ?_
  obtain ⟨hb, h⟩ := h
  refine r_iald (n := 2) rfl (by decide) dX13_freezes_11 hb ?_
  refine r_icmp_ge (tgt := 74) dX13_freezes_12 (by decide) (fun hc => ?_) (fun hc => ?_)
  · have h := h.1 hc
    exact r_ret dX13_freezes_74 rfl h
  · have h := h.2 hc
    refine r_bipush dX13_freezes_15 (by decide) rfl ?_
    refine r_iload_n dX13_freezes_17 rfl ?_
    refine r_imul dX13_freezes_18 ?_
    refine r_iload_n dX13_freezes_19 rfl ?_
    refine r_iadd dX13_freezes_20 ?_
    refine r_istore_n (ls2 := [(21, 92), (0, v1), (0, v2), (0, (w32 ((w32 (8 * v1)) + v2)))]) dX13_freezes_21 (by decide) rfl ?_
    refine r_aload_n dX13_freezes_22 rfl rfl ?_
    refine gf_X13_174 rfl dX13_freezes_23 ?_
    refine r_iload_n dX13_freezes_26 rfl ?_
    obtain ⟨hb, h⟩ := h
    refine r_iald (n := 184) rfl (by decide) dX13_freezes_27 hb ?_
    refine r_iconst dX13_freezes_28 (by decide) ?_
    refine r_icmp_eq (tgt := 68) dX13_freezes_29 (by decide) (fun hc => ?_) (fun hc => ?_)
    · have h := h.1 hc
      refine r_iinc (ls2 := [(21, 92), (0, v1), (0, (w32 (v2 + 1))), (0, (w32 ((w32 (8 * v1)) + v2)))]) dX13_freezes_68 rfl (by decide) rfl ?_
      refine r_goto (tgt := 2) dX13_freezes_71 (by decide) ?_
      exact r_fgt [true, true, true, false] rfl h
    · have h := h.2 hc
      refine r_aload_n dX13_freezes_32 rfl rfl ?_
      refine gf_X13_171 rfl dX13_freezes_33 ?_
      refine r_iload_n dX13_freezes_36 rfl ?_
      refine r_aload_n dX13_freezes_37 rfl rfl ?_
      refine gf_X13_171 rfl dX13_freezes_38 ?_
      refine r_iload_n dX13_freezes_41 rfl ?_
      obtain ⟨hb, h⟩ := h
      refine r_iald (n := 184) rfl (by decide) dX13_freezes_42 hb ?_
      refine r_aload_n dX13_freezes_43 rfl rfl ?_
      refine r_iconst dX13_freezes_44 (by decide) ?_
      refine r_callV (ci := 11) (As := [(0, 4)]) (st := [(0, (s 125 (w32 ((w32 (8 * v1)) + v2)))), (0, (w32 ((w32 (8 * v1)) + v2))), (56, 125)]) (by decide) ok_X13_501 rfl rfl (Nat.le_of_ble_eq_true rfl) dX13_freezes_45 h (fun r1 s2 hv h => ?_)
      refine r_icmp_le (tgt := 66) dX13_freezes_48 (by decide) (fun hc => ?_) (fun hc => ?_)
      · have h := h.1 hc
        refine r_iconst dX13_freezes_66 (by decide) ?_
        obtain ⟨hb, h⟩ := h
        refine r_iast (n := 184) rfl (by decide) dX13_freezes_67 hb ?_
        have h := h _ rfl
        generalize hs_s3 : ups s2 125 (w32 ((w32 (8 * v1)) + v2)) 0 = s3 at h ⊢
        refine r_iinc (ls2 := [(21, 92), (0, v1), (0, (w32 (v2 + 1))), (0, (w32 ((w32 (8 * v1)) + v2)))]) dX13_freezes_68 rfl (by decide) rfl ?_
        refine r_goto (tgt := 2) dX13_freezes_71 (by decide) ?_
        exact r_fgt [true, true, true, false] rfl h
      · have h := h.2 hc
        refine r_aload_n dX13_freezes_51 rfl rfl ?_
        refine gf_X13_171 rfl dX13_freezes_52 ?_
        refine r_iload_n dX13_freezes_55 rfl ?_
        obtain ⟨hb, h⟩ := h
        refine r_iald (n := 184) rfl (by decide) dX13_freezes_56 hb ?_
        refine r_aload_n dX13_freezes_57 rfl rfl ?_
        refine r_iconst dX13_freezes_58 (by decide) ?_
        refine r_callV (ci := 11) (As := [(0, 4)]) (st := [(0, (s2 125 (w32 ((w32 (8 * v1)) + v2)))), (0, (w32 ((w32 (8 * v1)) + v2))), (56, 125)]) (by decide) ok_X13_501 rfl rfl (Nat.le_of_ble_eq_true rfl) dX13_freezes_59 h (fun r4 s5 hv h => ?_)
        refine r_isub dX13_freezes_62 ?_
        refine r_goto (tgt := 67) dX13_freezes_63 (by decide) ?_
        obtain ⟨hb, h⟩ := h
        refine r_iast (n := 184) rfl (by decide) dX13_freezes_67 hb ?_
        have h := h _ rfl
        generalize hs_s6 : ups s5 125 (w32 ((w32 (8 * v1)) + v2)) (w32 ((s2 125 (w32 ((w32 (8 * v1)) + v2))) - r4)) = s6 at h ⊢
        refine r_iinc (ls2 := [(21, 92), (0, v1), (0, (w32 (v2 + 1))), (0, (w32 ((w32 (8 * v1)) + v2)))]) dX13_freezes_68 rfl (by decide) rfl ?_
        refine r_goto (tgt := 2) dX13_freezes_71 (by decide) ?_
        exact r_fgt [true, true, true, false] rfl h
set_option maxRecDepth 20000 in
theorem S_X13_freezes {g : GT} {e : Nat} {Q : Int → Sg → Prop} {s : Sg} {v1 : Int} (h : inR v1 → P_X13_freezes_2 g e Q s v1 0) : Mw g (e + 1) M_X13_freezes [(21, 92), (0, v1)] s Q := by
  refine Mw.of (ls := [(21, 92), (0, v1), (9, 0), (9, 0)]) pn_X13_freezes (Nat.le_of_ble_eq_true rfl) rfl (fun hv => ?_)
  have h := h (hv _ (List.Mem.tail _ (List.Mem.head _)))
  refine r_iconst dX13_freezes_0 (by decide) ?_
  refine r_istore_n (ls2 := [(21, 92), (0, v1), (0, 0), (9, 0)]) dX13_freezes_1 (by decide) rfl ?_
  exact h
abbrev P_X13_passes_2 (g : GT) (e : Nat) (Q : Int → Sg → Prop) (s : Sg) (v1 : Int) (v2 : Int) (v3 : Int) : Prop := Wp g (e + 1) M_X13_passes Q 2 [(21, 92), (0, v1), (0, v2), (0, v3), (9, 0)] [] s
abbrev P_X13_passes_93 (g : GT) (e : Nat) (Q : Int → Sg → Prop) (s : Sg) (v1 : Int) : Prop := Wp g (e + 1) M_X13_passes Q 93 [(21, 92), (0, v1), (9, 0), (9, 0), (9, 0)] [] s
abbrev P_X13_passes_115 (g : GT) (e : Nat) (Q : Int → Sg → Prop) (s : Sg) (v1 : Int) (v3 : Int) (v4 : Int) : Prop := Wp g (e + 1) M_X13_passes Q 115 [(21, 92), (0, v1), (9, 0), (0, v3), (0, v4)] [] s
set_option maxRecDepth 20000 in
theorem S_X13_passes_2 {g : GT} {e : Nat} {Q : Int → Sg → Prop} {s : Sg} {v1 : Int} {v2 : Int} {v3 : Int} (h : ((0 ≤ (s 92 13) ∧ (s 92 13) < 2) ∧ (((s 97 (s 92 13)) ≤ v3 → ((0 ≤ v1 ∧ v1 < 23) ∧ ((0 ≤ v1 ∧ v1 < 23) ∧ ∀ s1, s1 = ups s 122 v1 (w32 ((s 122 v1) + 1)) → ((v2 = 0 → P_X13_passes_93 g e Q s1 v1) ∧ (¬ v2 = 0 → (Mw g e M_X13_freezes [(21, 92), (0, v1)] s1 (fun _ s3 => P_X13_passes_93 g e Q s3 v1))))))) ∧ (¬ (s 97 (s 92 13)) ≤ v3 → (Mw g e M_X13_isRaised [(21, 92), (0, v1), (0, v3)] s (fun r4 s5 => ((r4 = 0 → P_X13_passes_2 g e Q s5 v1 v2 (w32 (v3 + 1))) ∧ (¬ r4 = 0 → ((0 ≤ (w32 ((w32 (8 * v1)) + v3)) ∧ (w32 ((w32 (8 * v1)) + v3)) < 184) ∧ (Mw g e M_X13_age [(21, 92), (0, v1), (0, v3)] s5 (fun r6 s7 => (Mw g e M_X13_strong [(21, 92), (0, v1), (0, v3)] s7 (fun r8 s9 => ((0 ≤ v1 ∧ v1 < 23) ∧ (Mw g e M_X13_raised [(21, 92), (0, (s5 124 (w32 ((w32 (8 * v1)) + v3)))), (0, r6), (0, r8), (0, (s9 122 v1))] s9 (fun r10 s11 => ((0 ≤ (w32 ((w32 (8 * v1)) + v3)) ∧ (w32 ((w32 (8 * v1)) + v3)) < 184) ∧ ∀ s12, s12 = ups s11 125 (w32 ((w32 (8 * v1)) + v3)) r10 → P_X13_passes_2 g e Q s12 v1 v2 (w32 (v3 + 1))))))))))))))))))) : P_X13_passes_2 g e Q s v1 v2 v3 := by
  refine r_iload_n dX13_passes_2 rfl ?_
  refine r_aload_n dX13_passes_3 rfl rfl ?_
  refine gf_X13_63 rfl dX13_passes_4 ?_
  refine r_aload_n dX13_passes_7 rfl rfl ?_
  refine gf_X13_51 rfl dX13_passes_8 ?_
  obtain ⟨hb, h⟩ := h
  refine r_iald (n := 2) rfl (by decide) dX13_passes_11 hb ?_
  refine r_icmp_ge (tgt := 74) dX13_passes_12 (by decide) (fun hc => ?_) (fun hc => ?_)
  · have h := h.1 hc
    refine r_aload_n dX13_passes_74 rfl rfl ?_
    refine gf_X13_162 rfl dX13_passes_75 ?_
    refine r_iload_n dX13_passes_78 rfl ?_
    refine r_dup2 dX13_passes_79 (show (0 : Nat) ≠ 2 by decide) (show (55 : Nat) ≠ 2 by decide) ?_
    obtain ⟨hb, h⟩ := h
    refine r_iald (n := 23) rfl (by decide) dX13_passes_80 hb ?_
    refine r_iconst dX13_passes_81 (by decide) ?_
    refine r_iadd dX13_passes_82 ?_
    obtain ⟨hb, h⟩ := h
    refine r_iast (n := 23) rfl (by decide) dX13_passes_83 hb ?_
    have h := h _ rfl
    generalize hs_s1 : ups s 122 v1 (w32 ((s 122 v1) + 1)) = s1 at h ⊢
    refine r_iload_n dX13_passes_84 rfl ?_
    refine r_if_eq (tgt := 93) dX13_passes_85 (by decide) (fun hc => ?_) (fun hc => ?_)
    · have h := h.1 hc
      exact r_fgt [true, true, false, false, false] rfl h
    · have h := h.2 hc
      refine r_aload_n dX13_passes_88 rfl rfl ?_
      refine r_iload_n dX13_passes_89 rfl ?_
      refine r_callV (ci := 11) (As := [(0, v1)]) (st := []) (by decide) ok_X13_562 rfl rfl (Nat.le_of_ble_eq_true rfl) dX13_passes_90 h (fun r2 s3 hv h => ?_)
      exact r_fgt [true, true, false, false, false] rfl h
  · have h := h.2 hc
    refine r_aload_n dX13_passes_15 rfl rfl ?_
    refine r_iload_n dX13_passes_16 rfl ?_
    refine r_iload_n dX13_passes_17 rfl ?_
    refine r_callV (ci := 11) (As := [(0, v1), (0, v3)]) (st := []) (by decide) ok_X13_556 rfl rfl (Nat.le_of_ble_eq_true rfl) dX13_passes_18 h (fun r4 s5 hv h => ?_)
    refine r_if_eq (tgt := 68) dX13_passes_21 (by decide) (fun hc => ?_) (fun hc => ?_)
    · have h := h.1 hc
      refine r_iinc (ls2 := [(21, 92), (0, v1), (0, v2), (0, (w32 (v3 + 1))), (9, 0)]) dX13_passes_68 rfl (by decide) rfl ?_
      refine r_goto (tgt := 2) dX13_passes_71 (by decide) ?_
      exact h
    · have h := h.2 hc
      refine r_aload_n dX13_passes_24 rfl rfl ?_
      refine gf_X13_171 rfl dX13_passes_25 ?_
      refine r_bipush dX13_passes_28 (by decide) rfl ?_
      refine r_iload_n dX13_passes_30 rfl ?_
      refine r_imul dX13_passes_31 ?_
      refine r_iload_n dX13_passes_32 rfl ?_
      refine r_iadd dX13_passes_33 ?_
      refine r_aload_n dX13_passes_34 rfl rfl ?_
      refine r_aload_n dX13_passes_35 rfl rfl ?_
      refine gf_X13_168 rfl dX13_passes_36 ?_
      refine r_bipush dX13_passes_39 (by decide) rfl ?_
      refine r_iload_n dX13_passes_41 rfl ?_
      refine r_imul dX13_passes_42 ?_
      refine r_iload_n dX13_passes_43 rfl ?_
      refine r_iadd dX13_passes_44 ?_
      obtain ⟨hb, h⟩ := h
      refine r_iald (n := 184) rfl (by decide) dX13_passes_45 hb ?_
      refine r_aload_n dX13_passes_46 rfl rfl ?_
      refine r_iload_n dX13_passes_47 rfl ?_
      refine r_iload_n dX13_passes_48 rfl ?_
      refine r_callV (ci := 11) (As := [(0, v1), (0, v3)]) (st := [(0, (s5 124 (w32 ((w32 (8 * v1)) + v3)))), (21, 92), (0, (w32 ((w32 (8 * v1)) + v3))), (56, 125)]) (by decide) ok_X13_498 rfl rfl (Nat.le_of_ble_eq_true rfl) dX13_passes_49 h (fun r6 s7 hv h => ?_)
      refine r_aload_n dX13_passes_52 rfl rfl ?_
      refine r_iload_n dX13_passes_53 rfl ?_
      refine r_iload_n dX13_passes_54 rfl ?_
      refine r_callV (ci := 11) (As := [(0, v1), (0, v3)]) (st := [(0, r6), (0, (s5 124 (w32 ((w32 (8 * v1)) + v3)))), (21, 92), (0, (w32 ((w32 (8 * v1)) + v3))), (56, 125)]) (by decide) ok_X13_522 rfl rfl (Nat.le_of_ble_eq_true rfl) dX13_passes_55 h (fun r8 s9 hv h => ?_)
      refine r_aload_n dX13_passes_58 rfl rfl ?_
      refine gf_X13_162 rfl dX13_passes_59 ?_
      refine r_iload_n dX13_passes_62 rfl ?_
      obtain ⟨hb, h⟩ := h
      refine r_iald (n := 23) rfl (by decide) dX13_passes_63 hb ?_
      refine r_callV (ci := 11) (As := [(0, (s5 124 (w32 ((w32 (8 * v1)) + v3)))), (0, r6), (0, r8), (0, (s9 122 v1))]) (st := [(0, (w32 ((w32 (8 * v1)) + v3))), (56, 125)]) (by decide) ok_X13_559 rfl rfl (Nat.le_of_ble_eq_true rfl) dX13_passes_64 h (fun r10 s11 hv h => ?_)
      obtain ⟨hb, h⟩ := h
      refine r_iast (n := 184) rfl (by decide) dX13_passes_67 hb ?_
      have h := h _ rfl
      generalize hs_s12 : ups s11 125 (w32 ((w32 (8 * v1)) + v3)) r10 = s12 at h ⊢
      refine r_iinc (ls2 := [(21, 92), (0, v1), (0, v2), (0, (w32 (v3 + 1))), (9, 0)]) dX13_passes_68 rfl (by decide) rfl ?_
      refine r_goto (tgt := 2) dX13_passes_71 (by decide) ?_
      exact h
set_option maxRecDepth 20000 in
theorem S_X13_passes_93 {g : GT} {e : Nat} {Q : Int → Sg → Prop} {s : Sg} {v1 : Int} (h : (Mw g e M_X13_falls [(21, 92), (0, v1)] s (fun r1 s2 => (Mw g e M_X13_bits [(0, r1)] s2 (fun r3 s4 => (∀ s5, s5 = ups s4 92 64 r3 → (∀ s6, s6 = ups s5 92 63 0 → P_X13_passes_115 g e Q s6 v1 r1 0))))))) : P_X13_passes_93 g e Q s v1 := by
  refine r_aload_n dX13_passes_93 rfl rfl ?_
  refine r_iload_n dX13_passes_94 rfl ?_
  refine r_callV (ci := 11) (As := [(0, v1)]) (st := []) (by decide) ok_X13_565 rfl rfl (Nat.le_of_ble_eq_true rfl) dX13_passes_95 h (fun r1 s2 hv h => ?_)
  refine r_istore_n (ls2 := [(21, 92), (0, v1), (9, 0), (0, r1), (9, 0)]) dX13_passes_98 (by decide) rfl ?_
  refine r_aload_n dX13_passes_99 rfl rfl ?_
  refine r_iload_n dX13_passes_100 rfl ?_
  refine r_callS (As := [(0, r1)]) (st := [(21, 92)]) ok_X13_568 rfl rfl (Nat.le_of_ble_eq_true rfl) dX13_passes_101 h (fun r3 s4 hv h => ?_)
  refine pf_X13_207 rfl dX13_passes_104 ?_
  have h := h _ rfl
  generalize hs_s5 : ups s4 92 64 r3 = s5 at h ⊢
  refine r_aload_n dX13_passes_107 rfl rfl ?_
  refine r_iconst dX13_passes_108 (by decide) ?_
  refine pf_X13_204 rfl dX13_passes_109 ?_
  have h := h _ rfl
  generalize hs_s6 : ups s5 92 63 0 = s6 at h ⊢
  refine r_iconst dX13_passes_112 (by decide) ?_
  refine r_istore (ls2 := [(21, 92), (0, v1), (9, 0), (0, r1), (0, 0)]) dX13_passes_113 (by decide) rfl ?_
  exact h
set_option maxRecDepth 20000 in
theorem S_X13_passes_115 {g : GT} {e : Nat} {Q : Int → Sg → Prop} {s : Sg} {v1 : Int} {v3 : Int} {v4 : Int} (h : ((0 ≤ (s 92 13) ∧ (s 92 13) < 2) ∧ (((s 97 (s 92 13)) ≤ v4 → Q 0 s) ∧ (¬ (s 97 (s 92 13)) ≤ v4 → (Mw g e M_X13_isOnShelf [(21, 92), (0, v1), (0, v4)] s (fun r1 s2 => ((r1 = 0 → P_X13_passes_115 g e Q s2 v1 v3 (w32 (v4 + 1))) ∧ (¬ r1 = 0 → (Mw g e M_X13_has2 [(0, v3), (0, v4)] s2 (fun r3 s4 => ((¬ r3 = 0 → P_X13_passes_115 g e Q s4 v1 v3 (w32 (v4 + 1))) ∧ (r3 = 0 → (Mw g e M_X13_isBuilt [(21, 92), (0, v1), (0, v4)] s4 (fun r5 s6 => ((r5 = 0 → (∀ s7, s7 = ups s6 92 63 (w32 ((s4 92 63) + 0)) → P_X13_passes_115 g e Q s7 v1 v3 (w32 (v4 + 1)))) ∧ (¬ r5 = 0 → (∀ s8, s8 = ups s6 92 63 (w32 ((s4 92 63) + 1)) → P_X13_passes_115 g e Q s8 v1 v3 (w32 (v4 + 1))))))))))))))))))) : P_X13_passes_115 g e Q s v1 v3 v4 := by
  refine r_iload dX13_passes_115 rfl ?_
  refine r_aload_n dX13_passes_117 rfl rfl ?_
  refine gf_X13_63 rfl dX13_passes_118 ?_
  refine r_aload_n dX13_passes_121 rfl rfl ?_
  refine gf_X13_51 rfl dX13_passes_122 ?_
  obtain ⟨hb, h⟩ := h
  refine r_iald (n := 2) rfl (by decide) dX13_passes_125 hb ?_
  refine r_icmp_ge (tgt := 178) dX13_passes_126 (by decide) (fun hc => ?_) (fun hc => ?_)
  · have h := h.1 hc
    exact r_ret dX13_passes_178 rfl h
  · have h := h.2 hc
    refine r_aload_n dX13_passes_129 rfl rfl ?_
    refine r_iload_n dX13_passes_130 rfl ?_
    refine r_iload dX13_passes_131 rfl ?_
    refine r_callV (ci := 11) (As := [(0, v1), (0, v4)]) (st := []) (by decide) ok_X13_571 rfl rfl (Nat.le_of_ble_eq_true rfl) dX13_passes_133 h (fun r1 s2 hv h => ?_)
    refine r_if_eq (tgt := 172) dX13_passes_136 (by decide) (fun hc => ?_) (fun hc => ?_)
    · have h := h.1 hc
      refine r_iinc (ls2 := [(21, 92), (0, v1), (9, 0), (0, v3), (0, (w32 (v4 + 1)))]) dX13_passes_172 rfl (by decide) rfl ?_
      refine r_goto (tgt := 115) dX13_passes_175 (by decide) ?_
      exact h
    · have h := h.2 hc
      refine r_iload_n dX13_passes_139 rfl ?_
      refine r_iload dX13_passes_140 rfl ?_
      refine r_callS (As := [(0, v3), (0, v4)]) (st := []) ok_X13_389 rfl rfl (Nat.le_of_ble_eq_true rfl) dX13_passes_142 h (fun r3 s4 hv h => ?_)
      refine r_if_ne (tgt := 172) dX13_passes_145 (by decide) (fun hc => ?_) (fun hc => ?_)
      · have h := h.1 hc
        refine r_iinc (ls2 := [(21, 92), (0, v1), (9, 0), (0, v3), (0, (w32 (v4 + 1)))]) dX13_passes_172 rfl (by decide) rfl ?_
        refine r_goto (tgt := 115) dX13_passes_175 (by decide) ?_
        exact h
      · have h := h.2 hc
        refine r_aload_n dX13_passes_148 rfl rfl ?_
        refine r_dup dX13_passes_149 (show (21 : Nat) ≠ 2 by decide) ?_
        refine gf_X13_204 rfl dX13_passes_150 ?_
        refine r_aload_n dX13_passes_153 rfl rfl ?_
        refine r_iload_n dX13_passes_154 rfl ?_
        refine r_iload dX13_passes_155 rfl ?_
        refine r_callV (ci := 11) (As := [(0, v1), (0, v4)]) (st := [(0, (s4 92 63)), (21, 92)]) (by decide) ok_X13_574 rfl rfl (Nat.le_of_ble_eq_true rfl) dX13_passes_157 h (fun r5 s6 hv h => ?_)
        refine r_if_eq (tgt := 167) dX13_passes_160 (by decide) (fun hc => ?_) (fun hc => ?_)
        · have h := h.1 hc
          refine r_iconst dX13_passes_167 (by decide) ?_
          refine r_iadd dX13_passes_168 ?_
          refine pf_X13_204 rfl dX13_passes_169 ?_
          have h := h _ rfl
          generalize hs_s7 : ups s6 92 63 (w32 ((s4 92 63) + 0)) = s7 at h ⊢
          refine r_iinc (ls2 := [(21, 92), (0, v1), (9, 0), (0, v3), (0, (w32 (v4 + 1)))]) dX13_passes_172 rfl (by decide) rfl ?_
          refine r_goto (tgt := 115) dX13_passes_175 (by decide) ?_
          exact h
        · have h := h.2 hc
          refine r_iconst dX13_passes_163 (by decide) ?_
          refine r_goto (tgt := 168) dX13_passes_164 (by decide) ?_
          refine r_iadd dX13_passes_168 ?_
          refine pf_X13_204 rfl dX13_passes_169 ?_
          have h := h _ rfl
          generalize hs_s8 : ups s6 92 63 (w32 ((s4 92 63) + 1)) = s8 at h ⊢
          refine r_iinc (ls2 := [(21, 92), (0, v1), (9, 0), (0, v3), (0, (w32 (v4 + 1)))]) dX13_passes_172 rfl (by decide) rfl ?_
          refine r_goto (tgt := 115) dX13_passes_175 (by decide) ?_
          exact h
set_option maxRecDepth 20000 in
theorem S_X13_passes {g : GT} {e : Nat} {Q : Int → Sg → Prop} {s : Sg} {v1 : Int} {v2 : Int} (h : inR v1 → inR v2 → P_X13_passes_2 g e Q s v1 v2 0) : Mw g (e + 1) M_X13_passes [(21, 92), (0, v1), (0, v2)] s Q := by
  refine Mw.of (ls := [(21, 92), (0, v1), (0, v2), (9, 0), (9, 0)]) pn_X13_passes (Nat.le_of_ble_eq_true rfl) rfl (fun hv => ?_)
  have h := h (hv _ (List.Mem.tail _ (List.Mem.head _))) (hv _ (List.Mem.tail _ (List.Mem.tail _ (List.Mem.head _))))
  refine r_iconst dX13_passes_0 (by decide) ?_
  refine r_istore_n (ls2 := [(21, 92), (0, v1), (0, v2), (0, 0), (9, 0)]) dX13_passes_1 (by decide) rfl ?_
  exact h
set_option maxRecDepth 20000 in
theorem S_X13_isHome {g : GT} {e : Nat} {Q : Int → Sg → Prop} {s : Sg} {v1 : Int} (h : inR v1 → ((v1 < 0 → Q 0 s) ∧ (¬ v1 < 0 → ((0 ≤ (s 92 13) ∧ (s 92 13) < 2) ∧ (((s 94 (s 92 13)) ≤ v1 → Q 0 s) ∧ (¬ (s 94 (s 92 13)) ≤ v1 → Q 1 s)))))) : Mw g (e + 1) M_X13_isHome [(21, 92), (0, v1)] s Q := by
  refine Mw.of (ls := [(21, 92), (0, v1)]) pn_X13_isHome (Nat.le_of_ble_eq_true rfl) rfl (fun hv => ?_)
  have h := h (hv _ (List.Mem.tail _ (List.Mem.head _)))
  refine r_iload_n dX13_isHome_0 rfl ?_
  refine r_if_lt (tgt := 21) dX13_isHome_1 (by decide) (fun hc => ?_) (fun hc => ?_)
  · have h := h.1 hc
    refine r_iconst dX13_isHome_21 (by decide) ?_
    exact r_zret dX13_isHome_22 rfl (by decide) h
  · have h := h.2 hc
    refine r_iload_n dX13_isHome_4 rfl ?_
    refine r_aload_n dX13_isHome_5 rfl rfl ?_
    refine gf_X13_54 rfl dX13_isHome_6 ?_
    refine r_aload_n dX13_isHome_9 rfl rfl ?_
    refine gf_X13_51 rfl dX13_isHome_10 ?_
    obtain ⟨hb, h⟩ := h
    refine r_iald (n := 2) rfl (by decide) dX13_isHome_13 hb ?_
    refine r_icmp_ge (tgt := 21) dX13_isHome_14 (by decide) (fun hc => ?_) (fun hc => ?_)
    · have h := h.1 hc
      refine r_iconst dX13_isHome_21 (by decide) ?_
      exact r_zret dX13_isHome_22 rfl (by decide) h
    · have h := h.2 hc
      refine r_iconst dX13_isHome_17 (by decide) ?_
      refine r_goto (tgt := 22) dX13_isHome_18 (by decide) ?_
      exact r_zret dX13_isHome_22 rfl (by decide) h
set_option maxRecDepth 20000 in
theorem S_X13_isChild {g : GT} {e : Nat} {Q : Int → Sg → Prop} {s : Sg} {v1 : Int} (h : inR v1 → ((v1 < 0 → Q 0 s) ∧ (¬ v1 < 0 → ((0 ≤ (s 92 13) ∧ (s 92 13) < 2) ∧ (((s 97 (s 92 13)) ≤ v1 → Q 0 s) ∧ (¬ (s 97 (s 92 13)) ≤ v1 → Q 1 s)))))) : Mw g (e + 1) M_X13_isChild [(21, 92), (0, v1)] s Q := by
  refine Mw.of (ls := [(21, 92), (0, v1)]) pn_X13_isChild (Nat.le_of_ble_eq_true rfl) rfl (fun hv => ?_)
  have h := h (hv _ (List.Mem.tail _ (List.Mem.head _)))
  refine r_iload_n dX13_isChild_0 rfl ?_
  refine r_if_lt (tgt := 21) dX13_isChild_1 (by decide) (fun hc => ?_) (fun hc => ?_)
  · have h := h.1 hc
    refine r_iconst dX13_isChild_21 (by decide) ?_
    exact r_zret dX13_isChild_22 rfl (by decide) h
  · have h := h.2 hc
    refine r_iload_n dX13_isChild_4 rfl ?_
    refine r_aload_n dX13_isChild_5 rfl rfl ?_
    refine gf_X13_63 rfl dX13_isChild_6 ?_
    refine r_aload_n dX13_isChild_9 rfl rfl ?_
    refine gf_X13_51 rfl dX13_isChild_10 ?_
    obtain ⟨hb, h⟩ := h
    refine r_iald (n := 2) rfl (by decide) dX13_isChild_13 hb ?_
    refine r_icmp_ge (tgt := 21) dX13_isChild_14 (by decide) (fun hc => ?_) (fun hc => ?_)
    · have h := h.1 hc
      refine r_iconst dX13_isChild_21 (by decide) ?_
      exact r_zret dX13_isChild_22 rfl (by decide) h
    · have h := h.2 hc
      refine r_iconst dX13_isChild_17 (by decide) ?_
      refine r_goto (tgt := 22) dX13_isChild_18 (by decide) ?_
      exact r_zret dX13_isChild_22 rfl (by decide) h
set_option maxRecDepth 20000 in
theorem S_X13_isWall {g : GT} {e : Nat} {Q : Int → Sg → Prop} {s : Sg} {v1 : Int} (h : inR v1 → ((v1 < 0 → Q 0 s) ∧ (¬ v1 < 0 → ((0 ≤ (s 92 13) ∧ (s 92 13) < 2) ∧ (((s 104 (s 92 13)) ≤ v1 → Q 0 s) ∧ (¬ (s 104 (s 92 13)) ≤ v1 → Q 1 s)))))) : Mw g (e + 1) M_X13_isWall [(21, 92), (0, v1)] s Q := by
  refine Mw.of (ls := [(21, 92), (0, v1)]) pn_X13_isWall (Nat.le_of_ble_eq_true rfl) rfl (fun hv => ?_)
  have h := h (hv _ (List.Mem.tail _ (List.Mem.head _)))
  refine r_iload_n dX13_isWall_0 rfl ?_
  refine r_if_lt (tgt := 21) dX13_isWall_1 (by decide) (fun hc => ?_) (fun hc => ?_)
  · have h := h.1 hc
    refine r_iconst dX13_isWall_21 (by decide) ?_
    exact r_zret dX13_isWall_22 rfl (by decide) h
  · have h := h.2 hc
    refine r_iload_n dX13_isWall_4 rfl ?_
    refine r_aload_n dX13_isWall_5 rfl rfl ?_
    refine gf_X13_84 rfl dX13_isWall_6 ?_
    refine r_aload_n dX13_isWall_9 rfl rfl ?_
    refine gf_X13_51 rfl dX13_isWall_10 ?_
    obtain ⟨hb, h⟩ := h
    refine r_iald (n := 2) rfl (by decide) dX13_isWall_13 hb ?_
    refine r_icmp_ge (tgt := 21) dX13_isWall_14 (by decide) (fun hc => ?_) (fun hc => ?_)
    · have h := h.1 hc
      refine r_iconst dX13_isWall_21 (by decide) ?_
      exact r_zret dX13_isWall_22 rfl (by decide) h
    · have h := h.2 hc
      refine r_iconst dX13_isWall_17 (by decide) ?_
      refine r_goto (tgt := 22) dX13_isWall_18 (by decide) ?_
      exact r_zret dX13_isWall_22 rfl (by decide) h
abbrev P_X13_builtIn_4 (g : GT) (e : Nat) (Q : Int → Sg → Prop) (s : Sg) (v1 : Int) (v2 : Int) (v3 : Int) : Prop := Wp g (e + 1) M_X13_builtIn Q 4 [(21, 92), (0, v1), (0, v2), (0, v3)] [] s
set_option maxRecDepth 20000 in
theorem S_X13_builtIn_4 {g : GT} {e : Nat} {Q : Int → Sg → Prop} {s : Sg} {v1 : Int} {v2 : Int} {v3 : Int} (h : ((0 ≤ (s 92 13) ∧ (s 92 13) < 2) ∧ (((s 97 (s 92 13)) ≤ v3 → Q v2 s) ∧ (¬ (s 97 (s 92 13)) ≤ v3 → (Mw g e M_X13_inWall [(21, 92), (0, v1), (0, v3)] s (fun r1 s2 => ((¬ r1 = (-1) → P_X13_builtIn_4 g e Q s2 v1 (bOr v2 (bShl 1 v3)) (w32 (v3 + 1))) ∧ (r1 = (-1) → P_X13_builtIn_4 g e Q s2 v1 (bOr v2 0) (w32 (v3 + 1)))))))))) : P_X13_builtIn_4 g e Q s v1 v2 v3 := by
  refine r_iload_n dX13_builtIn_4 rfl ?_
  refine r_aload_n dX13_builtIn_5 rfl rfl ?_
  refine gf_X13_63 rfl dX13_builtIn_6 ?_
  refine r_aload_n dX13_builtIn_9 rfl rfl ?_
  refine gf_X13_51 rfl dX13_builtIn_10 ?_
  obtain ⟨hb, h⟩ := h
  refine r_iald (n := 2) rfl (by decide) dX13_builtIn_13 hb ?_
  refine r_icmp_ge (tgt := 43) dX13_builtIn_14 (by decide) (fun hc => ?_) (fun hc => ?_)
  · have h := h.1 hc
    refine r_iload_n dX13_builtIn_43 rfl ?_
    exact r_iret dX13_builtIn_44 rfl h
  · have h := h.2 hc
    refine r_iload_n dX13_builtIn_17 rfl ?_
    refine r_aload_n dX13_builtIn_18 rfl rfl ?_
    refine r_iload_n dX13_builtIn_19 rfl ?_
    refine r_iload_n dX13_builtIn_20 rfl ?_
    refine r_callV (ci := 11) (As := [(0, v1), (0, v3)]) (st := [(0, v2)]) (by decide) ok_X13_507 rfl rfl (Nat.le_of_ble_eq_true rfl) dX13_builtIn_21 h (fun r1 s2 hv h => ?_)
    refine r_iconst dX13_builtIn_24 (by decide) ?_
    refine r_icmp_ne (tgt := 32) dX13_builtIn_25 (by decide) (fun hc => ?_) (fun hc => ?_)
    · have h := h.1 hc
      refine r_iconst dX13_builtIn_32 (by decide) ?_
      refine r_iload_n dX13_builtIn_33 rfl ?_
      refine r_ishl dX13_builtIn_34 ?_
      refine r_ior dX13_builtIn_35 ?_
      refine r_istore_n (ls2 := [(21, 92), (0, v1), (0, (bOr v2 (bShl 1 v3))), (0, v3)]) dX13_builtIn_36 (by decide) rfl ?_
      refine r_iinc (ls2 := [(21, 92), (0, v1), (0, (bOr v2 (bShl 1 v3))), (0, (w32 (v3 + 1)))]) dX13_builtIn_37 rfl (by decide) rfl ?_
      refine r_goto (tgt := 4) dX13_builtIn_40 (by decide) ?_
      exact h
    · have h := h.2 hc
      refine r_iconst dX13_builtIn_28 (by decide) ?_
      refine r_goto (tgt := 35) dX13_builtIn_29 (by decide) ?_
      refine r_ior dX13_builtIn_35 ?_
      refine r_istore_n (ls2 := [(21, 92), (0, v1), (0, (bOr v2 0)), (0, v3)]) dX13_builtIn_36 (by decide) rfl ?_
      refine r_iinc (ls2 := [(21, 92), (0, v1), (0, (bOr v2 0)), (0, (w32 (v3 + 1)))]) dX13_builtIn_37 rfl (by decide) rfl ?_
      refine r_goto (tgt := 4) dX13_builtIn_40 (by decide) ?_
      exact h
set_option maxRecDepth 20000 in
theorem S_X13_builtIn {g : GT} {e : Nat} {Q : Int → Sg → Prop} {s : Sg} {v1 : Int} (h : inR v1 → P_X13_builtIn_4 g e Q s v1 0 0) : Mw g (e + 1) M_X13_builtIn [(21, 92), (0, v1)] s Q := by
  refine Mw.of (ls := [(21, 92), (0, v1), (9, 0), (9, 0)]) pn_X13_builtIn (Nat.le_of_ble_eq_true rfl) rfl (fun hv => ?_)
  have h := h (hv _ (List.Mem.tail _ (List.Mem.head _)))
  refine r_iconst dX13_builtIn_0 (by decide) ?_
  refine r_istore_n (ls2 := [(21, 92), (0, v1), (0, 0), (9, 0)]) dX13_builtIn_1 (by decide) rfl ?_
  refine r_iconst dX13_builtIn_2 (by decide) ?_
  refine r_istore_n (ls2 := [(21, 92), (0, v1), (0, 0), (0, 0)]) dX13_builtIn_3 (by decide) rfl ?_
  exact h
abbrev P_X13_onShelf_4 (g : GT) (e : Nat) (Q : Int → Sg → Prop) (s : Sg) (v1 : Int) (v2 : Int) (v3 : Int) : Prop := Wp g (e + 1) M_X13_onShelf Q 4 [(21, 92), (0, v1), (0, v2), (0, v3)] [] s
set_option maxRecDepth 20000 in
theorem S_X13_onShelf_4 {g : GT} {e : Nat} {Q : Int → Sg → Prop} {s : Sg} {v1 : Int} {v2 : Int} {v3 : Int} (h : ((0 ≤ (s 92 13) ∧ (s 92 13) < 2) ∧ (((s 97 (s 92 13)) ≤ v3 → Q v2 s) ∧ (¬ (s 97 (s 92 13)) ≤ v3 → (Mw g e M_X13_isOnShelf [(21, 92), (0, v1), (0, v3)] s (fun r1 s2 => ((r1 = 0 → P_X13_onShelf_4 g e Q s2 v1 (bOr v2 0) (w32 (v3 + 1))) ∧ (¬ r1 = 0 → P_X13_onShelf_4 g e Q s2 v1 (bOr v2 (bShl 1 v3)) (w32 (v3 + 1)))))))))) : P_X13_onShelf_4 g e Q s v1 v2 v3 := by
  refine r_iload_n dX13_onShelf_4 rfl ?_
  refine r_aload_n dX13_onShelf_5 rfl rfl ?_
  refine gf_X13_63 rfl dX13_onShelf_6 ?_
  refine r_aload_n dX13_onShelf_9 rfl rfl ?_
  refine gf_X13_51 rfl dX13_onShelf_10 ?_
  obtain ⟨hb, h⟩ := h
  refine r_iald (n := 2) rfl (by decide) dX13_onShelf_13 hb ?_
  refine r_icmp_ge (tgt := 42) dX13_onShelf_14 (by decide) (fun hc => ?_) (fun hc => ?_)
  · have h := h.1 hc
    refine r_iload_n dX13_onShelf_42 rfl ?_
    exact r_iret dX13_onShelf_43 rfl h
  · have h := h.2 hc
    refine r_iload_n dX13_onShelf_17 rfl ?_
    refine r_aload_n dX13_onShelf_18 rfl rfl ?_
    refine r_iload_n dX13_onShelf_19 rfl ?_
    refine r_iload_n dX13_onShelf_20 rfl ?_
    refine r_callV (ci := 11) (As := [(0, v1), (0, v3)]) (st := [(0, v2)]) (by decide) ok_X13_571 rfl rfl (Nat.le_of_ble_eq_true rfl) dX13_onShelf_21 h (fun r1 s2 hv h => ?_)
    refine r_if_eq (tgt := 33) dX13_onShelf_24 (by decide) (fun hc => ?_) (fun hc => ?_)
    · have h := h.1 hc
      refine r_iconst dX13_onShelf_33 (by decide) ?_
      refine r_ior dX13_onShelf_34 ?_
      refine r_istore_n (ls2 := [(21, 92), (0, v1), (0, (bOr v2 0)), (0, v3)]) dX13_onShelf_35 (by decide) rfl ?_
      refine r_iinc (ls2 := [(21, 92), (0, v1), (0, (bOr v2 0)), (0, (w32 (v3 + 1)))]) dX13_onShelf_36 rfl (by decide) rfl ?_
      refine r_goto (tgt := 4) dX13_onShelf_39 (by decide) ?_
      exact h
    · have h := h.2 hc
      refine r_iconst dX13_onShelf_27 (by decide) ?_
      refine r_iload_n dX13_onShelf_28 rfl ?_
      refine r_ishl dX13_onShelf_29 ?_
      refine r_goto (tgt := 34) dX13_onShelf_30 (by decide) ?_
      refine r_ior dX13_onShelf_34 ?_
      refine r_istore_n (ls2 := [(21, 92), (0, v1), (0, (bOr v2 (bShl 1 v3))), (0, v3)]) dX13_onShelf_35 (by decide) rfl ?_
      refine r_iinc (ls2 := [(21, 92), (0, v1), (0, (bOr v2 (bShl 1 v3))), (0, (w32 (v3 + 1)))]) dX13_onShelf_36 rfl (by decide) rfl ?_
      refine r_goto (tgt := 4) dX13_onShelf_39 (by decide) ?_
      exact h
set_option maxRecDepth 20000 in
theorem S_X13_onShelf {g : GT} {e : Nat} {Q : Int → Sg → Prop} {s : Sg} {v1 : Int} (h : inR v1 → P_X13_onShelf_4 g e Q s v1 0 0) : Mw g (e + 1) M_X13_onShelf [(21, 92), (0, v1)] s Q := by
  refine Mw.of (ls := [(21, 92), (0, v1), (9, 0), (9, 0)]) pn_X13_onShelf (Nat.le_of_ble_eq_true rfl) rfl (fun hv => ?_)
  have h := h (hv _ (List.Mem.tail _ (List.Mem.head _)))
  refine r_iconst dX13_onShelf_0 (by decide) ?_
  refine r_istore_n (ls2 := [(21, 92), (0, v1), (0, 0), (9, 0)]) dX13_onShelf_1 (by decide) rfl ?_
  refine r_iconst dX13_onShelf_2 (by decide) ?_
  refine r_istore_n (ls2 := [(21, 92), (0, v1), (0, 0), (0, 0)]) dX13_onShelf_3 (by decide) rfl ?_
  exact h
abbrev P_X13_stonesIn_4 (g : GT) (e : Nat) (Q : Int → Sg → Prop) (s : Sg) (v1 : Int) (v2 : Int) (v3 : Int) : Prop := Wp g (e + 1) M_X13_stonesIn Q 4 [(21, 92), (0, v1), (0, v2), (0, v3)] [] s
set_option maxRecDepth 20000 in
theorem S_X13_stonesIn_4 {g : GT} {e : Nat} {Q : Int → Sg → Prop} {s : Sg} {v1 : Int} {v2 : Int} {v3 : Int} (h : ((0 ≤ (s 92 13) ∧ (s 92 13) < 2) ∧ (((s 97 (s 92 13)) ≤ v3 → Q v2 s) ∧ (¬ (s 97 (s 92 13)) ≤ v3 → (Mw g e M_X13_inWall [(21, 92), (0, 0), (0, v3)] s (fun r1 s2 => ((¬ r1 = v1 → P_X13_stonesIn_4 g e Q s2 v1 (bOr v2 0) (w32 (v3 + 1))) ∧ (r1 = v1 → P_X13_stonesIn_4 g e Q s2 v1 (bOr v2 (bShl 1 v3)) (w32 (v3 + 1)))))))))) : P_X13_stonesIn_4 g e Q s v1 v2 v3 := by
  refine r_iload_n dX13_stonesIn_4 rfl ?_
  refine r_aload_n dX13_stonesIn_5 rfl rfl ?_
  refine gf_X13_63 rfl dX13_stonesIn_6 ?_
  refine r_aload_n dX13_stonesIn_9 rfl rfl ?_
  refine gf_X13_51 rfl dX13_stonesIn_10 ?_
  obtain ⟨hb, h⟩ := h
  refine r_iald (n := 2) rfl (by decide) dX13_stonesIn_13 hb ?_
  refine r_icmp_ge (tgt := 43) dX13_stonesIn_14 (by decide) (fun hc => ?_) (fun hc => ?_)
  · have h := h.1 hc
    refine r_iload_n dX13_stonesIn_43 rfl ?_
    exact r_iret dX13_stonesIn_44 rfl h
  · have h := h.2 hc
    refine r_iload_n dX13_stonesIn_17 rfl ?_
    refine r_aload_n dX13_stonesIn_18 rfl rfl ?_
    refine r_iconst dX13_stonesIn_19 (by decide) ?_
    refine r_iload_n dX13_stonesIn_20 rfl ?_
    refine r_callV (ci := 11) (As := [(0, 0), (0, v3)]) (st := [(0, v2)]) (by decide) ok_X13_507 rfl rfl (Nat.le_of_ble_eq_true rfl) dX13_stonesIn_21 h (fun r1 s2 hv h => ?_)
    refine r_iload_n dX13_stonesIn_24 rfl ?_
    refine r_icmp_ne (tgt := 34) dX13_stonesIn_25 (by decide) (fun hc => ?_) (fun hc => ?_)
    · have h := h.1 hc
      refine r_iconst dX13_stonesIn_34 (by decide) ?_
      refine r_ior dX13_stonesIn_35 ?_
      refine r_istore_n (ls2 := [(21, 92), (0, v1), (0, (bOr v2 0)), (0, v3)]) dX13_stonesIn_36 (by decide) rfl ?_
      refine r_iinc (ls2 := [(21, 92), (0, v1), (0, (bOr v2 0)), (0, (w32 (v3 + 1)))]) dX13_stonesIn_37 rfl (by decide) rfl ?_
      refine r_goto (tgt := 4) dX13_stonesIn_40 (by decide) ?_
      exact h
    · have h := h.2 hc
      refine r_iconst dX13_stonesIn_28 (by decide) ?_
      refine r_iload_n dX13_stonesIn_29 rfl ?_
      refine r_ishl dX13_stonesIn_30 ?_
      refine r_goto (tgt := 35) dX13_stonesIn_31 (by decide) ?_
      refine r_ior dX13_stonesIn_35 ?_
      refine r_istore_n (ls2 := [(21, 92), (0, v1), (0, (bOr v2 (bShl 1 v3))), (0, v3)]) dX13_stonesIn_36 (by decide) rfl ?_
      refine r_iinc (ls2 := [(21, 92), (0, v1), (0, (bOr v2 (bShl 1 v3))), (0, (w32 (v3 + 1)))]) dX13_stonesIn_37 rfl (by decide) rfl ?_
      refine r_goto (tgt := 4) dX13_stonesIn_40 (by decide) ?_
      exact h
set_option maxRecDepth 20000 in
theorem S_X13_stonesIn {g : GT} {e : Nat} {Q : Int → Sg → Prop} {s : Sg} {v1 : Int} (h : inR v1 → P_X13_stonesIn_4 g e Q s v1 0 0) : Mw g (e + 1) M_X13_stonesIn [(21, 92), (0, v1)] s Q := by
  refine Mw.of (ls := [(21, 92), (0, v1), (9, 0), (9, 0)]) pn_X13_stonesIn (Nat.le_of_ble_eq_true rfl) rfl (fun hv => ?_)
  have h := h (hv _ (List.Mem.tail _ (List.Mem.head _)))
  refine r_iconst dX13_stonesIn_0 (by decide) ?_
  refine r_istore_n (ls2 := [(21, 92), (0, v1), (0, 0), (9, 0)]) dX13_stonesIn_1 (by decide) rfl ?_
  refine r_iconst dX13_stonesIn_2 (by decide) ?_
  refine r_istore_n (ls2 := [(21, 92), (0, v1), (0, 0), (0, 0)]) dX13_stonesIn_3 (by decide) rfl ?_
  exact h
abbrev P_X13_has_151 (g : GT) (e : Nat) (Q : Int → Sg → Prop) (s : Sg) (v2 : Int) (v3 : Int) : Prop := Wp g (e + 1) M_X13_has Q 151 [(21, 92), (9, 0), (0, v2), (0, v3)] [] s
set_option maxRecDepth 20000 in
theorem S_X13_has_151 {g : GT} {e : Nat} {Q : Int → Sg → Prop} {s : Sg} {v2 : Int} {v3 : Int} (h : ((0 ≤ (s 92 13) ∧ (s 92 13) < 2) ∧ (((s 104 (s 92 13)) ≤ v3 → Q v2 s) ∧ (¬ (s 104 (s 92 13)) ≤ v3 → (Mw g e M_X13_stonesIn [(21, 92), (0, v3)] s (fun r1 s2 => (Mw g e M_X13_bits [(0, r1)] s2 (fun r3 s4 => ((0 ≤ (w32 ((w32 (4 * (s4 92 13))) + v3)) ∧ (w32 ((w32 (4 * (s4 92 13))) + v3)) < 8) ∧ ((0 ≤ (w32 ((w32 (4 * (s4 92 13))) + v3)) ∧ (w32 ((w32 (4 * (s4 92 13))) + v3)) < 8) ∧ ((¬ r3 = (w32 ((s4 105 (w32 ((w32 (4 * (s4 92 13))) + v3))) * (s4 106 (w32 ((w32 (4 * (s4 92 13))) + v3))))) → P_X13_has_151 g e Q s4 (w32 (v2 + 0)) (w32 (v3 + 1))) ∧ (r3 = (w32 ((s4 105 (w32 ((w32 (4 * (s4 92 13))) + v3))) * (s4 106 (w32 ((w32 (4 * (s4 92 13))) + v3))))) → P_X13_has_151 g e Q s4 (w32 (v2 + 1)) (w32 (v3 + 1)))))))))))))) : P_X13_has_151 g e Q s v2 v3 := by
  refine r_iload_n dX13_has_151 rfl ?_
  refine r_aload_n dX13_has_152 rfl rfl ?_
  refine gf_X13_84 rfl dX13_has_153 ?_
  refine r_aload_n dX13_has_156 rfl rfl ?_
  refine gf_X13_51 rfl dX13_has_157 ?_
  obtain ⟨hb, h⟩ := h
  refine r_iald (n := 2) rfl (by decide) dX13_has_160 hb ?_
  refine r_icmp_ge (tgt := 216) dX13_has_161 (by decide) (fun hc => ?_) (fun hc => ?_)
  · have h := h.1 hc
    refine r_iload_n dX13_has_216 rfl ?_
    exact r_iret dX13_has_217 rfl h
  · have h := h.2 hc
    refine r_iload_n dX13_has_164 rfl ?_
    refine r_aload_n dX13_has_165 rfl rfl ?_
    refine r_iload_n dX13_has_166 rfl ?_
    refine r_callV (ci := 11) (As := [(0, v3)]) (st := [(0, v2)]) (by decide) ok_X13_583 rfl rfl (Nat.le_of_ble_eq_true rfl) dX13_has_167 h (fun r1 s2 hv h => ?_)
    refine r_callS (As := [(0, r1)]) (st := [(0, v2)]) ok_X13_568 rfl rfl (Nat.le_of_ble_eq_true rfl) dX13_has_170 h (fun r3 s4 hv h => ?_)
    refine r_aload_n dX13_has_173 rfl rfl ?_
    refine gf_X13_87 rfl dX13_has_174 ?_
    refine r_iconst dX13_has_177 (by decide) ?_
    refine r_aload_n dX13_has_178 rfl rfl ?_
    refine gf_X13_51 rfl dX13_has_179 ?_
    refine r_imul dX13_has_182 ?_
    refine r_iload_n dX13_has_183 rfl ?_
    refine r_iadd dX13_has_184 ?_
    obtain ⟨hb, h⟩ := h
    refine r_iald (n := 8) rfl (by decide) dX13_has_185 hb ?_
    refine r_aload_n dX13_has_186 rfl rfl ?_
    refine gf_X13_90 rfl dX13_has_187 ?_
    refine r_iconst dX13_has_190 (by decide) ?_
    refine r_aload_n dX13_has_191 rfl rfl ?_
    refine gf_X13_51 rfl dX13_has_192 ?_
    refine r_imul dX13_has_195 ?_
    refine r_iload_n dX13_has_196 rfl ?_
    refine r_iadd dX13_has_197 ?_
    obtain ⟨hb, h⟩ := h
    refine r_iald (n := 8) rfl (by decide) dX13_has_198 hb ?_
    refine r_imul dX13_has_199 ?_
    refine r_icmp_ne (tgt := 207) dX13_has_200 (by decide) (fun hc => ?_) (fun hc => ?_)
    · have h := h.1 hc
      refine r_iconst dX13_has_207 (by decide) ?_
      refine r_iadd dX13_has_208 ?_
      refine r_istore_n (ls2 := [(21, 92), (9, 0), (0, (w32 (v2 + 0))), (0, v3)]) dX13_has_209 (by decide) rfl ?_
      refine r_iinc (ls2 := [(21, 92), (9, 0), (0, (w32 (v2 + 0))), (0, (w32 (v3 + 1)))]) dX13_has_210 rfl (by decide) rfl ?_
      refine r_goto (tgt := 151) dX13_has_213 (by decide) ?_
      exact h
    · have h := h.2 hc
      refine r_iconst dX13_has_203 (by decide) ?_
      refine r_goto (tgt := 208) dX13_has_204 (by decide) ?_
      refine r_iadd dX13_has_208 ?_
      refine r_istore_n (ls2 := [(21, 92), (9, 0), (0, (w32 (v2 + 1))), (0, v3)]) dX13_has_209 (by decide) rfl ?_
      refine r_iinc (ls2 := [(21, 92), (9, 0), (0, (w32 (v2 + 1))), (0, (w32 (v3 + 1)))]) dX13_has_210 rfl (by decide) rfl ?_
      refine r_goto (tgt := 151) dX13_has_213 (by decide) ?_
      exact h
set_option maxRecDepth 20000 in
theorem S_X13_has {g : GT} {e : Nat} {Q : Int → Sg → Prop} {s : Sg} {v1 : Int} (h : inR v1 → ((v1 = 0 → ((0 ≤ (s 92 13) ∧ (s 92 13) < 2) ∧ Q (s 94 (s 92 13)) s)) ∧ (v1 = 1 → ((0 ≤ (s 92 13) ∧ (s 92 13) < 2) ∧ Q (s 97 (s 92 13)) s)) ∧ (v1 = 2 → ((0 ≤ (s 92 13) ∧ (s 92 13) < 2) ∧ Q (s 104 (s 92 13)) s)) ∧ (v1 = 3 → ((0 ≤ (s 92 13) ∧ (s 92 13) < 2) ∧ Q (s 101 (s 92 13)) s)) ∧ (v1 = 4 → ((0 ≤ (s 92 13) ∧ (s 92 13) < 2) ∧ (Mw g e M_X13_bits [(0, (s 123 0))] s (fun r1 s2 => Q (w32 ((s 101 (s 92 13)) - r1)) s2)))) ∧ (v1 = 5 → Q (s 122 0) s) ∧ (v1 = 6 → (Mw g e M_X13_onShelf [(21, 92), (0, 0)] s (fun r3 s4 => (Mw g e M_X13_bits [(0, r3)] s4 (fun r5 s6 => Q r5 s6))))) ∧ (v1 = 7 → (Mw g e M_X13_builtIn [(21, 92), (0, 0)] s (fun r7 s8 => (Mw g e M_X13_bits [(0, r7)] s8 (fun r9 s10 => Q r9 s10))))) ∧ (v1 = 8 → P_X13_has_151 g e Q s 0 0) ∧ (v1 = 9 → Q (s 129 0) s) ∧ (v1 = 10 → Q (s 92 59) s) ∧ (v1 = 11 → Q (w32 (s 92 60)) s) ∧ ((v1 < 0 ∨ 11 < v1) → Q (-1) s))) : Mw g (e + 1) M_X13_has [(21, 92), (0, v1)] s Q := by
  refine Mw.of (ls := [(21, 92), (0, v1), (9, 0), (9, 0)]) pn_X13_has (Nat.le_of_ble_eq_true rfl) rfl (fun hv => ?_)
  have h := h (hv _ (List.Mem.tail _ (List.Mem.head _)))
  refine r_iconst dX13_has_0 (by decide) ?_
  refine r_istore_n (ls2 := [(21, 92), (0, v1), (0, 0), (9, 0)]) dX13_has_1 (by decide) rfl ?_
  refine r_iload_n dX13_has_2 rfl ?_
  obtain ⟨h_0, h_1, h_2, h_3, h_4, h_5, h_6, h_7, h_8, h_9, h_10, h_11, h_d⟩ := h
  rcases (show (v1 < 0 ∨ 11 < v1) ∨ v1 = 0 ∨ v1 = 1 ∨ v1 = 2 ∨ v1 = 3 ∨ v1 = 4 ∨ v1 = 5 ∨ v1 = 6 ∨ v1 = 7 ∨ v1 = 8 ∨ v1 = 9 ∨ v1 = 10 ∨ v1 = 11 by omega) with hk | hk | hk | hk | hk | hk | hk | hk | hk | hk | hk | hk | hk
  · have h := h_d hk
    refine r_tableOut (tgt := 236) dX13_has_3 hk (by decide) ?_
    refine r_iconst dX13_has_236 (by decide) ?_
    exact r_iret dX13_has_237 rfl h
  · have h := h_0 hk
    refine r_tableIn (tgt := 64) dX13_has_3 (by omega) (by omega) (by rw [hk]; rfl) (by decide) ?_
    refine r_aload_n dX13_has_64 rfl rfl ?_
    refine gf_X13_54 rfl dX13_has_65 ?_
    refine r_aload_n dX13_has_68 rfl rfl ?_
    refine gf_X13_51 rfl dX13_has_69 ?_
    obtain ⟨hb, h⟩ := h
    refine r_iald (n := 2) rfl (by decide) dX13_has_72 hb ?_
    exact r_iret dX13_has_73 rfl h
  · have h := h_1 hk
    refine r_tableIn (tgt := 74) dX13_has_3 (by omega) (by omega) (by rw [hk]; rfl) (by decide) ?_
    refine r_aload_n dX13_has_74 rfl rfl ?_
    refine gf_X13_63 rfl dX13_has_75 ?_
    refine r_aload_n dX13_has_78 rfl rfl ?_
    refine gf_X13_51 rfl dX13_has_79 ?_
    obtain ⟨hb, h⟩ := h
    refine r_iald (n := 2) rfl (by decide) dX13_has_82 hb ?_
    exact r_iret dX13_has_83 rfl h
  · have h := h_2 hk
    refine r_tableIn (tgt := 84) dX13_has_3 (by omega) (by omega) (by rw [hk]; rfl) (by decide) ?_
    refine r_aload_n dX13_has_84 rfl rfl ?_
    refine gf_X13_84 rfl dX13_has_85 ?_
    refine r_aload_n dX13_has_88 rfl rfl ?_
    refine gf_X13_51 rfl dX13_has_89 ?_
    obtain ⟨hb, h⟩ := h
    refine r_iald (n := 2) rfl (by decide) dX13_has_92 hb ?_
    exact r_iret dX13_has_93 rfl h
  · have h := h_3 hk
    refine r_tableIn (tgt := 94) dX13_has_3 (by omega) (by omega) (by rw [hk]; rfl) (by decide) ?_
    refine r_aload_n dX13_has_94 rfl rfl ?_
    refine gf_X13_75 rfl dX13_has_95 ?_
    refine r_aload_n dX13_has_98 rfl rfl ?_
    refine gf_X13_51 rfl dX13_has_99 ?_
    obtain ⟨hb, h⟩ := h
    refine r_iald (n := 2) rfl (by decide) dX13_has_102 hb ?_
    exact r_iret dX13_has_103 rfl h
  · have h := h_4 hk
    refine r_tableIn (tgt := 104) dX13_has_3 (by omega) (by omega) (by rw [hk]; rfl) (by decide) ?_
    refine r_aload_n dX13_has_104 rfl rfl ?_
    refine gf_X13_75 rfl dX13_has_105 ?_
    refine r_aload_n dX13_has_108 rfl rfl ?_
    refine gf_X13_51 rfl dX13_has_109 ?_
    obtain ⟨hb, h⟩ := h
    refine r_iald (n := 2) rfl (by decide) dX13_has_112 hb ?_
    refine r_aload_n dX13_has_113 rfl rfl ?_
    refine gf_X13_165 rfl dX13_has_114 ?_
    refine r_iconst dX13_has_117 (by decide) ?_
    refine r_iald (n := 23) rfl (by decide) dX13_has_118 (by decide) ?_
    refine r_callS (As := [(0, (s 123 0))]) (st := [(0, (s 101 (s 92 13)))]) ok_X13_568 rfl rfl (Nat.le_of_ble_eq_true rfl) dX13_has_119 h (fun r1 s2 hv h => ?_)
    refine r_isub dX13_has_122 ?_
    exact r_iret dX13_has_123 rfl h
  · have h := h_5 hk
    refine r_tableIn (tgt := 124) dX13_has_3 (by omega) (by omega) (by rw [hk]; rfl) (by decide) ?_
    refine r_aload_n dX13_has_124 rfl rfl ?_
    refine gf_X13_162 rfl dX13_has_125 ?_
    refine r_iconst dX13_has_128 (by decide) ?_
    refine r_iald (n := 23) rfl (by decide) dX13_has_129 (by decide) ?_
    exact r_iret dX13_has_130 rfl h
  · have h := h_6 hk
    refine r_tableIn (tgt := 131) dX13_has_3 (by omega) (by omega) (by rw [hk]; rfl) (by decide) ?_
    refine r_aload_n dX13_has_131 rfl rfl ?_
    refine r_iconst dX13_has_132 (by decide) ?_
    refine r_callV (ci := 11) (As := [(0, 0)]) (st := []) (by decide) ok_X13_577 rfl rfl (Nat.le_of_ble_eq_true rfl) dX13_has_133 h (fun r3 s4 hv h => ?_)
    refine r_callS (As := [(0, r3)]) (st := []) ok_X13_568 rfl rfl (Nat.le_of_ble_eq_true rfl) dX13_has_136 h (fun r5 s6 hv h => ?_)
    exact r_iret dX13_has_139 rfl h
  · have h := h_7 hk
    refine r_tableIn (tgt := 140) dX13_has_3 (by omega) (by omega) (by rw [hk]; rfl) (by decide) ?_
    refine r_aload_n dX13_has_140 rfl rfl ?_
    refine r_iconst dX13_has_141 (by decide) ?_
    refine r_callV (ci := 11) (As := [(0, 0)]) (st := []) (by decide) ok_X13_580 rfl rfl (Nat.le_of_ble_eq_true rfl) dX13_has_142 h (fun r7 s8 hv h => ?_)
    refine r_callS (As := [(0, r7)]) (st := []) ok_X13_568 rfl rfl (Nat.le_of_ble_eq_true rfl) dX13_has_145 h (fun r9 s10 hv h => ?_)
    exact r_iret dX13_has_148 rfl h
  · have h := h_8 hk
    refine r_tableIn (tgt := 149) dX13_has_3 (by omega) (by omega) (by rw [hk]; rfl) (by decide) ?_
    refine r_iconst dX13_has_149 (by decide) ?_
    refine r_istore_n (ls2 := [(21, 92), (0, v1), (0, 0), (0, 0)]) dX13_has_150 (by decide) rfl ?_
    exact r_fgt [true, false, true, true] rfl h
  · have h := h_9 hk
    refine r_tableIn (tgt := 218) dX13_has_3 (by omega) (by omega) (by rw [hk]; rfl) (by decide) ?_
    refine r_aload_n dX13_has_218 rfl rfl ?_
    refine gf_X13_183 rfl dX13_has_219 ?_
    refine r_iconst dX13_has_222 (by decide) ?_
    refine r_iald (n := 23) rfl (by decide) dX13_has_223 (by decide) ?_
    exact r_iret dX13_has_224 rfl h
  · have h := h_10 hk
    refine r_tableIn (tgt := 225) dX13_has_3 (by omega) (by omega) (by rw [hk]; rfl) (by decide) ?_
    refine r_aload_n dX13_has_225 rfl rfl ?_
    refine gf_X13_192 rfl dX13_has_226 ?_
    exact r_iret dX13_has_229 rfl h
  · have h := h_11 hk
    refine r_tableIn (tgt := 230) dX13_has_3 (by omega) (by omega) (by rw [hk]; rfl) (by decide) ?_
    refine r_aload_n dX13_has_230 rfl rfl ?_
    refine gf_X13_195 rfl dX13_has_231 ?_
    refine r_l2i dX13_has_234 ?_
    exact r_iret dX13_has_235 rfl h
abbrev P_X13_letter_58 (g : GT) (e : Nat) (Q : Int → Sg → Prop) (s : Sg) (v3 : Int) (v4 : Int) (v6 : Int) (v7 : Int) : Prop := Wp g (e + 1) M_X13_letter Q 58 [(9, 0), (9, 0), (9, 0), (0, v3), (2, v4), (9, 0), (0, v6), (2, v7), (9, 0)] [] s
set_option maxRecDepth 20000 in
theorem S_X13_letter_58 {g : GT} {e : Nat} {Q : Int → Sg → Prop} {s : Sg} {v3 : Int} {v4 : Int} {v6 : Int} {v7 : Int} (h : (((lCmp v7 0) ≤ 0 → ((v3 < v6 → Q (w32 ((w32 ((w32 (lAnd (lShr v4 (w32 (8 * (w32 ((w32 (v6 - 1)) - v3))))) 255)) - 97)) + 1)) s) ∧ (¬ v3 < v6 → Q 0 s))) ∧ (¬ (lCmp v7 0) ≤ 0 → P_X13_letter_58 g e Q s v3 v4 (w32 (v6 + 1)) (lShr v7 8)))) : P_X13_letter_58 g e Q s v3 v4 v6 v7 := by
  refine r_lload dX13_letter_58 rfl ?_
  refine r_lconst (v := 0) dX13_letter_60 rfl (by decide) ?_
  refine r_lcmp dX13_letter_61 ?_
  refine r_if_le (tgt := 78) dX13_letter_62 (by decide) (fun hc => ?_) (fun hc => ?_)
  · have h := h.1 hc
    refine r_iload_n dX13_letter_78 rfl ?_
    refine r_iload dX13_letter_79 rfl ?_
    refine r_icmp_lt (tgt := 88) dX13_letter_81 (by decide) (fun hc => ?_) (fun hc => ?_)
    · have h := h.1 hc
      refine r_lload dX13_letter_88 rfl ?_
      refine r_bipush dX13_letter_90 (by decide) rfl ?_
      refine r_iload dX13_letter_92 rfl ?_
      refine r_iconst dX13_letter_94 (by decide) ?_
      refine r_isub dX13_letter_95 ?_
      refine r_iload_n dX13_letter_96 rfl ?_
      refine r_isub dX13_letter_97 ?_
      refine r_imul dX13_letter_98 ?_
      refine r_lshr dX13_letter_99 ?_
      refine r_ldc2 (v := 255) dX13_letter_100 lk_X13_586 (by decide) ?_
      refine r_land dX13_letter_103 ?_
      refine r_l2i dX13_letter_104 ?_
      refine r_bipush dX13_letter_105 (by decide) rfl ?_
      refine r_isub dX13_letter_107 ?_
      refine r_iconst dX13_letter_108 (by decide) ?_
      refine r_iadd dX13_letter_109 ?_
      exact r_iret dX13_letter_110 rfl h
    · have h := h.2 hc
      refine r_iconst dX13_letter_84 (by decide) ?_
      refine r_goto (tgt := 110) dX13_letter_85 (by decide) ?_
      exact r_iret dX13_letter_110 rfl h
  · have h := h.2 hc
    refine r_iinc (ls2 := [(9, 0), (9, 0), (9, 0), (0, v3), (2, v4), (9, 0), (0, (w32 (v6 + 1))), (2, v7), (9, 0)]) dX13_letter_65 rfl (by decide) rfl ?_
    refine r_lload dX13_letter_68 rfl ?_
    refine r_bipush dX13_letter_70 (by decide) rfl ?_
    refine r_lshr dX13_letter_72 ?_
    refine r_lstore (ls2 := [(9, 0), (9, 0), (9, 0), (0, v3), (2, v4), (9, 0), (0, (w32 (v6 + 1))), (2, (lShr v7 8)), (9, 0)]) dX13_letter_73 (by decide) rfl ?_
    refine r_goto (tgt := 58) dX13_letter_75 (by decide) ?_
    exact h
set_option maxRecDepth 20000 in
theorem S_X13_letter {g : GT} {e : Nat} {Q : Int → Sg → Prop} {s : Sg} {v1 : Int} {v2 : Int} {v3 : Int} (h : inR v1 → inR v2 → inR v3 → (Mw g e M_X13_is [(0, v1), (0, 0), (0, 2)] s (fun r1 s2 => ((r1 = 0 → Q (-1) s2) ∧ (¬ r1 = 0 → (Mw g e M_X13_manyOf [(21, 92), (0, (s2 92 13)), (0, v1)] s2 (fun r3 s4 => (Mw g e M_X13_is [(0, v2), (0, 0), (0, (w32 (r3 - 1)))] s4 (fun r5 s6 => ((r5 = 0 → Q (-1) s6) ∧ (¬ r5 = 0 → (Mw g e M_X13_is [(0, v3), (0, 0), (0, 5)] s6 (fun r7 s8 => ((¬ r7 = 0 → (Mw g e M_X13_nameOf [(21, 92), (0, (s8 92 13)), (0, v1), (0, v2)] s8 (fun r9 s10 => P_X13_letter_58 g e Q s10 v3 r9 0 r9))) ∧ (r7 = 0 → Q (-1) s8))))))))))))))) : Mw g (e + 1) M_X13_letter [(21, 92), (0, v1), (0, v2), (0, v3)] s Q := by
  refine Mw.of (ls := [(21, 92), (0, v1), (0, v2), (0, v3), (9, 0), (9, 0), (9, 0), (9, 0), (9, 0)]) pn_X13_letter (Nat.le_of_ble_eq_true rfl) rfl (fun hv => ?_)
  have h := h (hv _ (List.Mem.tail _ (List.Mem.head _))) (hv _ (List.Mem.tail _ (List.Mem.tail _ (List.Mem.head _)))) (hv _ (List.Mem.tail _ (List.Mem.tail _ (List.Mem.tail _ (List.Mem.head _)))))
  refine r_iload_n dX13_letter_0 rfl ?_
  refine r_iconst dX13_letter_1 (by decide) ?_
  refine r_iconst dX13_letter_2 (by decide) ?_
  refine r_callS (As := [(0, v1), (0, 0), (0, 2)]) (st := []) ok_X13_347 rfl rfl (Nat.le_of_ble_eq_true rfl) dX13_letter_3 h (fun r1 s2 hv h => ?_)
  refine r_if_eq (tgt := 37) dX13_letter_6 (by decide) (fun hc => ?_) (fun hc => ?_)
  · have h := h.1 hc
    refine r_iconst dX13_letter_37 (by decide) ?_
    exact r_iret dX13_letter_38 rfl h
  · have h := h.2 hc
    refine r_iload_n dX13_letter_9 rfl ?_
    refine r_iconst dX13_letter_10 (by decide) ?_
    refine r_aload_n dX13_letter_11 rfl rfl ?_
    refine r_aload_n dX13_letter_12 rfl rfl ?_
    refine gf_X13_51 rfl dX13_letter_13 ?_
    refine r_iload_n dX13_letter_16 rfl ?_
    refine r_callV (ci := 11) (As := [(0, (s2 92 13)), (0, v1)]) (st := [(0, 0), (0, v2)]) (by decide) ok_X13_339 rfl rfl (Nat.le_of_ble_eq_true rfl) dX13_letter_17 h (fun r3 s4 hv h => ?_)
    refine r_iconst dX13_letter_20 (by decide) ?_
    refine r_isub dX13_letter_21 ?_
    refine r_callS (As := [(0, v2), (0, 0), (0, (w32 (r3 - 1)))]) (st := []) ok_X13_347 rfl rfl (Nat.le_of_ble_eq_true rfl) dX13_letter_22 h (fun r5 s6 hv h => ?_)
    refine r_if_eq (tgt := 37) dX13_letter_25 (by decide) (fun hc => ?_) (fun hc => ?_)
    · have h := h.1 hc
      refine r_iconst dX13_letter_37 (by decide) ?_
      exact r_iret dX13_letter_38 rfl h
    · have h := h.2 hc
      refine r_iload_n dX13_letter_28 rfl ?_
      refine r_iconst dX13_letter_29 (by decide) ?_
      refine r_iconst dX13_letter_30 (by decide) ?_
      refine r_callS (As := [(0, v3), (0, 0), (0, 5)]) (st := []) ok_X13_347 rfl rfl (Nat.le_of_ble_eq_true rfl) dX13_letter_31 h (fun r7 s8 hv h => ?_)
      refine r_if_ne (tgt := 39) dX13_letter_34 (by decide) (fun hc => ?_) (fun hc => ?_)
      · have h := h.1 hc
        refine r_aload_n dX13_letter_39 rfl rfl ?_
        refine r_aload_n dX13_letter_40 rfl rfl ?_
        refine gf_X13_51 rfl dX13_letter_41 ?_
        refine r_iload_n dX13_letter_44 rfl ?_
        refine r_iload_n dX13_letter_45 rfl ?_
        refine r_callV (ci := 11) (As := [(0, (s8 92 13)), (0, v1), (0, v2)]) (st := []) (by decide) ok_X13_343 rfl rfl (Nat.le_of_ble_eq_true rfl) dX13_letter_46 h (fun r9 s10 hv h => ?_)
        refine r_lstore (ls2 := [(21, 92), (0, v1), (0, v2), (0, v3), (2, r9), (9, 0), (9, 0), (9, 0), (9, 0)]) dX13_letter_49 (by decide) rfl ?_
        refine r_iconst dX13_letter_51 (by decide) ?_
        refine r_istore (ls2 := [(21, 92), (0, v1), (0, v2), (0, v3), (2, r9), (9, 0), (0, 0), (9, 0), (9, 0)]) dX13_letter_52 (by decide) rfl ?_
        refine r_lload dX13_letter_54 rfl ?_
        refine r_lstore (ls2 := [(21, 92), (0, v1), (0, v2), (0, v3), (2, r9), (9, 0), (0, 0), (2, r9), (9, 0)]) dX13_letter_56 (by decide) rfl ?_
        exact r_fgt [false, false, false, true, true, false, true, true, false] rfl h
      · have h := h.2 hc
        refine r_iconst dX13_letter_37 (by decide) ?_
        exact r_iret dX13_letter_38 rfl h
abbrev P_X13_home_71 (g : GT) (e : Nat) (Q : Int → Sg → Prop) (s : Sg) (v1 : Int) (v3 : Int) (v4 : Int) : Prop := Wp g (e + 1) M_X13_home Q 71 [(21, 92), (0, v1), (9, 0), (0, v3), (0, v4)] [] s
set_option maxRecDepth 20000 in
theorem S_X13_home_71 {g : GT} {e : Nat} {Q : Int → Sg → Prop} {s : Sg} {v1 : Int} {v3 : Int} {v4 : Int} (h : ((0 ≤ (s 92 13) ∧ (s 92 13) < 2) ∧ (((s 97 (s 92 13)) ≤ v4 → Q v3 s) ∧ (¬ (s 97 (s 92 13)) ≤ v4 → ((0 ≤ v4 ∧ v4 < 184) ∧ ((¬ (s 124 v4) = v1 → P_X13_home_71 g e Q s v1 (bOr v3 0) (w32 (v4 + 1))) ∧ ((s 124 v4) = v1 → P_X13_home_71 g e Q s v1 (bOr v3 (bShl 1 v4)) (w32 (v4 + 1))))))))) : P_X13_home_71 g e Q s v1 v3 v4 := by
  refine r_iload dX13_home_71 rfl ?_
  refine r_aload_n dX13_home_73 rfl rfl ?_
  refine gf_X13_63 rfl dX13_home_74 ?_
  refine r_aload_n dX13_home_77 rfl rfl ?_
  refine gf_X13_51 rfl dX13_home_78 ?_
  obtain ⟨hb, h⟩ := h
  refine r_iald (n := 2) rfl (by decide) dX13_home_81 hb ?_
  refine r_icmp_ge (tgt := 113) dX13_home_82 (by decide) (fun hc => ?_) (fun hc => ?_)
  · have h := h.1 hc
    refine r_iload_n dX13_home_113 rfl ?_
    exact r_iret dX13_home_114 rfl h
  · have h := h.2 hc
    refine r_iload_n dX13_home_85 rfl ?_
    refine r_aload_n dX13_home_86 rfl rfl ?_
    refine gf_X13_168 rfl dX13_home_87 ?_
    refine r_iload dX13_home_90 rfl ?_
    obtain ⟨hb, h⟩ := h
    refine r_iald (n := 184) rfl (by decide) dX13_home_92 hb ?_
    refine r_iload_n dX13_home_93 rfl ?_
    refine r_icmp_ne (tgt := 104) dX13_home_94 (by decide) (fun hc => ?_) (fun hc => ?_)
    · have h := h.1 hc
      refine r_iconst dX13_home_104 (by decide) ?_
      refine r_ior dX13_home_105 ?_
      refine r_istore_n (ls2 := [(21, 92), (0, v1), (9, 0), (0, (bOr v3 0)), (0, v4)]) dX13_home_106 (by decide) rfl ?_
      refine r_iinc (ls2 := [(21, 92), (0, v1), (9, 0), (0, (bOr v3 0)), (0, (w32 (v4 + 1)))]) dX13_home_107 rfl (by decide) rfl ?_
      refine r_goto (tgt := 71) dX13_home_110 (by decide) ?_
      exact h
    · have h := h.2 hc
      refine r_iconst dX13_home_97 (by decide) ?_
      refine r_iload dX13_home_98 rfl ?_
      refine r_ishl dX13_home_100 ?_
      refine r_goto (tgt := 105) dX13_home_101 (by decide) ?_
      refine r_ior dX13_home_105 ?_
      refine r_istore_n (ls2 := [(21, 92), (0, v1), (9, 0), (0, (bOr v3 (bShl 1 v4))), (0, v4)]) dX13_home_106 (by decide) rfl ?_
      refine r_iinc (ls2 := [(21, 92), (0, v1), (9, 0), (0, (bOr v3 (bShl 1 v4))), (0, (w32 (v4 + 1)))]) dX13_home_107 rfl (by decide) rfl ?_
      refine r_goto (tgt := 71) dX13_home_110 (by decide) ?_
      exact h
set_option maxRecDepth 20000 in
theorem S_X13_home {g : GT} {e : Nat} {Q : Int → Sg → Prop} {s : Sg} {v1 : Int} {v2 : Int} (h : inR v1 → inR v2 → (Mw g e M_X13_isHome [(21, 92), (0, v1)] s (fun r1 s2 => ((¬ r1 = 0 → ((v2 = 0 → ((0 ≤ (w32 ((w32 (6 * (s2 92 13))) + v1)) ∧ (w32 ((w32 (6 * (s2 92 13))) + v1)) < 12) ∧ Q (s2 95 (w32 ((w32 (6 * (s2 92 13))) + v1))) s2)) ∧ (v2 = 1 → ((0 ≤ (w32 ((w32 (6 * (s2 92 13))) + v1)) ∧ (w32 ((w32 (6 * (s2 92 13))) + v1)) < 12) ∧ Q (s2 96 (w32 ((w32 (6 * (s2 92 13))) + v1))) s2)) ∧ (v2 = 2 → P_X13_home_71 g e Q s2 v1 0 0) ∧ ((v2 < 0 ∨ 2 < v2) → Q (-1) s2))) ∧ (r1 = 0 → Q (-1) s2))))) : Mw g (e + 1) M_X13_home [(21, 92), (0, v1), (0, v2)] s Q := by
  refine Mw.of (ls := [(21, 92), (0, v1), (0, v2), (9, 0), (9, 0)]) pn_X13_home (Nat.le_of_ble_eq_true rfl) rfl (fun hv => ?_)
  have h := h (hv _ (List.Mem.tail _ (List.Mem.head _))) (hv _ (List.Mem.tail _ (List.Mem.tail _ (List.Mem.head _))))
  refine r_aload_n dX13_home_0 rfl rfl ?_
  refine r_iload_n dX13_home_1 rfl ?_
  refine r_callV (ci := 11) (As := [(0, v1)]) (st := []) (by decide) ok_X13_588 rfl rfl (Nat.le_of_ble_eq_true rfl) dX13_home_2 h (fun r1 s2 hv h => ?_)
  refine r_if_ne (tgt := 10) dX13_home_5 (by decide) (fun hc => ?_) (fun hc => ?_)
  · have h := h.1 hc
    refine r_iload_n dX13_home_10 rfl ?_
    obtain ⟨h_0, h_1, h_2, h_d⟩ := h
    rcases (show (v2 < 0 ∨ 2 < v2) ∨ v2 = 0 ∨ v2 = 1 ∨ v2 = 2 by omega) with hk | hk | hk | hk
    · have h := h_d hk
      refine r_tableOut (tgt := 115) dX13_home_11 hk (by decide) ?_
      refine r_iconst dX13_home_115 (by decide) ?_
      exact r_iret dX13_home_116 rfl h
    · have h := h_0 hk
      refine r_tableIn (tgt := 36) dX13_home_11 (by omega) (by omega) (by rw [hk]; rfl) (by decide) ?_
      refine r_aload_n dX13_home_36 rfl rfl ?_
      refine gf_X13_57 rfl dX13_home_37 ?_
      refine r_bipush dX13_home_40 (by decide) rfl ?_
      refine r_aload_n dX13_home_42 rfl rfl ?_
      refine gf_X13_51 rfl dX13_home_43 ?_
      refine r_imul dX13_home_46 ?_
      refine r_iload_n dX13_home_47 rfl ?_
      refine r_iadd dX13_home_48 ?_
      obtain ⟨hb, h⟩ := h
      refine r_iald (n := 12) rfl (by decide) dX13_home_49 hb ?_
      exact r_iret dX13_home_50 rfl h
    · have h := h_1 hk
      refine r_tableIn (tgt := 51) dX13_home_11 (by omega) (by omega) (by rw [hk]; rfl) (by decide) ?_
      refine r_aload_n dX13_home_51 rfl rfl ?_
      refine gf_X13_60 rfl dX13_home_52 ?_
      refine r_bipush dX13_home_55 (by decide) rfl ?_
      refine r_aload_n dX13_home_57 rfl rfl ?_
      refine gf_X13_51 rfl dX13_home_58 ?_
      refine r_imul dX13_home_61 ?_
      refine r_iload_n dX13_home_62 rfl ?_
      refine r_iadd dX13_home_63 ?_
      obtain ⟨hb, h⟩ := h
      refine r_iald (n := 12) rfl (by decide) dX13_home_64 hb ?_
      exact r_iret dX13_home_65 rfl h
    · have h := h_2 hk
      refine r_tableIn (tgt := 66) dX13_home_11 (by omega) (by omega) (by rw [hk]; rfl) (by decide) ?_
      refine r_iconst dX13_home_66 (by decide) ?_
      refine r_istore_n (ls2 := [(21, 92), (0, v1), (0, v2), (0, 0), (9, 0)]) dX13_home_67 (by decide) rfl ?_
      refine r_iconst dX13_home_68 (by decide) ?_
      refine r_istore (ls2 := [(21, 92), (0, v1), (0, v2), (0, 0), (0, 0)]) dX13_home_69 (by decide) rfl ?_
      exact r_fgt [true, true, false, true, true] rfl h
  · have h := h.2 hc
    refine r_iconst dX13_home_8 (by decide) ?_
    exact r_iret dX13_home_9 rfl h
