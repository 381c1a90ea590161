/-! the world at the law's entry: class tables, array classes, what the statics hold -/
theorem lwd_1 {w : Cond} (j : Nat) (h : tables_1_1[j]? = some w) : w ∈ lw_tbl := List.mem_append_right _ (List.mem_append_left _ (List.mem_of_getElem? h))
theorem lwd_2 {w : Cond} (j : Nat) (h : tables_1_2[j]? = some w) : w ∈ lw_tbl := List.mem_append_right _ (List.mem_append_right _ (List.mem_append_left _ (List.mem_of_getElem? h)))
theorem lwd_3 {w : Cond} (j : Nat) (h : tables_1_3[j]? = some w) : w ∈ lw_tbl := List.mem_append_right _ (List.mem_append_right _ (List.mem_append_right _ (List.mem_append_left _ (List.mem_of_getElem? h))))
theorem lwd_4 {w : Cond} (j : Nat) (h : tables_1_4[j]? = some w) : w ∈ lw_tbl := List.mem_append_right _ (List.mem_append_right _ (List.mem_append_right _ (List.mem_append_right _ (List.mem_append_left _ (List.mem_of_getElem? h)))))
theorem lwd_5 {w : Cond} (j : Nat) (h : tables_1_5[j]? = some w) : w ∈ lw_tbl := List.mem_append_right _ (List.mem_append_right _ (List.mem_append_right _ (List.mem_append_right _ (List.mem_append_right _ (List.mem_append_left _ (List.mem_of_getElem? h))))))
theorem lwd_6 {w : Cond} (j : Nat) (h : tables_1_6[j]? = some w) : w ∈ lw_tbl := List.mem_append_right _ (List.mem_append_right _ (List.mem_append_right _ (List.mem_append_right _ (List.mem_append_right _ (List.mem_append_right _ (List.mem_append_left _ (List.mem_of_getElem? h)))))))
theorem lwd_7 {w : Cond} (j : Nat) (h : tables_1_7[j]? = some w) : w ∈ lw_tbl := List.mem_append_right _ (List.mem_append_right _ (List.mem_append_right _ (List.mem_append_right _ (List.mem_append_right _ (List.mem_append_right _ (List.mem_append_right _ (List.mem_append_left _ (List.mem_of_getElem? h))))))))
theorem lwd_8 {w : Cond} (j : Nat) (h : tables_1_8[j]? = some w) : w ∈ lw_tbl := List.mem_append_right _ (List.mem_append_right _ (List.mem_append_right _ (List.mem_append_right _ (List.mem_append_right _ (List.mem_append_right _ (List.mem_append_right _ (List.mem_append_right _ (List.mem_append_left _ (List.mem_of_getElem? h)))))))))
theorem lwd_9 {w : Cond} (j : Nat) (h : tables_1_9[j]? = some w) : w ∈ lw_tbl := List.mem_append_right _ (List.mem_append_right _ (List.mem_append_right _ (List.mem_append_right _ (List.mem_append_right _ (List.mem_append_right _ (List.mem_append_right _ (List.mem_append_right _ (List.mem_append_right _ (List.mem_of_getElem? h)))))))))
theorem zt_in : ∀ ci, ci < 12 → Cond.instantiable (cNm ci) (nF ci) ∈ lwG := fun ci h => match ci, h with
  | 0, _ => it_X1
  | 1, _ => it_X2
  | 2, _ => it_X3
  | 3, _ => it_X4
  | 4, _ => it_X5
  | 5, _ => it_X6
  | 6, _ => it_X7
  | 7, _ => it_X8
  | 8, _ => it_X9
  | 9, _ => it_X11
  | 10, _ => it_X12
  | 11, _ => it_X13
  | n + 12, h => absurd h (by omega)
theorem zt_ls : ∀ i, i < 32 → Cond.laysStatic RX10 (enN.getD i "") "LStoneRaised$Word;" ∈ lw_tbl := fun i h => match i, h with
  | 0, _ => lwd_9 109 (by decide +kernel)
  | 1, _ => lwd_3 99 (by decide +kernel)
  | 2, _ => lwd_3 109 (by decide +kernel)
  | 3, _ => lwd_9 110 (by decide +kernel)
  | 4, _ => lwd_3 123 (by decide +kernel)
  | 5, _ => lwd_3 130 (by decide +kernel)
  | 6, _ => lwd_9 111 (by decide +kernel)
  | 7, _ => lwd_9 112 (by decide +kernel)
  | 8, _ => lwd_9 113 (by decide +kernel)
  | 9, _ => lwd_3 157 (by decide +kernel)
  | 10, _ => lwd_3 159 (by decide +kernel)
  | 11, _ => lwd_9 114 (by decide +kernel)
  | 12, _ => lwd_9 115 (by decide +kernel)
  | 13, _ => lwd_9 116 (by decide +kernel)
  | 14, _ => lwd_3 237 (by decide +kernel)
  | 15, _ => lwd_9 117 (by decide +kernel)
  | 16, _ => lwd_9 118 (by decide +kernel)
  | 17, _ => lwd_9 119 (by decide +kernel)
  | 18, _ => lwd_4 154 (by decide +kernel)
  | 19, _ => lwd_4 156 (by decide +kernel)
  | 20, _ => lwd_4 158 (by decide +kernel)
  | 21, _ => lwd_3 227 (by decide +kernel)
  | 22, _ => lwd_5 0 (by decide +kernel)
  | 23, _ => lwd_5 2 (by decide +kernel)
  | 24, _ => lwd_3 221 (by decide +kernel)
  | 25, _ => lwd_3 231 (by decide +kernel)
  | 26, _ => lwd_3 229 (by decide +kernel)
  | 27, _ => lwd_3 177 (by decide +kernel)
  | 28, _ => lwd_3 195 (by decide +kernel)
  | 29, _ => lwd_3 213 (by decide +kernel)
  | 30, _ => lwd_3 219 (by decide +kernel)
  | 31, _ => lwd_1 196 (by decide +kernel)
  | n + 32, h => absurd h (by omega)
theorem zt_lw : Cond.laysStatic RX12 "WORDS" "[LStoneRaised$Word;" ∈ lw_tbl := lwd_3 56 (by decide +kernel)
theorem zt_lm : Cond.laysStatic RX0 "$SwitchMap$StoneRaised$Word" "[I" ∈ lw_tbl := lwd_3 62 (by decide +kernel)
theorem zt_i10 : Cond.initialized RX10 ∈ lw_tbl := lwd_1 9 (by decide +kernel)
theorem zt_i12 : Cond.initialized RX12 ∈ lw_tbl := lwd_1 1 (by decide +kernel)
theorem zt_i0 : Cond.initialized RX0 ∈ lw_tbl := lwd_1 17 (by decide +kernel)
theorem zt_nw : nW ∈ lw_tbl := lwd_3 55 (by decide +kernel)
theorem zt_ao : Cond.arrayOver (.array .int) ∈ lw_tbl := lwd_1 53 (by decide +kernel)
theorem zt_ns : ∀ q ∈ zNl, Cond.methodLinkNest q.1 q.2.1 q.2.2 "StoneRaised" ∈ lw_tbl := fun q hq => by
  unfold zNl at hq
  simp only [List.mem_cons, List.not_mem_nil, or_false] at hq
  rcases hq with rfl | rfl | rfl | rfl | rfl
  · exact lwd_1 30 (by decide +kernel)
  · exact lwd_1 56 (by decide +kernel)
  · exact lwd_2 127 (by decide +kernel)
  · exact lwd_2 145 (by decide +kernel)
  · exact lwd_2 162 (by decide +kernel)
theorem zt_aint : Cond.arrayClass .int ∈ lw_tbl := lwd_1 73 (by decide +kernel)
theorem zt_aboolean : Cond.arrayClass .boolean ∈ lw_tbl := lwd_7 12 (by decide +kernel)
theorem zt_along : Cond.arrayClass .long ∈ lw_tbl := lwd_7 11 (by decide +kernel)
theorem zt_abyte : Cond.arrayClass .byte ∈ lw_tbl := lwd_1 45 (by decide +kernel)
def zFl : List Cond := flatC (Jvm.Cond.and given_1 narrow_1)
theorem zf_ex : ∀ i, i < 32 → Cond.exactly (.static RX10 (enN.getD i "") "LStoneRaised$Word;") RX10 ∈ zFl := by decide +kernel
theorem zf_o : ∀ i, i < 32 → Cond.eq (.field (.static RX10 (enN.getD i "") "LStoneRaised$Word;") (enT.getD 0 ("", "", "", [])).1 (enT.getD 0 ("", "", "", [])).2.1 (enT.getD 0 ("", "", "", [])).2.2.1) (.int ((enT.getD 0 ("", "", "", [])).2.2.2.getD i 0)) ∈ zFl := by decide +kernel
theorem zf_c : ∀ i, i < 32 → Cond.eq (.field (.static RX10 (enN.getD i "") "LStoneRaised$Word;") (enT.getD 1 ("", "", "", [])).1 (enT.getD 1 ("", "", "", [])).2.1 (enT.getD 1 ("", "", "", [])).2.2.1) (.int ((enT.getD 1 ("", "", "", [])).2.2.2.getD i 0)) ∈ zFl := by decide +kernel
theorem zf_f : ∀ i, i < 32 → Cond.eq (.field (.static RX10 (enN.getD i "") "LStoneRaised$Word;") (enT.getD 2 ("", "", "", [])).1 (enT.getD 2 ("", "", "", [])).2.1 (enT.getD 2 ("", "", "", [])).2.2.1) (.int ((enT.getD 2 ("", "", "", [])).2.2.2.getD i 0)) ∈ zFl := by decide +kernel
theorem zf_wa : Cond.arrayOf (.static RX12 "WORDS" "[LStoneRaised$Word;") (.object RX10) ∈ zFl := by decide +kernel
theorem zf_wl : Cond.eq (.length (.static RX12 "WORDS" "[LStoneRaised$Word;")) (.int 32) ∈ zFl := by decide +kernel
theorem zf_we : ∀ j, j < 32 → Cond.eq (.elem (.static RX12 "WORDS" "[LStoneRaised$Word;") (.int (Int32.ofNat j))) (.static RX10 (enN.getD j "") "LStoneRaised$Word;") ∈ zFl := by decide +kernel
theorem zf_ma : Cond.arrayOf (.static RX0 "$SwitchMap$StoneRaised$Word" "[I") .int ∈ zFl := by decide +kernel
theorem zf_ml : Cond.eq (.length (.static RX0 "$SwitchMap$StoneRaised$Word" "[I")) (.int 32) ∈ zFl := by decide +kernel
theorem zf_me : ∀ j, j < 32 → Cond.eq (.elem (.static RX0 "$SwitchMap$StoneRaised$Word" "[I") (.int (Int32.ofNat j))) (.int (Int32.ofInt (enS.getD j 0))) ∈ zFl := by decide +kernel
