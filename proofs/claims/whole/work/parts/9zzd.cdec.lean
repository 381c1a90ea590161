/-! the constructors: bytes, links (by program, wip/gen/gctor.py) -/
theorem lo_in : Cond.instanceMethod Lib.objectInit ∈ lwG := lwc_1 26 (by decide +kernel) (by decide +kernel)
theorem lo_co : Cond.code Lib.objectInit ⟨#[0xb1]⟩ 1 none ∈ lwG := lwc_1 27 (by decide +kernel) (by decide +kernel)
abbrev M_X1_init : MI := (yX1_init, cX1_init, 1, none)
theorem pn_X1_init : plainFor yX1_init = true := by decide +kernel
theorem mc_X1_init : Cond.code yX1_init cX1_init 1 none ∈ lwG := lwc_2 129 (by decide +kernel) (by decide +kernel)
theorem mi_X1_init : Cond.instanceMethod yX1_init ∈ lwG := lwc_2 128 (by decide +kernel) (by decide +kernel)
theorem it_X1 : Cond.instantiable (cNm 0) (nF 0) ∈ lwG := lwc_2 126 (by decide +kernel) (by decide +kernel)
theorem od_X1 : okD 0 := fun k hk => match k, hk with
  | 0, _ => Or.inl ⟨by decide, rfl⟩
  | 1, _ => Or.inr ⟨rfl, Or.inl ⟨rfl, rfl⟩⟩
  | 2, _ => Or.inr ⟨rfl, Or.inl ⟨rfl, rfl⟩⟩
  | n + 3, h => absurd (show n + 3 < 3 from h) (by omega)
theorem dX1_init_0 : decode cX1_init 0 = .ok (.aload_n 0, 1) := by decide +kernel
theorem dX1_init_1 : decode cX1_init 1 = .ok (.invokespecial 5, 3) := by decide +kernel
theorem dX1_init_4 : decode cX1_init 4 = .ok (.aload_n 0, 1) := by decide +kernel
theorem dX1_init_5 : decode cX1_init 5 = .ok (.bipush 20, 2) := by decide +kernel
theorem dX1_init_7 : decode cX1_init 7 = .ok (.bipush 71, 2) := by decide +kernel
theorem dX1_init_9 : decode cX1_init 9 = .ok (.multianewarray 11 2, 4) := by decide +kernel
theorem dX1_init_13 : decode cX1_init 13 = .ok (.putfield 13, 3) := by decide +kernel
theorem dX1_init_16 : decode cX1_init 16 = .ok (.return_, 1) := by decide +kernel
abbrev M_X2_init : MI := (yX2_init, cX2_init, 1, none)
theorem pn_X2_init : plainFor yX2_init = true := by decide +kernel
theorem mc_X2_init : Cond.code yX2_init cX2_init 1 none ∈ lwG := lwc_1 58 (by decide +kernel) (by decide +kernel)
theorem mi_X2_init : Cond.instanceMethod yX2_init ∈ lwG := lwc_1 57 (by decide +kernel) (by decide +kernel)
theorem it_X2 : Cond.instantiable (cNm 1) (nF 1) ∈ lwG := lwc_1 55 (by decide +kernel) (by decide +kernel)
theorem od_X2 : okD 1 := fun k hk => match k, hk with
  | 0, _ => Or.inl ⟨by decide, rfl⟩
  | 1, _ => Or.inl ⟨by decide, rfl⟩
  | 2, _ => Or.inr ⟨rfl, Or.inl ⟨rfl, rfl⟩⟩
  | n + 3, h => absurd (show n + 3 < 3 from h) (by omega)
theorem dX2_init_0 : decode cX2_init 0 = .ok (.aload_n 0, 1) := by decide +kernel
theorem dX2_init_1 : decode cX2_init 1 = .ok (.invokespecial 3, 3) := by decide +kernel
theorem dX2_init_4 : decode cX2_init 4 = .ok (.aload_n 0, 1) := by decide +kernel
theorem dX2_init_5 : decode cX2_init 5 = .ok (.sipush 1600, 3) := by decide +kernel
theorem dX2_init_8 : decode cX2_init 8 = .ok (.newarray .int, 2) := by decide +kernel
theorem dX2_init_10 : decode cX2_init 10 = .ok (.putfield 9, 3) := by decide +kernel
theorem dX2_init_13 : decode cX2_init 13 = .ok (.aload_n 0, 1) := by decide +kernel
theorem dX2_init_14 : decode cX2_init 14 = .ok (.bipush 96, 2) := by decide +kernel
theorem dX2_init_16 : decode cX2_init 16 = .ok (.newarray .int, 2) := by decide +kernel
theorem dX2_init_18 : decode cX2_init 18 = .ok (.putfield 15, 3) := by decide +kernel
theorem dX2_init_21 : decode cX2_init 21 = .ok (.return_, 1) := by decide +kernel
abbrev M_X3_init : MI := (yX3_init, cX3_init, 1, none)
theorem pn_X3_init : plainFor yX3_init = true := by decide +kernel
theorem mc_X3_init : Cond.code yX3_init cX3_init 1 none ∈ lwG := lwc_2 164 (by decide +kernel) (by decide +kernel)
theorem mi_X3_init : Cond.instanceMethod yX3_init ∈ lwG := lwc_2 163 (by decide +kernel) (by decide +kernel)
theorem it_X3 : Cond.instantiable (cNm 2) (nF 2) ∈ lwG := lwc_2 161 (by decide +kernel) (by decide +kernel)
theorem od_X3 : okD 2 := fun k hk => match k, hk with
  | 0, _ => Or.inl ⟨by decide, rfl⟩
  | 1, _ => Or.inr ⟨rfl, Or.inl ⟨rfl, rfl⟩⟩
  | n + 2, h => absurd (show n + 2 < 2 from h) (by omega)
theorem dX3_init_0 : decode cX3_init 0 = .ok (.aload_n 0, 1) := by decide +kernel
theorem dX3_init_1 : decode cX3_init 1 = .ok (.invokespecial 3, 3) := by decide +kernel
theorem dX3_init_4 : decode cX3_init 4 = .ok (.aload_n 0, 1) := by decide +kernel
theorem dX3_init_5 : decode cX3_init 5 = .ok (.bipush 61, 2) := by decide +kernel
theorem dX3_init_7 : decode cX3_init 7 = .ok (.newarray .int, 2) := by decide +kernel
theorem dX3_init_9 : decode cX3_init 9 = .ok (.putfield 11, 3) := by decide +kernel
theorem dX3_init_12 : decode cX3_init 12 = .ok (.return_, 1) := by decide +kernel
abbrev M_X6_init : MI := (yX6_init, cX6_init, 2, none)
theorem pn_X6_init : plainFor yX6_init = true := by decide +kernel
theorem mc_X6_init : Cond.code yX6_init cX6_init 2 none ∈ lwG := lwc_1 193 (by decide +kernel) (by decide +kernel)
theorem mi_X6_init : Cond.instanceMethod yX6_init ∈ lwG := lwc_1 192 (by decide +kernel) (by decide +kernel)
theorem it_X6 : Cond.instantiable (cNm 5) (nF 5) ∈ lwG := lwc_1 190 (by decide +kernel) (by decide +kernel)
theorem od_X6 : okD 5 := fun k hk => match k, hk with
  | 0, _ => Or.inl ⟨by decide, rfl⟩
  | 1, _ => Or.inr ⟨rfl, Or.inl ⟨rfl, rfl⟩⟩
  | 2, _ => Or.inr ⟨rfl, Or.inl ⟨rfl, rfl⟩⟩
  | 3, _ => Or.inl ⟨by decide, rfl⟩
  | 4, _ => Or.inr ⟨rfl, Or.inl ⟨rfl, rfl⟩⟩
  | 5, _ => Or.inr ⟨rfl, Or.inl ⟨rfl, rfl⟩⟩
  | 6, _ => Or.inr ⟨rfl, Or.inl ⟨rfl, rfl⟩⟩
  | 7, _ => Or.inr ⟨rfl, Or.inl ⟨rfl, rfl⟩⟩
  | n + 8, h => absurd (show n + 8 < 8 from h) (by omega)
theorem dX6_init_0 : decode cX6_init 0 = .ok (.aload_n 0, 1) := by decide +kernel
theorem dX6_init_1 : decode cX6_init 1 = .ok (.invokespecial 3, 3) := by decide +kernel
theorem dX6_init_4 : decode cX6_init 4 = .ok (.aload_n 0, 1) := by decide +kernel
theorem dX6_init_5 : decode cX6_init 5 = .ok (.aload_n 1, 1) := by decide +kernel
theorem dX6_init_6 : decode cX6_init 6 = .ok (.putfield 9, 3) := by decide +kernel
theorem dX6_init_9 : decode cX6_init 9 = .ok (.aload_n 0, 1) := by decide +kernel
theorem dX6_init_10 : decode cX6_init 10 = .ok (.getstatic 15, 3) := by decide +kernel
theorem dX6_init_13 : decode cX6_init 13 = .ok (.putfield 21, 3) := by decide +kernel
theorem dX6_init_16 : decode cX6_init 16 = .ok (.return_, 1) := by decide +kernel
abbrev M_X4_init : MI := (yX4_init, cX4_init, 3, none)
theorem pn_X4_init : plainFor yX4_init = true := by decide +kernel
theorem mc_X4_init : Cond.code yX4_init cX4_init 3 none ∈ lwG := lwc_1 187 (by decide +kernel) (by decide +kernel)
theorem mi_X4_init : Cond.instanceMethod yX4_init ∈ lwG := lwc_1 186 (by decide +kernel) (by decide +kernel)
theorem it_X4 : Cond.instantiable (cNm 3) (nF 3) ∈ lwG := lwc_1 184 (by decide +kernel) (by decide +kernel)
theorem od_X4 : okD 3 := fun k hk => match k, hk with
  | 0, _ => Or.inl ⟨by decide, rfl⟩
  | 1, _ => Or.inl ⟨by decide, rfl⟩
  | 2, _ => Or.inl ⟨by decide, rfl⟩
  | 3, _ => Or.inr ⟨rfl, Or.inl ⟨rfl, rfl⟩⟩
  | 4, _ => Or.inr ⟨rfl, Or.inl ⟨rfl, rfl⟩⟩
  | n + 5, h => absurd (show n + 5 < 5 from h) (by omega)
theorem dX4_init_0 : decode cX4_init 0 = .ok (.aload_n 0, 1) := by decide +kernel
theorem dX4_init_1 : decode cX4_init 1 = .ok (.invokespecial 3, 3) := by decide +kernel
theorem dX4_init_4 : decode cX4_init 4 = .ok (.aload_n 0, 1) := by decide +kernel
theorem dX4_init_5 : decode cX4_init 5 = .ok (.new 9, 3) := by decide +kernel
theorem dX4_init_8 : decode cX4_init 8 = .ok (.dup, 1) := by decide +kernel
theorem dX4_init_9 : decode cX4_init 9 = .ok (.aload_n 1, 1) := by decide +kernel
theorem dX4_init_10 : decode cX4_init 10 = .ok (.invokespecial 11, 3) := by decide +kernel
theorem dX4_init_13 : decode cX4_init 13 = .ok (.putfield 14, 3) := by decide +kernel
theorem dX4_init_16 : decode cX4_init 16 = .ok (.aload_n 0, 1) := by decide +kernel
theorem dX4_init_17 : decode cX4_init 17 = .ok (.aload_n 2, 1) := by decide +kernel
theorem dX4_init_18 : decode cX4_init 18 = .ok (.putfield 20, 3) := by decide +kernel
theorem dX4_init_21 : decode cX4_init 21 = .ok (.aload_n 0, 1) := by decide +kernel
theorem dX4_init_22 : decode cX4_init 22 = .ok (.aload_n 2, 1) := by decide +kernel
theorem dX4_init_23 : decode cX4_init 23 = .ok (.getfield 24, 3) := by decide +kernel
theorem dX4_init_26 : decode cX4_init 26 = .ok (.putfield 30, 3) := by decide +kernel
theorem dX4_init_29 : decode cX4_init 29 = .ok (.return_, 1) := by decide +kernel
abbrev M_X11_init : MI := (yX11_init, cX11_init, 2, none)
theorem pn_X11_init : plainFor yX11_init = true := by decide +kernel
theorem mc_X11_init : Cond.code yX11_init cX11_init 2 none ∈ lwG := lwc_2 9 (by decide +kernel) (by decide +kernel)
theorem mi_X11_init : Cond.instanceMethod yX11_init ∈ lwG := lwc_2 8 (by decide +kernel) (by decide +kernel)
theorem it_X11 : Cond.instantiable (cNm 9) (nF 9) ∈ lwG := lwc_2 6 (by decide +kernel) (by decide +kernel)
theorem od_X11 : okD 9 := fun k hk => match k, hk with
  | 0, _ => Or.inl ⟨by decide, rfl⟩
  | 1, _ => Or.inr ⟨rfl, Or.inl ⟨rfl, rfl⟩⟩
  | 2, _ => Or.inr ⟨rfl, Or.inl ⟨rfl, rfl⟩⟩
  | 3, _ => Or.inl ⟨by decide, rfl⟩
  | 4, _ => Or.inl ⟨by decide, rfl⟩
  | 5, _ => Or.inl ⟨by decide, rfl⟩
  | 6, _ => Or.inl ⟨by decide, rfl⟩
  | 7, _ => Or.inl ⟨by decide, rfl⟩
  | 8, _ => Or.inl ⟨by decide, rfl⟩
  | 9, _ => Or.inr ⟨rfl, Or.inl ⟨rfl, rfl⟩⟩
  | 10, _ => Or.inr ⟨rfl, Or.inl ⟨rfl, rfl⟩⟩
  | 11, _ => Or.inr ⟨rfl, Or.inl ⟨rfl, rfl⟩⟩
  | 12, _ => Or.inr ⟨rfl, Or.inl ⟨rfl, rfl⟩⟩
  | n + 13, h => absurd (show n + 13 < 13 from h) (by omega)
theorem dX11_init_0 : decode cX11_init 0 = .ok (.aload_n 0, 1) := by decide +kernel
theorem dX11_init_1 : decode cX11_init 1 = .ok (.invokespecial 3, 3) := by decide +kernel
theorem dX11_init_4 : decode cX11_init 4 = .ok (.aload_n 0, 1) := by decide +kernel
theorem dX11_init_5 : decode cX11_init 5 = .ok (.bipush 8, 2) := by decide +kernel
theorem dX11_init_7 : decode cX11_init 7 = .ok (.newarray .int, 2) := by decide +kernel
theorem dX11_init_9 : decode cX11_init 9 = .ok (.putfield 9, 3) := by decide +kernel
theorem dX11_init_12 : decode cX11_init 12 = .ok (.aload_n 0, 1) := by decide +kernel
theorem dX11_init_13 : decode cX11_init 13 = .ok (.bipush 8, 2) := by decide +kernel
theorem dX11_init_15 : decode cX11_init 15 = .ok (.newarray .int, 2) := by decide +kernel
theorem dX11_init_17 : decode cX11_init 17 = .ok (.putfield 15, 3) := by decide +kernel
theorem dX11_init_20 : decode cX11_init 20 = .ok (.aload_n 0, 1) := by decide +kernel
theorem dX11_init_21 : decode cX11_init 21 = .ok (.bipush 8, 2) := by decide +kernel
theorem dX11_init_23 : decode cX11_init 23 = .ok (.newarray .int, 2) := by decide +kernel
theorem dX11_init_25 : decode cX11_init 25 = .ok (.putfield 18, 3) := by decide +kernel
theorem dX11_init_28 : decode cX11_init 28 = .ok (.aload_n 0, 1) := by decide +kernel
theorem dX11_init_29 : decode cX11_init 29 = .ok (.bipush 64, 2) := by decide +kernel
theorem dX11_init_31 : decode cX11_init 31 = .ok (.newarray .int, 2) := by decide +kernel
theorem dX11_init_33 : decode cX11_init 33 = .ok (.putfield 21, 3) := by decide +kernel
theorem dX11_init_36 : decode cX11_init 36 = .ok (.aload_n 0, 1) := by decide +kernel
theorem dX11_init_37 : decode cX11_init 37 = .ok (.bipush 16, 2) := by decide +kernel
theorem dX11_init_39 : decode cX11_init 39 = .ok (.newarray .int, 2) := by decide +kernel
theorem dX11_init_41 : decode cX11_init 41 = .ok (.putfield 24, 3) := by decide +kernel
theorem dX11_init_44 : decode cX11_init 44 = .ok (.aload_n 0, 1) := by decide +kernel
theorem dX11_init_45 : decode cX11_init 45 = .ok (.bipush 60, 2) := by decide +kernel
theorem dX11_init_47 : decode cX11_init 47 = .ok (.newarray .int, 2) := by decide +kernel
theorem dX11_init_49 : decode cX11_init 49 = .ok (.putfield 27, 3) := by decide +kernel
theorem dX11_init_52 : decode cX11_init 52 = .ok (.aload_n 0, 1) := by decide +kernel
theorem dX11_init_53 : decode cX11_init 53 = .ok (.aload_n 1, 1) := by decide +kernel
theorem dX11_init_54 : decode cX11_init 54 = .ok (.invokevirtual 30, 3) := by decide +kernel
theorem dX11_init_57 : decode cX11_init 57 = .ok (.return_, 1) := by decide +kernel
abbrev M_X5_init : MI := (yX5_init, cX5_init, 2, none)
theorem pn_X5_init : plainFor yX5_init = true := by decide +kernel
theorem mc_X5_init : Cond.code yX5_init cX5_init 2 none ∈ lwG := lwc_2 102 (by decide +kernel) (by decide +kernel)
theorem mi_X5_init : Cond.instanceMethod yX5_init ∈ lwG := lwc_2 101 (by decide +kernel) (by decide +kernel)
theorem it_X5 : Cond.instantiable (cNm 4) (nF 4) ∈ lwG := lwc_2 99 (by decide +kernel) (by decide +kernel)
theorem od_X5 : okD 4 := fun k hk => match k, hk with
  | 0, _ => Or.inl ⟨by decide, rfl⟩
  | 1, _ => Or.inl ⟨by decide, rfl⟩
  | 2, _ => Or.inr ⟨rfl, Or.inl ⟨rfl, rfl⟩⟩
  | 3, _ => Or.inl ⟨by decide, rfl⟩
  | 4, _ => Or.inr ⟨rfl, Or.inl ⟨rfl, rfl⟩⟩
  | n + 5, h => absurd (show n + 5 < 5 from h) (by omega)
theorem dX5_init_0 : decode cX5_init 0 = .ok (.aload_n 0, 1) := by decide +kernel
theorem dX5_init_1 : decode cX5_init 1 = .ok (.invokespecial 3, 3) := by decide +kernel
theorem dX5_init_4 : decode cX5_init 4 = .ok (.aload_n 0, 1) := by decide +kernel
theorem dX5_init_5 : decode cX5_init 5 = .ok (.bipush 6, 2) := by decide +kernel
theorem dX5_init_7 : decode cX5_init 7 = .ok (.newarray .int, 2) := by decide +kernel
theorem dX5_init_9 : decode cX5_init 9 = .ok (.putfield 9, 3) := by decide +kernel
theorem dX5_init_12 : decode cX5_init 12 = .ok (.aload_n 0, 1) := by decide +kernel
theorem dX5_init_13 : decode cX5_init 13 = .ok (.bipush 6, 2) := by decide +kernel
theorem dX5_init_15 : decode cX5_init 15 = .ok (.newarray .int, 2) := by decide +kernel
theorem dX5_init_17 : decode cX5_init 17 = .ok (.putfield 15, 3) := by decide +kernel
theorem dX5_init_20 : decode cX5_init 20 = .ok (.aload_n 0, 1) := by decide +kernel
theorem dX5_init_21 : decode cX5_init 21 = .ok (.new 18, 3) := by decide +kernel
theorem dX5_init_24 : decode cX5_init 24 = .ok (.dup, 1) := by decide +kernel
theorem dX5_init_25 : decode cX5_init 25 = .ok (.aload_n 1, 1) := by decide +kernel
theorem dX5_init_26 : decode cX5_init 26 = .ok (.invokespecial 20, 3) := by decide +kernel
theorem dX5_init_29 : decode cX5_init 29 = .ok (.putfield 23, 3) := by decide +kernel
theorem dX5_init_32 : decode cX5_init 32 = .ok (.return_, 1) := by decide +kernel
abbrev M_X7_init : MI := (yX7_init, cX7_init, 1, none)
theorem pn_X7_init : plainFor yX7_init = true := by decide +kernel
theorem mc_X7_init : Cond.code yX7_init cX7_init 1 none ∈ lwG := lwc_2 147 (by decide +kernel) (by decide +kernel)
theorem mi_X7_init : Cond.instanceMethod yX7_init ∈ lwG := lwc_2 146 (by decide +kernel) (by decide +kernel)
theorem it_X7 : Cond.instantiable (cNm 6) (nF 6) ∈ lwG := lwc_2 144 (by decide +kernel) (by decide +kernel)
theorem od_X7 : okD 6 := fun k hk => match k, hk with
  | 0, _ => Or.inr ⟨rfl, Or.inl ⟨rfl, rfl⟩⟩
  | 1, _ => Or.inr ⟨rfl, Or.inl ⟨rfl, rfl⟩⟩
  | 2, _ => Or.inl ⟨by decide, rfl⟩
  | n + 3, h => absurd (show n + 3 < 3 from h) (by omega)
theorem dX7_init_0 : decode cX7_init 0 = .ok (.aload_n 0, 1) := by decide +kernel
theorem dX7_init_1 : decode cX7_init 1 = .ok (.invokespecial 3, 3) := by decide +kernel
theorem dX7_init_4 : decode cX7_init 4 = .ok (.aload_n 0, 1) := by decide +kernel
theorem dX7_init_5 : decode cX7_init 5 = .ok (.bipush 6, 2) := by decide +kernel
theorem dX7_init_7 : decode cX7_init 7 = .ok (.newarray .int, 2) := by decide +kernel
theorem dX7_init_9 : decode cX7_init 9 = .ok (.putfield 9, 3) := by decide +kernel
theorem dX7_init_12 : decode cX7_init 12 = .ok (.return_, 1) := by decide +kernel
abbrev M_X8_init : MI := (yX8_init, cX8_init, 1, none)
theorem pn_X8_init : plainFor yX8_init = true := by decide +kernel
theorem mc_X8_init : Cond.code yX8_init cX8_init 1 none ∈ lwG := lwc_1 32 (by decide +kernel) (by decide +kernel)
theorem mi_X8_init : Cond.instanceMethod yX8_init ∈ lwG := lwc_1 31 (by decide +kernel) (by decide +kernel)
theorem it_X8 : Cond.instantiable (cNm 7) (nF 7) ∈ lwG := lwc_1 29 (by decide +kernel) (by decide +kernel)
theorem od_X8 : okD 7 := fun k hk => match k, hk with
  | 0, _ => Or.inl ⟨by decide, rfl⟩
  | 1, _ => Or.inr ⟨rfl, Or.inl ⟨rfl, rfl⟩⟩
  | n + 2, h => absurd (show n + 2 < 2 from h) (by omega)
theorem dX8_init_0 : decode cX8_init 0 = .ok (.aload_n 0, 1) := by decide +kernel
theorem dX8_init_1 : decode cX8_init 1 = .ok (.invokespecial 3, 3) := by decide +kernel
theorem dX8_init_4 : decode cX8_init 4 = .ok (.aload_n 0, 1) := by decide +kernel
theorem dX8_init_5 : decode cX8_init 5 = .ok (.sipush 1600, 3) := by decide +kernel
theorem dX8_init_8 : decode cX8_init 8 = .ok (.newarray .byte, 2) := by decide +kernel
theorem dX8_init_10 : decode cX8_init 10 = .ok (.putfield 9, 3) := by decide +kernel
theorem dX8_init_13 : decode cX8_init 13 = .ok (.return_, 1) := by decide +kernel
abbrev M_X9_init : MI := (yX9_init, cX9_init, 1, none)
theorem pn_X9_init : plainFor yX9_init = true := by decide +kernel
theorem mc_X9_init : Cond.code yX9_init cX9_init 1 none ∈ lwG := lwc_1 50 (by decide +kernel) (by decide +kernel)
theorem mi_X9_init : Cond.instanceMethod yX9_init ∈ lwG := lwc_1 49 (by decide +kernel) (by decide +kernel)
theorem it_X9 : Cond.instantiable (cNm 8) (nF 8) ∈ lwG := lwc_1 47 (by decide +kernel) (by decide +kernel)
theorem od_X9 : okD 8 := fun k hk => match k, hk with
  | 0, _ => Or.inl ⟨by decide, rfl⟩
  | 1, _ => Or.inl ⟨by decide, rfl⟩
  | 2, _ => Or.inl ⟨by decide, rfl⟩
  | 3, _ => Or.inl ⟨by decide, rfl⟩
  | 4, _ => Or.inl ⟨by decide, rfl⟩
  | 5, _ => Or.inl ⟨by decide, rfl⟩
  | 6, _ => Or.inl ⟨by decide, rfl⟩
  | 7, _ => Or.inl ⟨by decide, rfl⟩
  | 8, _ => Or.inl ⟨by decide, rfl⟩
  | 9, _ => Or.inl ⟨by decide, rfl⟩
  | 10, _ => Or.inl ⟨by decide, rfl⟩
  | 11, _ => Or.inl ⟨by decide, rfl⟩
  | 12, _ => Or.inl ⟨by decide, rfl⟩
  | 13, _ => Or.inr ⟨rfl, Or.inl ⟨rfl, rfl⟩⟩
  | 14, _ => Or.inr ⟨rfl, Or.inl ⟨rfl, rfl⟩⟩
  | 15, _ => Or.inr ⟨rfl, Or.inl ⟨rfl, rfl⟩⟩
  | 16, _ => Or.inr ⟨rfl, Or.inl ⟨rfl, rfl⟩⟩
  | 17, _ => Or.inr ⟨rfl, Or.inl ⟨rfl, rfl⟩⟩
  | 18, _ => Or.inr ⟨rfl, Or.inl ⟨rfl, rfl⟩⟩
  | n + 19, h => absurd (show n + 19 < 19 from h) (by omega)
theorem dX9_init_0 : decode cX9_init 0 = .ok (.aload_n 0, 1) := by decide +kernel
theorem dX9_init_1 : decode cX9_init 1 = .ok (.invokespecial 3, 3) := by decide +kernel
theorem dX9_init_4 : decode cX9_init 4 = .ok (.aload_n 0, 1) := by decide +kernel
theorem dX9_init_5 : decode cX9_init 5 = .ok (.iconst 3, 1) := by decide +kernel
theorem dX9_init_6 : decode cX9_init 6 = .ok (.newarray .int, 2) := by decide +kernel
theorem dX9_init_8 : decode cX9_init 8 = .ok (.putfield 9, 3) := by decide +kernel
theorem dX9_init_11 : decode cX9_init 11 = .ok (.aload_n 0, 1) := by decide +kernel
theorem dX9_init_12 : decode cX9_init 12 = .ok (.iconst 3, 1) := by decide +kernel
theorem dX9_init_13 : decode cX9_init 13 = .ok (.bipush 8, 2) := by decide +kernel
theorem dX9_init_15 : decode cX9_init 15 = .ok (.multianewarray 15 2, 4) := by decide +kernel
theorem dX9_init_19 : decode cX9_init 19 = .ok (.putfield 17, 3) := by decide +kernel
theorem dX9_init_22 : decode cX9_init 22 = .ok (.aload_n 0, 1) := by decide +kernel
theorem dX9_init_23 : decode cX9_init 23 = .ok (.bipush 6, 2) := by decide +kernel
theorem dX9_init_25 : decode cX9_init 25 = .ok (.newarray .int, 2) := by decide +kernel
theorem dX9_init_27 : decode cX9_init 27 = .ok (.putfield 20, 3) := by decide +kernel
theorem dX9_init_30 : decode cX9_init 30 = .ok (.aload_n 0, 1) := by decide +kernel
theorem dX9_init_31 : decode cX9_init 31 = .ok (.bipush 6, 2) := by decide +kernel
theorem dX9_init_33 : decode cX9_init 33 = .ok (.newarray .int, 2) := by decide +kernel
theorem dX9_init_35 : decode cX9_init 35 = .ok (.putfield 23, 3) := by decide +kernel
theorem dX9_init_38 : decode cX9_init 38 = .ok (.aload_n 0, 1) := by decide +kernel
theorem dX9_init_39 : decode cX9_init 39 = .ok (.bipush 8, 2) := by decide +kernel
theorem dX9_init_41 : decode cX9_init 41 = .ok (.newarray .int, 2) := by decide +kernel
theorem dX9_init_43 : decode cX9_init 43 = .ok (.putfield 26, 3) := by decide +kernel
theorem dX9_init_46 : decode cX9_init 46 = .ok (.aload_n 0, 1) := by decide +kernel
theorem dX9_init_47 : decode cX9_init 47 = .ok (.bipush 8, 2) := by decide +kernel
theorem dX9_init_49 : decode cX9_init 49 = .ok (.newarray .int, 2) := by decide +kernel
theorem dX9_init_51 : decode cX9_init 51 = .ok (.putfield 29, 3) := by decide +kernel
theorem dX9_init_54 : decode cX9_init 54 = .ok (.aload_n 0, 1) := by decide +kernel
theorem dX9_init_55 : decode cX9_init 55 = .ok (.bipush 8, 2) := by decide +kernel
theorem dX9_init_57 : decode cX9_init 57 = .ok (.newarray .int, 2) := by decide +kernel
theorem dX9_init_59 : decode cX9_init 59 = .ok (.putfield 32, 3) := by decide +kernel
theorem dX9_init_62 : decode cX9_init 62 = .ok (.aload_n 0, 1) := by decide +kernel
theorem dX9_init_63 : decode cX9_init 63 = .ok (.iconst 4, 1) := by decide +kernel
theorem dX9_init_64 : decode cX9_init 64 = .ok (.newarray .int, 2) := by decide +kernel
theorem dX9_init_66 : decode cX9_init 66 = .ok (.putfield 35, 3) := by decide +kernel
theorem dX9_init_69 : decode cX9_init 69 = .ok (.aload_n 0, 1) := by decide +kernel
theorem dX9_init_70 : decode cX9_init 70 = .ok (.iconst 4, 1) := by decide +kernel
theorem dX9_init_71 : decode cX9_init 71 = .ok (.newarray .int, 2) := by decide +kernel
theorem dX9_init_73 : decode cX9_init 73 = .ok (.putfield 38, 3) := by decide +kernel
theorem dX9_init_76 : decode cX9_init 76 = .ok (.aload_n 0, 1) := by decide +kernel
theorem dX9_init_77 : decode cX9_init 77 = .ok (.bipush 10, 2) := by decide +kernel
theorem dX9_init_79 : decode cX9_init 79 = .ok (.newarray .int, 2) := by decide +kernel
theorem dX9_init_81 : decode cX9_init 81 = .ok (.putfield 41, 3) := by decide +kernel
theorem dX9_init_84 : decode cX9_init 84 = .ok (.aload_n 0, 1) := by decide +kernel
theorem dX9_init_85 : decode cX9_init 85 = .ok (.new 44, 3) := by decide +kernel
theorem dX9_init_88 : decode cX9_init 88 = .ok (.dup, 1) := by decide +kernel
theorem dX9_init_89 : decode cX9_init 89 = .ok (.invokespecial 46, 3) := by decide +kernel
theorem dX9_init_92 : decode cX9_init 92 = .ok (.putfield 47, 3) := by decide +kernel
theorem dX9_init_95 : decode cX9_init 95 = .ok (.aload_n 0, 1) := by decide +kernel
theorem dX9_init_96 : decode cX9_init 96 = .ok (.new 44, 3) := by decide +kernel
theorem dX9_init_99 : decode cX9_init 99 = .ok (.dup, 1) := by decide +kernel
theorem dX9_init_100 : decode cX9_init 100 = .ok (.invokespecial 46, 3) := by decide +kernel
theorem dX9_init_103 : decode cX9_init 103 = .ok (.putfield 51, 3) := by decide +kernel
theorem dX9_init_106 : decode cX9_init 106 = .ok (.aload_n 0, 1) := by decide +kernel
theorem dX9_init_107 : decode cX9_init 107 = .ok (.bipush 8, 2) := by decide +kernel
theorem dX9_init_109 : decode cX9_init 109 = .ok (.newarray .int, 2) := by decide +kernel
theorem dX9_init_111 : decode cX9_init 111 = .ok (.putfield 54, 3) := by decide +kernel
theorem dX9_init_114 : decode cX9_init 114 = .ok (.aload_n 0, 1) := by decide +kernel
theorem dX9_init_115 : decode cX9_init 115 = .ok (.invokevirtual 57, 3) := by decide +kernel
theorem dX9_init_118 : decode cX9_init 118 = .ok (.return_, 1) := by decide +kernel
abbrev M_X12_init : MI := (yX12_init, cX12_init, 1, none)
theorem pn_X12_init : plainFor yX12_init = true := by decide +kernel
theorem mc_X12_init : Cond.code yX12_init cX12_init 1 none ∈ lwG := lwc_1 24 (by decide +kernel) (by decide +kernel)
theorem mi_X12_init : Cond.instanceMethod yX12_init ∈ lwG := lwc_1 23 (by decide +kernel) (by decide +kernel)
theorem it_X12 : Cond.instantiable (cNm 10) (nF 10) ∈ lwG := lwc_1 21 (by decide +kernel) (by decide +kernel)
theorem od_X12 : okD 10 := fun k hk => match k, hk with
  | 0, _ => Or.inl ⟨by decide, rfl⟩
  | 1, _ => Or.inl ⟨by decide, rfl⟩
  | 2, _ => Or.inl ⟨by decide, rfl⟩
  | 3, _ => Or.inl ⟨by decide, rfl⟩
  | 4, _ => Or.inl ⟨by decide, rfl⟩
  | 5, _ => Or.inl ⟨by decide, rfl⟩
  | 6, _ => Or.inl ⟨by decide, rfl⟩
  | 7, _ => Or.inl ⟨by decide, rfl⟩
  | 8, _ => Or.inl ⟨by decide, rfl⟩
  | 9, _ => Or.inl ⟨by decide, rfl⟩
  | 10, _ => Or.inr ⟨rfl, Or.inl ⟨rfl, rfl⟩⟩
  | 11, _ => Or.inr ⟨rfl, Or.inl ⟨rfl, rfl⟩⟩
  | 12, _ => Or.inr ⟨rfl, Or.inl ⟨rfl, rfl⟩⟩
  | n + 13, h => absurd (show n + 13 < 13 from h) (by omega)
theorem dX12_init_0 : decode cX12_init 0 = .ok (.aload_n 0, 1) := by decide +kernel
theorem dX12_init_1 : decode cX12_init 1 = .ok (.invokespecial 1, 3) := by decide +kernel
theorem dX12_init_4 : decode cX12_init 4 = .ok (.aload_n 0, 1) := by decide +kernel
theorem dX12_init_5 : decode cX12_init 5 = .ok (.new 7, 3) := by decide +kernel
theorem dX12_init_8 : decode cX12_init 8 = .ok (.dup, 1) := by decide +kernel
theorem dX12_init_9 : decode cX12_init 9 = .ok (.invokespecial 9, 3) := by decide +kernel
theorem dX12_init_12 : decode cX12_init 12 = .ok (.putfield 10, 3) := by decide +kernel
theorem dX12_init_15 : decode cX12_init 15 = .ok (.aload_n 0, 1) := by decide +kernel
theorem dX12_init_16 : decode cX12_init 16 = .ok (.new 16, 3) := by decide +kernel
theorem dX12_init_19 : decode cX12_init 19 = .ok (.dup, 1) := by decide +kernel
theorem dX12_init_20 : decode cX12_init 20 = .ok (.invokespecial 18, 3) := by decide +kernel
theorem dX12_init_23 : decode cX12_init 23 = .ok (.putfield 19, 3) := by decide +kernel
theorem dX12_init_26 : decode cX12_init 26 = .ok (.aload_n 0, 1) := by decide +kernel
theorem dX12_init_27 : decode cX12_init 27 = .ok (.new 16, 3) := by decide +kernel
theorem dX12_init_30 : decode cX12_init 30 = .ok (.dup, 1) := by decide +kernel
theorem dX12_init_31 : decode cX12_init 31 = .ok (.invokespecial 18, 3) := by decide +kernel
theorem dX12_init_34 : decode cX12_init 34 = .ok (.putfield 23, 3) := by decide +kernel
theorem dX12_init_37 : decode cX12_init 37 = .ok (.aload_n 0, 1) := by decide +kernel
theorem dX12_init_38 : decode cX12_init 38 = .ok (.new 26, 3) := by decide +kernel
theorem dX12_init_41 : decode cX12_init 41 = .ok (.dup, 1) := by decide +kernel
theorem dX12_init_42 : decode cX12_init 42 = .ok (.aload_n 0, 1) := by decide +kernel
theorem dX12_init_43 : decode cX12_init 43 = .ok (.getfield 10, 3) := by decide +kernel
theorem dX12_init_46 : decode cX12_init 46 = .ok (.aload_n 0, 1) := by decide +kernel
theorem dX12_init_47 : decode cX12_init 47 = .ok (.getfield 23, 3) := by decide +kernel
theorem dX12_init_50 : decode cX12_init 50 = .ok (.invokespecial 28, 3) := by decide +kernel
theorem dX12_init_53 : decode cX12_init 53 = .ok (.putfield 31, 3) := by decide +kernel
theorem dX12_init_56 : decode cX12_init 56 = .ok (.aload_n 0, 1) := by decide +kernel
theorem dX12_init_57 : decode cX12_init 57 = .ok (.new 35, 3) := by decide +kernel
theorem dX12_init_60 : decode cX12_init 60 = .ok (.dup, 1) := by decide +kernel
theorem dX12_init_61 : decode cX12_init 61 = .ok (.aload_n 0, 1) := by decide +kernel
theorem dX12_init_62 : decode cX12_init 62 = .ok (.getfield 19, 3) := by decide +kernel
theorem dX12_init_65 : decode cX12_init 65 = .ok (.invokespecial 37, 3) := by decide +kernel
theorem dX12_init_68 : decode cX12_init 68 = .ok (.putfield 40, 3) := by decide +kernel
theorem dX12_init_71 : decode cX12_init 71 = .ok (.aload_n 0, 1) := by decide +kernel
theorem dX12_init_72 : decode cX12_init 72 = .ok (.new 44, 3) := by decide +kernel
theorem dX12_init_75 : decode cX12_init 75 = .ok (.dup, 1) := by decide +kernel
theorem dX12_init_76 : decode cX12_init 76 = .ok (.aload_n 0, 1) := by decide +kernel
theorem dX12_init_77 : decode cX12_init 77 = .ok (.getfield 19, 3) := by decide +kernel
theorem dX12_init_80 : decode cX12_init 80 = .ok (.invokespecial 46, 3) := by decide +kernel
theorem dX12_init_83 : decode cX12_init 83 = .ok (.putfield 47, 3) := by decide +kernel
theorem dX12_init_86 : decode cX12_init 86 = .ok (.aload_n 0, 1) := by decide +kernel
theorem dX12_init_87 : decode cX12_init 87 = .ok (.new 51, 3) := by decide +kernel
theorem dX12_init_90 : decode cX12_init 90 = .ok (.dup, 1) := by decide +kernel
theorem dX12_init_91 : decode cX12_init 91 = .ok (.invokespecial 53, 3) := by decide +kernel
theorem dX12_init_94 : decode cX12_init 94 = .ok (.putfield 54, 3) := by decide +kernel
theorem dX12_init_97 : decode cX12_init 97 = .ok (.aload_n 0, 1) := by decide +kernel
theorem dX12_init_98 : decode cX12_init 98 = .ok (.new 58, 3) := by decide +kernel
theorem dX12_init_101 : decode cX12_init 101 = .ok (.dup, 1) := by decide +kernel
theorem dX12_init_102 : decode cX12_init 102 = .ok (.invokespecial 60, 3) := by decide +kernel
theorem dX12_init_105 : decode cX12_init 105 = .ok (.putfield 61, 3) := by decide +kernel
theorem dX12_init_108 : decode cX12_init 108 = .ok (.aload_n 0, 1) := by decide +kernel
theorem dX12_init_109 : decode cX12_init 109 = .ok (.new 65, 3) := by decide +kernel
theorem dX12_init_112 : decode cX12_init 112 = .ok (.dup, 1) := by decide +kernel
theorem dX12_init_113 : decode cX12_init 113 = .ok (.invokespecial 67, 3) := by decide +kernel
theorem dX12_init_116 : decode cX12_init 116 = .ok (.putfield 68, 3) := by decide +kernel
theorem dX12_init_119 : decode cX12_init 119 = .ok (.aload_n 0, 1) := by decide +kernel
theorem dX12_init_120 : decode cX12_init 120 = .ok (.bipush 6, 2) := by decide +kernel
theorem dX12_init_122 : decode cX12_init 122 = .ok (.newarray .int, 2) := by decide +kernel
theorem dX12_init_124 : decode cX12_init 124 = .ok (.putfield 72, 3) := by decide +kernel
theorem dX12_init_127 : decode cX12_init 127 = .ok (.aload_n 0, 1) := by decide +kernel
theorem dX12_init_128 : decode cX12_init 128 = .ok (.iconst 0, 1) := by decide +kernel
theorem dX12_init_129 : decode cX12_init 129 = .ok (.putfield 76, 3) := by decide +kernel
theorem dX12_init_132 : decode cX12_init 132 = .ok (.aload_n 0, 1) := by decide +kernel
theorem dX12_init_133 : decode cX12_init 133 = .ok (.iconst (-1), 1) := by decide +kernel
theorem dX12_init_134 : decode cX12_init 134 = .ok (.putfield 80, 3) := by decide +kernel
theorem dX12_init_137 : decode cX12_init 137 = .ok (.aload_n 0, 1) := by decide +kernel
theorem dX12_init_138 : decode cX12_init 138 = .ok (.iconst 1, 1) := by decide +kernel
theorem dX12_init_139 : decode cX12_init 139 = .ok (.putfield 83, 3) := by decide +kernel
theorem dX12_init_142 : decode cX12_init 142 = .ok (.return_, 1) := by decide +kernel
abbrev M_X13_init : MI := (yX13_init, cX13_init, 2, none)
theorem pn_X13_init : plainFor yX13_init = true := by decide +kernel
theorem mc_X13_init : Cond.code yX13_init cX13_init 2 none ∈ lwG := lwc_6 13 (by decide +kernel) (by decide +kernel)
theorem mi_X13_init : Cond.instanceMethod yX13_init ∈ lwG := lwc_6 12 (by decide +kernel) (by decide +kernel)
theorem it_X13 : Cond.instantiable (cNm 11) (nF 11) ∈ lwG := lwc_6 10 (by decide +kernel) (by decide +kernel)
theorem od_X13 : okD 11 := fun k hk => match k, hk with
  | 0, _ => Or.inl ⟨by decide, rfl⟩
  | 1, _ => Or.inr ⟨rfl, Or.inl ⟨rfl, rfl⟩⟩
  | 2, _ => Or.inr ⟨rfl, Or.inl ⟨rfl, rfl⟩⟩
  | 3, _ => Or.inr ⟨rfl, Or.inl ⟨rfl, rfl⟩⟩
  | 4, _ => Or.inr ⟨rfl, Or.inl ⟨rfl, rfl⟩⟩
  | 5, _ => Or.inr ⟨rfl, Or.inl ⟨rfl, rfl⟩⟩
  | 6, _ => Or.inr ⟨rfl, Or.inl ⟨rfl, rfl⟩⟩
  | 7, _ => Or.inr ⟨rfl, Or.inr ⟨rfl, rfl⟩⟩
  | 8, _ => Or.inr ⟨rfl, Or.inl ⟨rfl, rfl⟩⟩
  | 9, _ => Or.inr ⟨rfl, Or.inl ⟨rfl, rfl⟩⟩
  | 10, _ => Or.inr ⟨rfl, Or.inl ⟨rfl, rfl⟩⟩
  | 11, _ => Or.inr ⟨rfl, Or.inl ⟨rfl, rfl⟩⟩
  | 12, _ => Or.inr ⟨rfl, Or.inl ⟨rfl, rfl⟩⟩
  | 13, _ => Or.inr ⟨rfl, Or.inl ⟨rfl, rfl⟩⟩
  | 14, _ => Or.inl ⟨by decide, rfl⟩
  | 15, _ => Or.inl ⟨by decide, rfl⟩
  | 16, _ => Or.inl ⟨by decide, rfl⟩
  | 17, _ => Or.inl ⟨by decide, rfl⟩
  | 18, _ => Or.inl ⟨by decide, rfl⟩
  | 19, _ => Or.inl ⟨by decide, rfl⟩
  | 20, _ => Or.inl ⟨by decide, rfl⟩
  | 21, _ => Or.inl ⟨by decide, rfl⟩
  | 22, _ => Or.inl ⟨by decide, rfl⟩
  | 23, _ => Or.inl ⟨by decide, rfl⟩
  | 24, _ => Or.inl ⟨by decide, rfl⟩
  | 25, _ => Or.inl ⟨by decide, rfl⟩
  | 26, _ => Or.inl ⟨by decide, rfl⟩
  | 27, _ => Or.inl ⟨by decide, rfl⟩
  | 28, _ => Or.inl ⟨by decide, rfl⟩
  | 29, _ => Or.inl ⟨by decide, rfl⟩
  | 30, _ => Or.inl ⟨by decide, rfl⟩
  | 31, _ => Or.inl ⟨by decide, rfl⟩
  | 32, _ => Or.inl ⟨by decide, rfl⟩
  | 33, _ => Or.inl ⟨by decide, rfl⟩
  | 34, _ => Or.inl ⟨by decide, rfl⟩
  | 35, _ => Or.inr ⟨rfl, Or.inl ⟨rfl, rfl⟩⟩
  | 36, _ => Or.inr ⟨rfl, Or.inl ⟨rfl, rfl⟩⟩
  | 37, _ => Or.inr ⟨rfl, Or.inl ⟨rfl, rfl⟩⟩
  | 38, _ => Or.inl ⟨by decide, rfl⟩
  | 39, _ => Or.inl ⟨by decide, rfl⟩
  | 40, _ => Or.inl ⟨by decide, rfl⟩
  | 41, _ => Or.inl ⟨by decide, rfl⟩
  | 42, _ => Or.inl ⟨by decide, rfl⟩
  | 43, _ => Or.inr ⟨rfl, Or.inl ⟨rfl, rfl⟩⟩
  | 44, _ => Or.inr ⟨rfl, Or.inl ⟨rfl, rfl⟩⟩
  | 45, _ => Or.inl ⟨by decide, rfl⟩
  | 46, _ => Or.inr ⟨rfl, Or.inl ⟨rfl, rfl⟩⟩
  | 47, _ => Or.inr ⟨rfl, Or.inl ⟨rfl, rfl⟩⟩
  | 48, _ => Or.inl ⟨by decide, rfl⟩
  | 49, _ => Or.inl ⟨by decide, rfl⟩
  | 50, _ => Or.inl ⟨by decide, rfl⟩
  | 51, _ => Or.inl ⟨by decide, rfl⟩
  | 52, _ => Or.inl ⟨by decide, rfl⟩
  | 53, _ => Or.inl ⟨by decide, rfl⟩
  | 54, _ => Or.inl ⟨by decide, rfl⟩
  | 55, _ => Or.inl ⟨by decide, rfl⟩
  | 56, _ => Or.inl ⟨by decide, rfl⟩
  | 57, _ => Or.inl ⟨by decide, rfl⟩
  | 58, _ => Or.inr ⟨rfl, Or.inl ⟨rfl, rfl⟩⟩
  | 59, _ => Or.inr ⟨rfl, Or.inl ⟨rfl, rfl⟩⟩
  | 60, _ => Or.inr ⟨rfl, Or.inr ⟨rfl, rfl⟩⟩
  | 61, _ => Or.inl ⟨by decide, rfl⟩
  | 62, _ => Or.inl ⟨by decide, rfl⟩
  | 63, _ => Or.inr ⟨rfl, Or.inl ⟨rfl, rfl⟩⟩
  | 64, _ => Or.inr ⟨rfl, Or.inl ⟨rfl, rfl⟩⟩
  | 65, _ => Or.inl ⟨by decide, rfl⟩
  | 66, _ => Or.inl ⟨by decide, rfl⟩
  | 67, _ => Or.inl ⟨by decide, rfl⟩
  | 68, _ => Or.inr ⟨rfl, Or.inl ⟨rfl, rfl⟩⟩
  | 69, _ => Or.inr ⟨rfl, Or.inl ⟨rfl, rfl⟩⟩
  | 70, _ => Or.inl ⟨by decide, rfl⟩
  | 71, _ => Or.inl ⟨by decide, rfl⟩
  | 72, _ => Or.inl ⟨by decide, rfl⟩
  | 73, _ => Or.inl ⟨by decide, rfl⟩
  | 74, _ => Or.inl ⟨by decide, rfl⟩
  | 75, _ => Or.inl ⟨by decide, rfl⟩
  | 76, _ => Or.inr ⟨rfl, Or.inl ⟨rfl, rfl⟩⟩
  | n + 77, h => absurd (show n + 77 < 77 from h) (by omega)
theorem dX13_init_0 : decode cX13_init 0 = .ok (.aload_n 0, 1) := by decide +kernel
theorem dX13_init_1 : decode cX13_init 1 = .ok (.invokespecial 1, 3) := by decide +kernel
theorem dX13_init_4 : decode cX13_init 4 = .ok (.aload_n 0, 1) := by decide +kernel
theorem dX13_init_5 : decode cX13_init 5 = .ok (.sipush 1800, 3) := by decide +kernel
theorem dX13_init_8 : decode cX13_init 8 = .ok (.newarray .int, 2) := by decide +kernel
theorem dX13_init_10 : decode cX13_init 10 = .ok (.putfield 7, 3) := by decide +kernel
theorem dX13_init_13 : decode cX13_init 13 = .ok (.aload_n 0, 1) := by decide +kernel
theorem dX13_init_14 : decode cX13_init 14 = .ok (.iconst 0, 1) := by decide +kernel
theorem dX13_init_15 : decode cX13_init 15 = .ok (.putfield 13, 3) := by decide +kernel
theorem dX13_init_18 : decode cX13_init 18 = .ok (.aload_n 0, 1) := by decide +kernel
theorem dX13_init_19 : decode cX13_init 19 = .ok (.iconst 0, 1) := by decide +kernel
theorem dX13_init_20 : decode cX13_init 20 = .ok (.putfield 17, 3) := by decide +kernel
theorem dX13_init_23 : decode cX13_init 23 = .ok (.aload_n 0, 1) := by decide +kernel
theorem dX13_init_24 : decode cX13_init 24 = .ok (.iconst 0, 1) := by decide +kernel
theorem dX13_init_25 : decode cX13_init 25 = .ok (.putfield 20, 3) := by decide +kernel
theorem dX13_init_28 : decode cX13_init 28 = .ok (.aload_n 0, 1) := by decide +kernel
theorem dX13_init_29 : decode cX13_init 29 = .ok (.iconst 0, 1) := by decide +kernel
theorem dX13_init_30 : decode cX13_init 30 = .ok (.putfield 23, 3) := by decide +kernel
theorem dX13_init_33 : decode cX13_init 33 = .ok (.aload_n 0, 1) := by decide +kernel
theorem dX13_init_34 : decode cX13_init 34 = .ok (.iconst 0, 1) := by decide +kernel
theorem dX13_init_35 : decode cX13_init 35 = .ok (.putfield 26, 3) := by decide +kernel
theorem dX13_init_38 : decode cX13_init 38 = .ok (.aload_n 0, 1) := by decide +kernel
theorem dX13_init_39 : decode cX13_init 39 = .ok (.iconst 0, 1) := by decide +kernel
theorem dX13_init_40 : decode cX13_init 40 = .ok (.putfield 29, 3) := by decide +kernel
theorem dX13_init_43 : decode cX13_init 43 = .ok (.aload_n 0, 1) := by decide +kernel
theorem dX13_init_44 : decode cX13_init 44 = .ok (.lconst 0, 1) := by decide +kernel
theorem dX13_init_45 : decode cX13_init 45 = .ok (.putfield 32, 3) := by decide +kernel
theorem dX13_init_48 : decode cX13_init 48 = .ok (.aload_n 0, 1) := by decide +kernel
theorem dX13_init_49 : decode cX13_init 49 = .ok (.iconst 0, 1) := by decide +kernel
theorem dX13_init_50 : decode cX13_init 50 = .ok (.putfield 36, 3) := by decide +kernel
theorem dX13_init_53 : decode cX13_init 53 = .ok (.aload_n 0, 1) := by decide +kernel
theorem dX13_init_54 : decode cX13_init 54 = .ok (.iconst (-1), 1) := by decide +kernel
theorem dX13_init_55 : decode cX13_init 55 = .ok (.putfield 39, 3) := by decide +kernel
theorem dX13_init_58 : decode cX13_init 58 = .ok (.aload_n 0, 1) := by decide +kernel
theorem dX13_init_59 : decode cX13_init 59 = .ok (.iconst 0, 1) := by decide +kernel
theorem dX13_init_60 : decode cX13_init 60 = .ok (.putfield 42, 3) := by decide +kernel
theorem dX13_init_63 : decode cX13_init 63 = .ok (.aload_n 0, 1) := by decide +kernel
theorem dX13_init_64 : decode cX13_init 64 = .ok (.iconst (-1), 1) := by decide +kernel
theorem dX13_init_65 : decode cX13_init 65 = .ok (.putfield 45, 3) := by decide +kernel
theorem dX13_init_68 : decode cX13_init 68 = .ok (.aload_n 0, 1) := by decide +kernel
theorem dX13_init_69 : decode cX13_init 69 = .ok (.iconst (-1), 1) := by decide +kernel
theorem dX13_init_70 : decode cX13_init 70 = .ok (.putfield 48, 3) := by decide +kernel
theorem dX13_init_73 : decode cX13_init 73 = .ok (.aload_n 0, 1) := by decide +kernel
theorem dX13_init_74 : decode cX13_init 74 = .ok (.iconst 0, 1) := by decide +kernel
theorem dX13_init_75 : decode cX13_init 75 = .ok (.putfield 51, 3) := by decide +kernel
theorem dX13_init_78 : decode cX13_init 78 = .ok (.aload_n 0, 1) := by decide +kernel
theorem dX13_init_79 : decode cX13_init 79 = .ok (.iconst 2, 1) := by decide +kernel
theorem dX13_init_80 : decode cX13_init 80 = .ok (.newarray .int, 2) := by decide +kernel
theorem dX13_init_82 : decode cX13_init 82 = .ok (.putfield 54, 3) := by decide +kernel
theorem dX13_init_85 : decode cX13_init 85 = .ok (.aload_n 0, 1) := by decide +kernel
theorem dX13_init_86 : decode cX13_init 86 = .ok (.bipush 12, 2) := by decide +kernel
theorem dX13_init_88 : decode cX13_init 88 = .ok (.newarray .int, 2) := by decide +kernel
theorem dX13_init_90 : decode cX13_init 90 = .ok (.putfield 57, 3) := by decide +kernel
theorem dX13_init_93 : decode cX13_init 93 = .ok (.aload_n 0, 1) := by decide +kernel
theorem dX13_init_94 : decode cX13_init 94 = .ok (.bipush 12, 2) := by decide +kernel
theorem dX13_init_96 : decode cX13_init 96 = .ok (.newarray .int, 2) := by decide +kernel
theorem dX13_init_98 : decode cX13_init 98 = .ok (.putfield 60, 3) := by decide +kernel
theorem dX13_init_101 : decode cX13_init 101 = .ok (.aload_n 0, 1) := by decide +kernel
theorem dX13_init_102 : decode cX13_init 102 = .ok (.iconst 2, 1) := by decide +kernel
theorem dX13_init_103 : decode cX13_init 103 = .ok (.newarray .int, 2) := by decide +kernel
theorem dX13_init_105 : decode cX13_init 105 = .ok (.putfield 63, 3) := by decide +kernel
theorem dX13_init_108 : decode cX13_init 108 = .ok (.aload_n 0, 1) := by decide +kernel
theorem dX13_init_109 : decode cX13_init 109 = .ok (.bipush 16, 2) := by decide +kernel
theorem dX13_init_111 : decode cX13_init 111 = .ok (.newarray .int, 2) := by decide +kernel
theorem dX13_init_113 : decode cX13_init 113 = .ok (.putfield 66, 3) := by decide +kernel
theorem dX13_init_116 : decode cX13_init 116 = .ok (.aload_n 0, 1) := by decide +kernel
theorem dX13_init_117 : decode cX13_init 117 = .ok (.bipush 16, 2) := by decide +kernel
theorem dX13_init_119 : decode cX13_init 119 = .ok (.newarray .int, 2) := by decide +kernel
theorem dX13_init_121 : decode cX13_init 121 = .ok (.putfield 69, 3) := by decide +kernel
theorem dX13_init_124 : decode cX13_init 124 = .ok (.aload_n 0, 1) := by decide +kernel
theorem dX13_init_125 : decode cX13_init 125 = .ok (.bipush 16, 2) := by decide +kernel
theorem dX13_init_127 : decode cX13_init 127 = .ok (.newarray .int, 2) := by decide +kernel
theorem dX13_init_129 : decode cX13_init 129 = .ok (.putfield 72, 3) := by decide +kernel
theorem dX13_init_132 : decode cX13_init 132 = .ok (.aload_n 0, 1) := by decide +kernel
theorem dX13_init_133 : decode cX13_init 133 = .ok (.iconst 2, 1) := by decide +kernel
theorem dX13_init_134 : decode cX13_init 134 = .ok (.newarray .int, 2) := by decide +kernel
theorem dX13_init_136 : decode cX13_init 136 = .ok (.putfield 75, 3) := by decide +kernel
theorem dX13_init_139 : decode cX13_init 139 = .ok (.aload_n 0, 1) := by decide +kernel
theorem dX13_init_140 : decode cX13_init 140 = .ok (.bipush 20, 2) := by decide +kernel
theorem dX13_init_142 : decode cX13_init 142 = .ok (.newarray .int, 2) := by decide +kernel
theorem dX13_init_144 : decode cX13_init 144 = .ok (.putfield 78, 3) := by decide +kernel
theorem dX13_init_147 : decode cX13_init 147 = .ok (.aload_n 0, 1) := by decide +kernel
theorem dX13_init_148 : decode cX13_init 148 = .ok (.bipush 20, 2) := by decide +kernel
theorem dX13_init_150 : decode cX13_init 150 = .ok (.newarray .int, 2) := by decide +kernel
theorem dX13_init_152 : decode cX13_init 152 = .ok (.putfield 81, 3) := by decide +kernel
theorem dX13_init_155 : decode cX13_init 155 = .ok (.aload_n 0, 1) := by decide +kernel
theorem dX13_init_156 : decode cX13_init 156 = .ok (.iconst 2, 1) := by decide +kernel
theorem dX13_init_157 : decode cX13_init 157 = .ok (.newarray .int, 2) := by decide +kernel
theorem dX13_init_159 : decode cX13_init 159 = .ok (.putfield 84, 3) := by decide +kernel
theorem dX13_init_162 : decode cX13_init 162 = .ok (.aload_n 0, 1) := by decide +kernel
theorem dX13_init_163 : decode cX13_init 163 = .ok (.bipush 8, 2) := by decide +kernel
theorem dX13_init_165 : decode cX13_init 165 = .ok (.newarray .int, 2) := by decide +kernel
theorem dX13_init_167 : decode cX13_init 167 = .ok (.putfield 87, 3) := by decide +kernel
theorem dX13_init_170 : decode cX13_init 170 = .ok (.aload_n 0, 1) := by decide +kernel
theorem dX13_init_171 : decode cX13_init 171 = .ok (.bipush 8, 2) := by decide +kernel
theorem dX13_init_173 : decode cX13_init 173 = .ok (.newarray .int, 2) := by decide +kernel
theorem dX13_init_175 : decode cX13_init 175 = .ok (.putfield 90, 3) := by decide +kernel
theorem dX13_init_178 : decode cX13_init 178 = .ok (.aload_n 0, 1) := by decide +kernel
theorem dX13_init_179 : decode cX13_init 179 = .ok (.bipush 10, 2) := by decide +kernel
theorem dX13_init_181 : decode cX13_init 181 = .ok (.newarray .int, 2) := by decide +kernel
theorem dX13_init_183 : decode cX13_init 183 = .ok (.putfield 93, 3) := by decide +kernel
theorem dX13_init_186 : decode cX13_init 186 = .ok (.aload_n 0, 1) := by decide +kernel
theorem dX13_init_187 : decode cX13_init 187 = .ok (.iconst 4, 1) := by decide +kernel
theorem dX13_init_188 : decode cX13_init 188 = .ok (.newarray .int, 2) := by decide +kernel
theorem dX13_init_190 : decode cX13_init 190 = .ok (.putfield 96, 3) := by decide +kernel
theorem dX13_init_193 : decode cX13_init 193 = .ok (.aload_n 0, 1) := by decide +kernel
theorem dX13_init_194 : decode cX13_init 194 = .ok (.iconst 4, 1) := by decide +kernel
theorem dX13_init_195 : decode cX13_init 195 = .ok (.newarray .int, 2) := by decide +kernel
theorem dX13_init_197 : decode cX13_init 197 = .ok (.putfield 99, 3) := by decide +kernel
theorem dX13_init_200 : decode cX13_init 200 = .ok (.aload_n 0, 1) := by decide +kernel
theorem dX13_init_201 : decode cX13_init 201 = .ok (.sipush 3200, 3) := by decide +kernel
theorem dX13_init_204 : decode cX13_init 204 = .ok (.newarray .int, 2) := by decide +kernel
theorem dX13_init_206 : decode cX13_init 206 = .ok (.putfield 102, 3) := by decide +kernel
theorem dX13_init_209 : decode cX13_init 209 = .ok (.aload_n 0, 1) := by decide +kernel
theorem dX13_init_210 : decode cX13_init 210 = .ok (.sipush 3200, 3) := by decide +kernel
theorem dX13_init_213 : decode cX13_init 213 = .ok (.newarray .int, 2) := by decide +kernel
theorem dX13_init_215 : decode cX13_init 215 = .ok (.putfield 105, 3) := by decide +kernel
theorem dX13_init_218 : decode cX13_init 218 = .ok (.aload_n 0, 1) := by decide +kernel
theorem dX13_init_219 : decode cX13_init 219 = .ok (.bipush 12, 2) := by decide +kernel
theorem dX13_init_221 : decode cX13_init 221 = .ok (.newarray .long, 2) := by decide +kernel
theorem dX13_init_223 : decode cX13_init 223 = .ok (.putfield 108, 3) := by decide +kernel
theorem dX13_init_226 : decode cX13_init 226 = .ok (.aload_n 0, 1) := by decide +kernel
theorem dX13_init_227 : decode cX13_init 227 = .ok (.bipush 16, 2) := by decide +kernel
theorem dX13_init_229 : decode cX13_init 229 = .ok (.newarray .long, 2) := by decide +kernel
theorem dX13_init_231 : decode cX13_init 231 = .ok (.putfield 112, 3) := by decide +kernel
theorem dX13_init_234 : decode cX13_init 234 = .ok (.aload_n 0, 1) := by decide +kernel
theorem dX13_init_235 : decode cX13_init 235 = .ok (.bipush 8, 2) := by decide +kernel
theorem dX13_init_237 : decode cX13_init 237 = .ok (.newarray .long, 2) := by decide +kernel
theorem dX13_init_239 : decode cX13_init 239 = .ok (.putfield 115, 3) := by decide +kernel
theorem dX13_init_242 : decode cX13_init 242 = .ok (.aload_n 0, 1) := by decide +kernel
theorem dX13_init_243 : decode cX13_init 243 = .ok (.iconst 0, 1) := by decide +kernel
theorem dX13_init_244 : decode cX13_init 244 = .ok (.putfield 118, 3) := by decide +kernel
theorem dX13_init_247 : decode cX13_init 247 = .ok (.aload_n 0, 1) := by decide +kernel
theorem dX13_init_248 : decode cX13_init 248 = .ok (.iconst 1, 1) := by decide +kernel
theorem dX13_init_249 : decode cX13_init 249 = .ok (.putfield 121, 3) := by decide +kernel
theorem dX13_init_252 : decode cX13_init 252 = .ok (.aload_n 0, 1) := by decide +kernel
theorem dX13_init_253 : decode cX13_init 253 = .ok (.iconst 0, 1) := by decide +kernel
theorem dX13_init_254 : decode cX13_init 254 = .ok (.putfield 124, 3) := by decide +kernel
theorem dX13_init_257 : decode cX13_init 257 = .ok (.aload_n 0, 1) := by decide +kernel
theorem dX13_init_258 : decode cX13_init 258 = .ok (.bipush 20, 2) := by decide +kernel
theorem dX13_init_260 : decode cX13_init 260 = .ok (.newarray .int, 2) := by decide +kernel
theorem dX13_init_262 : decode cX13_init 262 = .ok (.putfield 128, 3) := by decide +kernel
theorem dX13_init_265 : decode cX13_init 265 = .ok (.aload_n 0, 1) := by decide +kernel
theorem dX13_init_266 : decode cX13_init 266 = .ok (.bipush 20, 2) := by decide +kernel
theorem dX13_init_268 : decode cX13_init 268 = .ok (.newarray .int, 2) := by decide +kernel
theorem dX13_init_270 : decode cX13_init 270 = .ok (.putfield 131, 3) := by decide +kernel
theorem dX13_init_273 : decode cX13_init 273 = .ok (.aload_n 0, 1) := by decide +kernel
theorem dX13_init_274 : decode cX13_init 274 = .ok (.bipush 20, 2) := by decide +kernel
theorem dX13_init_276 : decode cX13_init 276 = .ok (.newarray .boolean, 2) := by decide +kernel
theorem dX13_init_278 : decode cX13_init 278 = .ok (.putfield 134, 3) := by decide +kernel
theorem dX13_init_281 : decode cX13_init 281 = .ok (.aload_n 0, 1) := by decide +kernel
theorem dX13_init_282 : decode cX13_init 282 = .ok (.bipush 20, 2) := by decide +kernel
theorem dX13_init_284 : decode cX13_init 284 = .ok (.newarray .int, 2) := by decide +kernel
theorem dX13_init_286 : decode cX13_init 286 = .ok (.putfield 138, 3) := by decide +kernel
theorem dX13_init_289 : decode cX13_init 289 = .ok (.aload_n 0, 1) := by decide +kernel
theorem dX13_init_290 : decode cX13_init 290 = .ok (.bipush 20, 2) := by decide +kernel
theorem dX13_init_292 : decode cX13_init 292 = .ok (.newarray .int, 2) := by decide +kernel
theorem dX13_init_294 : decode cX13_init 294 = .ok (.putfield 141, 3) := by decide +kernel
theorem dX13_init_297 : decode cX13_init 297 = .ok (.aload_n 0, 1) := by decide +kernel
theorem dX13_init_298 : decode cX13_init 298 = .ok (.iconst 0, 1) := by decide +kernel
theorem dX13_init_299 : decode cX13_init 299 = .ok (.putfield 144, 3) := by decide +kernel
theorem dX13_init_302 : decode cX13_init 302 = .ok (.aload_n 0, 1) := by decide +kernel
theorem dX13_init_303 : decode cX13_init 303 = .ok (.iconst 0, 1) := by decide +kernel
theorem dX13_init_304 : decode cX13_init 304 = .ok (.putfield 147, 3) := by decide +kernel
theorem dX13_init_307 : decode cX13_init 307 = .ok (.aload_n 0, 1) := by decide +kernel
theorem dX13_init_308 : decode cX13_init 308 = .ok (.sipush 500, 3) := by decide +kernel
theorem dX13_init_311 : decode cX13_init 311 = .ok (.newarray .int, 2) := by decide +kernel
theorem dX13_init_313 : decode cX13_init 313 = .ok (.putfield 150, 3) := by decide +kernel
theorem dX13_init_316 : decode cX13_init 316 = .ok (.aload_n 0, 1) := by decide +kernel
theorem dX13_init_317 : decode cX13_init 317 = .ok (.iconst 0, 1) := by decide +kernel
theorem dX13_init_318 : decode cX13_init 318 = .ok (.putfield 153, 3) := by decide +kernel
theorem dX13_init_321 : decode cX13_init 321 = .ok (.aload_n 0, 1) := by decide +kernel
theorem dX13_init_322 : decode cX13_init 322 = .ok (.iconst 0, 1) := by decide +kernel
theorem dX13_init_323 : decode cX13_init 323 = .ok (.putfield 156, 3) := by decide +kernel
theorem dX13_init_326 : decode cX13_init 326 = .ok (.aload_n 0, 1) := by decide +kernel
theorem dX13_init_327 : decode cX13_init 327 = .ok (.bipush 6, 2) := by decide +kernel
theorem dX13_init_329 : decode cX13_init 329 = .ok (.newarray .int, 2) := by decide +kernel
theorem dX13_init_331 : decode cX13_init 331 = .ok (.putfield 159, 3) := by decide +kernel
theorem dX13_init_334 : decode cX13_init 334 = .ok (.aload_n 0, 1) := by decide +kernel
theorem dX13_init_335 : decode cX13_init 335 = .ok (.bipush 23, 2) := by decide +kernel
theorem dX13_init_337 : decode cX13_init 337 = .ok (.newarray .int, 2) := by decide +kernel
theorem dX13_init_339 : decode cX13_init 339 = .ok (.putfield 162, 3) := by decide +kernel
theorem dX13_init_342 : decode cX13_init 342 = .ok (.aload_n 0, 1) := by decide +kernel
theorem dX13_init_343 : decode cX13_init 343 = .ok (.bipush 23, 2) := by decide +kernel
theorem dX13_init_345 : decode cX13_init 345 = .ok (.newarray .int, 2) := by decide +kernel
theorem dX13_init_347 : decode cX13_init 347 = .ok (.putfield 165, 3) := by decide +kernel
theorem dX13_init_350 : decode cX13_init 350 = .ok (.aload_n 0, 1) := by decide +kernel
theorem dX13_init_351 : decode cX13_init 351 = .ok (.sipush 184, 3) := by decide +kernel
theorem dX13_init_354 : decode cX13_init 354 = .ok (.newarray .int, 2) := by decide +kernel
theorem dX13_init_356 : decode cX13_init 356 = .ok (.putfield 168, 3) := by decide +kernel
theorem dX13_init_359 : decode cX13_init 359 = .ok (.aload_n 0, 1) := by decide +kernel
theorem dX13_init_360 : decode cX13_init 360 = .ok (.sipush 184, 3) := by decide +kernel
theorem dX13_init_363 : decode cX13_init 363 = .ok (.newarray .int, 2) := by decide +kernel
theorem dX13_init_365 : decode cX13_init 365 = .ok (.putfield 171, 3) := by decide +kernel
theorem dX13_init_368 : decode cX13_init 368 = .ok (.aload_n 0, 1) := by decide +kernel
theorem dX13_init_369 : decode cX13_init 369 = .ok (.sipush 184, 3) := by decide +kernel
theorem dX13_init_372 : decode cX13_init 372 = .ok (.newarray .int, 2) := by decide +kernel
theorem dX13_init_374 : decode cX13_init 374 = .ok (.putfield 174, 3) := by decide +kernel
theorem dX13_init_377 : decode cX13_init 377 = .ok (.aload_n 0, 1) := by decide +kernel
theorem dX13_init_378 : decode cX13_init 378 = .ok (.sipush 184, 3) := by decide +kernel
theorem dX13_init_381 : decode cX13_init 381 = .ok (.newarray .int, 2) := by decide +kernel
theorem dX13_init_383 : decode cX13_init 383 = .ok (.putfield 177, 3) := by decide +kernel
theorem dX13_init_386 : decode cX13_init 386 = .ok (.aload_n 0, 1) := by decide +kernel
theorem dX13_init_387 : decode cX13_init 387 = .ok (.sipush 184, 3) := by decide +kernel
theorem dX13_init_390 : decode cX13_init 390 = .ok (.newarray .int, 2) := by decide +kernel
theorem dX13_init_392 : decode cX13_init 392 = .ok (.putfield 180, 3) := by decide +kernel
theorem dX13_init_395 : decode cX13_init 395 = .ok (.aload_n 0, 1) := by decide +kernel
theorem dX13_init_396 : decode cX13_init 396 = .ok (.bipush 23, 2) := by decide +kernel
theorem dX13_init_398 : decode cX13_init 398 = .ok (.newarray .int, 2) := by decide +kernel
theorem dX13_init_400 : decode cX13_init 400 = .ok (.putfield 183, 3) := by decide +kernel
theorem dX13_init_403 : decode cX13_init 403 = .ok (.aload_n 0, 1) := by decide +kernel
theorem dX13_init_404 : decode cX13_init 404 = .ok (.sipush 5520, 3) := by decide +kernel
theorem dX13_init_407 : decode cX13_init 407 = .ok (.newarray .int, 2) := by decide +kernel
theorem dX13_init_409 : decode cX13_init 409 = .ok (.putfield 186, 3) := by decide +kernel
theorem dX13_init_412 : decode cX13_init 412 = .ok (.aload_n 0, 1) := by decide +kernel
theorem dX13_init_413 : decode cX13_init 413 = .ok (.iconst 0, 1) := by decide +kernel
theorem dX13_init_414 : decode cX13_init 414 = .ok (.putfield 189, 3) := by decide +kernel
theorem dX13_init_417 : decode cX13_init 417 = .ok (.aload_n 0, 1) := by decide +kernel
theorem dX13_init_418 : decode cX13_init 418 = .ok (.iconst 0, 1) := by decide +kernel
theorem dX13_init_419 : decode cX13_init 419 = .ok (.putfield 192, 3) := by decide +kernel
theorem dX13_init_422 : decode cX13_init 422 = .ok (.aload_n 0, 1) := by decide +kernel
theorem dX13_init_423 : decode cX13_init 423 = .ok (.lconst 1, 1) := by decide +kernel
theorem dX13_init_424 : decode cX13_init 424 = .ok (.putfield 195, 3) := by decide +kernel
theorem dX13_init_427 : decode cX13_init 427 = .ok (.aload_n 0, 1) := by decide +kernel
theorem dX13_init_428 : decode cX13_init 428 = .ok (.sipush 500, 3) := by decide +kernel
theorem dX13_init_431 : decode cX13_init 431 = .ok (.newarray .long, 2) := by decide +kernel
theorem dX13_init_433 : decode cX13_init 433 = .ok (.putfield 198, 3) := by decide +kernel
theorem dX13_init_436 : decode cX13_init 436 = .ok (.aload_n 0, 1) := by decide +kernel
theorem dX13_init_437 : decode cX13_init 437 = .ok (.bipush 12, 2) := by decide +kernel
theorem dX13_init_439 : decode cX13_init 439 = .ok (.newarray .int, 2) := by decide +kernel
theorem dX13_init_441 : decode cX13_init 441 = .ok (.putfield 201, 3) := by decide +kernel
theorem dX13_init_444 : decode cX13_init 444 = .ok (.aload_n 0, 1) := by decide +kernel
theorem dX13_init_445 : decode cX13_init 445 = .ok (.iconst 0, 1) := by decide +kernel
theorem dX13_init_446 : decode cX13_init 446 = .ok (.putfield 204, 3) := by decide +kernel
theorem dX13_init_449 : decode cX13_init 449 = .ok (.aload_n 0, 1) := by decide +kernel
theorem dX13_init_450 : decode cX13_init 450 = .ok (.iconst 0, 1) := by decide +kernel
theorem dX13_init_451 : decode cX13_init 451 = .ok (.putfield 207, 3) := by decide +kernel
theorem dX13_init_454 : decode cX13_init 454 = .ok (.aload_n 0, 1) := by decide +kernel
theorem dX13_init_455 : decode cX13_init 455 = .ok (.bipush 6, 2) := by decide +kernel
theorem dX13_init_457 : decode cX13_init 457 = .ok (.newarray .int, 2) := by decide +kernel
theorem dX13_init_459 : decode cX13_init 459 = .ok (.putfield 210, 3) := by decide +kernel
theorem dX13_init_462 : decode cX13_init 462 = .ok (.aload_n 0, 1) := by decide +kernel
theorem dX13_init_463 : decode cX13_init 463 = .ok (.bipush 6, 2) := by decide +kernel
theorem dX13_init_465 : decode cX13_init 465 = .ok (.newarray .int, 2) := by decide +kernel
theorem dX13_init_467 : decode cX13_init 467 = .ok (.putfield 213, 3) := by decide +kernel
theorem dX13_init_470 : decode cX13_init 470 = .ok (.aload_n 0, 1) := by decide +kernel
theorem dX13_init_471 : decode cX13_init 471 = .ok (.bipush 6, 2) := by decide +kernel
theorem dX13_init_473 : decode cX13_init 473 = .ok (.newarray .int, 2) := by decide +kernel
theorem dX13_init_475 : decode cX13_init 475 = .ok (.putfield 216, 3) := by decide +kernel
theorem dX13_init_478 : decode cX13_init 478 = .ok (.aload_n 0, 1) := by decide +kernel
theorem dX13_init_479 : decode cX13_init 479 = .ok (.iconst 0, 1) := by decide +kernel
theorem dX13_init_480 : decode cX13_init 480 = .ok (.putfield 219, 3) := by decide +kernel
theorem dX13_init_483 : decode cX13_init 483 = .ok (.aload_n 0, 1) := by decide +kernel
theorem dX13_init_484 : decode cX13_init 484 = .ok (.iconst 0, 1) := by decide +kernel
theorem dX13_init_485 : decode cX13_init 485 = .ok (.putfield 222, 3) := by decide +kernel
theorem dX13_init_488 : decode cX13_init 488 = .ok (.aload_n 0, 1) := by decide +kernel
theorem dX13_init_489 : decode cX13_init 489 = .ok (.bipush 16, 2) := by decide +kernel
theorem dX13_init_491 : decode cX13_init 491 = .ok (.newarray .int, 2) := by decide +kernel
theorem dX13_init_493 : decode cX13_init 493 = .ok (.putfield 225, 3) := by decide +kernel
theorem dX13_init_496 : decode cX13_init 496 = .ok (.aload_n 0, 1) := by decide +kernel
theorem dX13_init_497 : decode cX13_init 497 = .ok (.bipush 16, 2) := by decide +kernel
theorem dX13_init_499 : decode cX13_init 499 = .ok (.newarray .int, 2) := by decide +kernel
theorem dX13_init_501 : decode cX13_init 501 = .ok (.putfield 228, 3) := by decide +kernel
theorem dX13_init_504 : decode cX13_init 504 = .ok (.aload_n 0, 1) := by decide +kernel
theorem dX13_init_505 : decode cX13_init 505 = .ok (.bipush 6, 2) := by decide +kernel
theorem dX13_init_507 : decode cX13_init 507 = .ok (.newarray .int, 2) := by decide +kernel
theorem dX13_init_509 : decode cX13_init 509 = .ok (.putfield 231, 3) := by decide +kernel
theorem dX13_init_512 : decode cX13_init 512 = .ok (.aload_n 0, 1) := by decide +kernel
theorem dX13_init_513 : decode cX13_init 513 = .ok (.sipush 625, 3) := by decide +kernel
theorem dX13_init_516 : decode cX13_init 516 = .ok (.newarray .boolean, 2) := by decide +kernel
theorem dX13_init_518 : decode cX13_init 518 = .ok (.putfield 234, 3) := by decide +kernel
theorem dX13_init_521 : decode cX13_init 521 = .ok (.aload_n 0, 1) := by decide +kernel
theorem dX13_init_522 : decode cX13_init 522 = .ok (.iconst 4, 1) := by decide +kernel
theorem dX13_init_523 : decode cX13_init 523 = .ok (.newarray .int, 2) := by decide +kernel
theorem dX13_init_525 : decode cX13_init 525 = .ok (.putfield 237, 3) := by decide +kernel
theorem dX13_init_528 : decode cX13_init 528 = .ok (.aload_n 0, 1) := by decide +kernel
theorem dX13_init_529 : decode cX13_init 529 = .ok (.bipush 70, 2) := by decide +kernel
theorem dX13_init_531 : decode cX13_init 531 = .ok (.newarray .int, 2) := by decide +kernel
theorem dX13_init_533 : decode cX13_init 533 = .ok (.putfield 240, 3) := by decide +kernel
theorem dX13_init_536 : decode cX13_init 536 = .ok (.aload_n 0, 1) := by decide +kernel
theorem dX13_init_537 : decode cX13_init 537 = .ok (.iconst 0, 1) := by decide +kernel
theorem dX13_init_538 : decode cX13_init 538 = .ok (.putfield 243, 3) := by decide +kernel
theorem dX13_init_541 : decode cX13_init 541 = .ok (.iconst 0, 1) := by decide +kernel
theorem dX13_init_542 : decode cX13_init 542 = .ok (.istore_n 1, 1) := by decide +kernel
theorem dX13_init_543 : decode cX13_init 543 = .ok (.iload_n 1, 1) := by decide +kernel
theorem dX13_init_544 : decode cX13_init 544 = .ok (.iconst 4, 1) := by decide +kernel
theorem dX13_init_545 : decode cX13_init 545 = .ok (.if_icmp .ge 16, 3) := by decide +kernel
theorem dX13_init_548 : decode cX13_init 548 = .ok (.aload_n 0, 1) := by decide +kernel
theorem dX13_init_549 : decode cX13_init 549 = .ok (.getfield 96, 3) := by decide +kernel
theorem dX13_init_552 : decode cX13_init 552 = .ok (.iload_n 1, 1) := by decide +kernel
theorem dX13_init_553 : decode cX13_init 553 = .ok (.iconst (-1), 1) := by decide +kernel
theorem dX13_init_554 : decode cX13_init 554 = .ok (.iastore, 1) := by decide +kernel
theorem dX13_init_555 : decode cX13_init 555 = .ok (.iinc 1 1, 3) := by decide +kernel
theorem dX13_init_558 : decode cX13_init 558 = .ok (.goto (-15), 3) := by decide +kernel
theorem dX13_init_561 : decode cX13_init 561 = .ok (.iconst 0, 1) := by decide +kernel
theorem dX13_init_562 : decode cX13_init 562 = .ok (.istore_n 1, 1) := by decide +kernel
theorem dX13_init_563 : decode cX13_init 563 = .ok (.iload_n 1, 1) := by decide +kernel
theorem dX13_init_564 : decode cX13_init 564 = .ok (.iconst 2, 1) := by decide +kernel
theorem dX13_init_565 : decode cX13_init 565 = .ok (.if_icmp .ge 14, 3) := by decide +kernel
theorem dX13_init_568 : decode cX13_init 568 = .ok (.aload_n 0, 1) := by decide +kernel
theorem dX13_init_569 : decode cX13_init 569 = .ok (.iload_n 1, 1) := by decide +kernel
theorem dX13_init_570 : decode cX13_init 570 = .ok (.invokevirtual 246, 3) := by decide +kernel
theorem dX13_init_573 : decode cX13_init 573 = .ok (.iinc 1 1, 3) := by decide +kernel
theorem dX13_init_576 : decode cX13_init 576 = .ok (.goto (-13), 3) := by decide +kernel
theorem dX13_init_579 : decode cX13_init 579 = .ok (.return_, 1) := by decide +kernel
theorem lo_X1 : Cond.methodLink RX1 5 Lib.objectInit ∈ lwG ∧ Cond.instanceMethod Lib.objectInit ∈ lwG ∧ Cond.code Lib.objectInit ⟨#[0xb1]⟩ 1 none ∈ lwG := ⟨lwc_2 130 (by decide +kernel) (by decide +kernel), lo_in, lo_co⟩
theorem cl_X1_11 : Cond.classLink RX1 11 "[[I" ∈ lwG := lwc_2 131 (by decide +kernel) (by decide +kernel)
theorem lo_X2 : Cond.methodLink RX2 3 Lib.objectInit ∈ lwG ∧ Cond.instanceMethod Lib.objectInit ∈ lwG ∧ Cond.code Lib.objectInit ⟨#[0xb1]⟩ 1 none ∈ lwG := ⟨lwc_1 59 (by decide +kernel) (by decide +kernel), lo_in, lo_co⟩
theorem lo_X3 : Cond.methodLink RX3 3 Lib.objectInit ∈ lwG ∧ Cond.instanceMethod Lib.objectInit ∈ lwG ∧ Cond.code Lib.objectInit ⟨#[0xb1]⟩ 1 none ∈ lwG := ⟨lwc_2 165 (by decide +kernel) (by decide +kernel), lo_in, lo_co⟩
theorem lo_X6 : Cond.methodLink RX6 3 Lib.objectInit ∈ lwG ∧ Cond.instanceMethod Lib.objectInit ∈ lwG ∧ Cond.code Lib.objectInit ⟨#[0xb1]⟩ 1 none ∈ lwG := ⟨lwc_1 194 (by decide +kernel) (by decide +kernel), lo_in, lo_co⟩
theorem lo_X4 : Cond.methodLink RX4 3 Lib.objectInit ∈ lwG ∧ Cond.instanceMethod Lib.objectInit ∈ lwG ∧ Cond.code Lib.objectInit ⟨#[0xb1]⟩ 1 none ∈ lwG := ⟨lwc_1 188 (by decide +kernel) (by decide +kernel), lo_in, lo_co⟩
theorem cl_X4_9 : Cond.classLink RX4 9 (cNm 5) ∈ lwG := lwc_1 189 (by decide +kernel) (by decide +kernel)
theorem oi_X4_11 : okI RX4 11 M_X6_init 1 := ⟨⟨lwc_1 191 (by decide +kernel) (by decide +kernel), mi_X6_init, in_X6, mc_X6_init⟩, by decide +kernel, by decide⟩
theorem lo_X11 : Cond.methodLink RX11 3 Lib.objectInit ∈ lwG ∧ Cond.instanceMethod Lib.objectInit ∈ lwG ∧ Cond.code Lib.objectInit ⟨#[0xb1]⟩ 1 none ∈ lwG := ⟨lwc_2 10 (by decide +kernel) (by decide +kernel), lo_in, lo_co⟩
theorem lo_X5 : Cond.methodLink RX5 3 Lib.objectInit ∈ lwG ∧ Cond.instanceMethod Lib.objectInit ∈ lwG ∧ Cond.code Lib.objectInit ⟨#[0xb1]⟩ 1 none ∈ lwG := ⟨lwc_2 103 (by decide +kernel) (by decide +kernel), lo_in, lo_co⟩
theorem cl_X5_18 : Cond.classLink RX5 18 (cNm 9) ∈ lwG := lwc_2 104 (by decide +kernel) (by decide +kernel)
theorem oi_X5_20 : okI RX5 20 M_X11_init 1 := ⟨⟨lwc_2 105 (by decide +kernel) (by decide +kernel), mi_X11_init, in_X11, mc_X11_init⟩, by decide +kernel, by decide⟩
theorem lo_X7 : Cond.methodLink RX7 3 Lib.objectInit ∈ lwG ∧ Cond.instanceMethod Lib.objectInit ∈ lwG ∧ Cond.code Lib.objectInit ⟨#[0xb1]⟩ 1 none ∈ lwG := ⟨lwc_2 148 (by decide +kernel) (by decide +kernel), lo_in, lo_co⟩
theorem lo_X8 : Cond.methodLink RX8 3 Lib.objectInit ∈ lwG ∧ Cond.instanceMethod Lib.objectInit ∈ lwG ∧ Cond.code Lib.objectInit ⟨#[0xb1]⟩ 1 none ∈ lwG := ⟨lwc_1 33 (by decide +kernel) (by decide +kernel), lo_in, lo_co⟩
theorem lo_X9 : Cond.methodLink RX9 3 Lib.objectInit ∈ lwG ∧ Cond.instanceMethod Lib.objectInit ∈ lwG ∧ Cond.code Lib.objectInit ⟨#[0xb1]⟩ 1 none ∈ lwG := ⟨lwc_1 51 (by decide +kernel) (by decide +kernel), lo_in, lo_co⟩
theorem cl_X9_15 : Cond.classLink RX9 15 "[[I" ∈ lwG := lwc_1 52 (by decide +kernel) (by decide +kernel)
theorem cl_X9_44 : Cond.classLink RX9 44 (cNm 1) ∈ lwG := lwc_1 54 (by decide +kernel) (by decide +kernel)
theorem oi_X9_46 : okN RX9 46 M_X2_init 0 := ⟨⟨by decide +kernel, mi_X2_init, in_X2, mc_X2_init⟩, by decide +kernel, by decide⟩
theorem lo_X12 : Cond.methodLink RX12 1 Lib.objectInit ∈ lwG ∧ Cond.instanceMethod Lib.objectInit ∈ lwG ∧ Cond.code Lib.objectInit ⟨#[0xb1]⟩ 1 none ∈ lwG := ⟨lwc_1 25 (by decide +kernel) (by decide +kernel), lo_in, lo_co⟩
theorem cl_X12_7 : Cond.classLink RX12 7 (cNm 7) ∈ lwG := lwc_1 28 (by decide +kernel) (by decide +kernel)
theorem oi_X12_9 : okN RX12 9 M_X8_init 0 := ⟨⟨by decide +kernel, mi_X8_init, in_X8, mc_X8_init⟩, by decide +kernel, by decide⟩
theorem cl_X12_16 : Cond.classLink RX12 16 (cNm 8) ∈ lwG := lwc_1 46 (by decide +kernel) (by decide +kernel)
theorem oi_X12_18 : okI RX12 18 M_X9_init 0 := ⟨⟨lwc_1 48 (by decide +kernel) (by decide +kernel), mi_X9_init, in_X9, mc_X9_init⟩, by decide +kernel, by decide⟩
theorem cl_X12_26 : Cond.classLink RX12 26 (cNm 3) ∈ lwG := lwc_1 183 (by decide +kernel) (by decide +kernel)
theorem oi_X12_28 : okI RX12 28 M_X4_init 2 := ⟨⟨lwc_1 185 (by decide +kernel) (by decide +kernel), mi_X4_init, in_X4, mc_X4_init⟩, by decide +kernel, by decide⟩
theorem cl_X12_35 : Cond.classLink RX12 35 (cNm 9) ∈ lwG := lwc_2 5 (by decide +kernel) (by decide +kernel)
theorem oi_X12_37 : okI RX12 37 M_X11_init 1 := ⟨⟨lwc_2 7 (by decide +kernel) (by decide +kernel), mi_X11_init, in_X11, mc_X11_init⟩, by decide +kernel, by decide⟩
theorem cl_X12_44 : Cond.classLink RX12 44 (cNm 4) ∈ lwG := lwc_2 98 (by decide +kernel) (by decide +kernel)
theorem oi_X12_46 : okI RX12 46 M_X5_init 1 := ⟨⟨lwc_2 100 (by decide +kernel) (by decide +kernel), mi_X5_init, in_X5, mc_X5_init⟩, by decide +kernel, by decide⟩
theorem cl_X12_51 : Cond.classLink RX12 51 (cNm 0) ∈ lwG := lwc_2 125 (by decide +kernel) (by decide +kernel)
theorem oi_X12_53 : okN RX12 53 M_X1_init 0 := ⟨⟨by decide +kernel, mi_X1_init, in_X1, mc_X1_init⟩, by decide +kernel, by decide⟩
theorem cl_X12_58 : Cond.classLink RX12 58 (cNm 6) ∈ lwG := lwc_2 143 (by decide +kernel) (by decide +kernel)
theorem oi_X12_60 : okN RX12 60 M_X7_init 0 := ⟨⟨by decide +kernel, mi_X7_init, in_X7, mc_X7_init⟩, by decide +kernel, by decide⟩
theorem cl_X12_65 : Cond.classLink RX12 65 (cNm 2) ∈ lwG := lwc_2 160 (by decide +kernel) (by decide +kernel)
theorem oi_X12_67 : okN RX12 67 M_X3_init 0 := ⟨⟨by decide +kernel, mi_X3_init, in_X3, mc_X3_init⟩, by decide +kernel, by decide⟩
theorem lo_X13 : Cond.methodLink RX13 1 Lib.objectInit ∈ lwG ∧ Cond.instanceMethod Lib.objectInit ∈ lwG ∧ Cond.code Lib.objectInit ⟨#[0xb1]⟩ 1 none ∈ lwG := ⟨lwc_6 14 (by decide +kernel) (by decide +kernel), lo_in, lo_co⟩
