/-! the reference's constructor, and what it leaves -/
def bk92 : List Int := (List.range 50).map fun i : Nat => (92 : Int) + i
theorem bk92_iff {o : Int} : o ∈ bk92 ↔ 92 ≤ o ∧ o ≤ 141 := by
  unfold bk92
  rw [List.mem_map]
  constructor
  · rintro ⟨i, hi, rfl⟩
    have := List.mem_range.mp hi
    omega
  · intro h
    exact ⟨(o - 92).toNat, List.mem_range.mpr (by omega), by omega⟩
def zRef (σ s : Sg) : Prop := (∀ o, o < 92 → s o = σ o) ∧ (∀ k, (k = 1 ∨ k = 10 ∨ k = 13 ∨ k = 58 ∨ k = 59 ∨ k = 68 ∨ k = 69 ∨ k = 76) → s 92 k = 0) ∧ (s 92 11 = -1 ∧ s 92 60 = 1) ∧
  (s 107 0 = 7 ∧ s 107 1 = 21 ∧ s 107 2 = 10 ∧ s 107 3 = 0 ∧ s 107 4 = 5) ∧ (s 108 0 = -1 ∧ s 108 1 = -1) ∧ ∀ o, 92 < o → o ≠ 107 → o ≠ 108 → ∀ k, s o k = 0
theorem zRef_of {σ : Sg} (hs0 : ∀ o, 92 ≤ o → ∀ k, σ o k = 0) : zRef σ (zDf (zDf (ups (ups (ups (ups (ups (ups (ups (ups (ups σ 92 9 (-1)) 92 11 (-1)) 92 12 (-1)) 92 36 (1)) 92 60 (1)) 108 0 (-1)) 108 1 (-1)) 108 2 (-1)) 108 3 (-1)) 0) 1) := by
  generalize hA : (ups (ups (ups (ups (ups σ 92 9 (-1)) 92 11 (-1)) 92 12 (-1)) 92 36 (1)) 92 60 (1)) = A
  have ha : ∀ o, o ≠ 92 → A o = σ o := fun o h => by rw [← hA, ups_at _ h, ups_at _ h, ups_at _ h, ups_at _ h, ups_at _ h]
  have k0 : ∀ k, (k ≠ 9 ∧ k ≠ 11 ∧ k ≠ 12 ∧ k ≠ 36 ∧ k ≠ 60) → A 92 k = 0 := fun k h => by rw [← hA, ups_k _ h.2.2.2.2, ups_k _ h.2.2.2.1, ups_k _ h.2.2.1, ups_k _ h.2.1, ups_k _ h.1]; exact hs0 _ (by decide) _
  have k11 : A 92 11 = -1 := by rw [← hA, ups_k _ (by decide), ups_k _ (by decide), ups_k _ (by decide), ups_eq]
  have k60 : A 92 60 = 1 := by rw [← hA, ups_eq]
  generalize hB : (ups (ups (ups (ups A 108 0 (-1)) 108 1 (-1)) 108 2 (-1)) 108 3 (-1)) = B
  have hb : ∀ o, o ≠ 108 → B o = A o := fun o h => by rw [← hB, ups_at _ h, ups_at _ h, ups_at _ h, ups_at _ h]
  have b0 : B 108 0 = -1 := by rw [← hB, ups_k _ (by decide), ups_k _ (by decide), ups_k _ (by decide), ups_eq]
  have b1 : B 108 1 = -1 := by rw [← hB, ups_k _ (by decide), ups_k _ (by decide), ups_eq]
  generalize hD : zDf (zDf B 0) 1 = D
  have hd : ∀ o, o ≠ 107 → D o = B o := fun o h => by rw [← hD, zDf_at h, zDf_at h]
  have d7 : ∀ k, 0 ≤ k → k < 5 → D 107 k = if k = 0 then 7 else if k = 1 then 21 else if k = 2 then 10 else if k = 3 then 0 else 5 := fun k a b => by
    rw [← hD]
    have q := zDf_in (s := B) (c := 0) a b
    rw [show (5 : Int) * 0 + k = k by omega] at q
    rw [← q]
    unfold zDf
    rw [ups_k _ (by omega), ups_k _ (by omega), ups_k _ (by omega), ups_k _ (by omega), ups_k _ (by omega)]
  refine ⟨fun o h => ?_, fun k h => ?_, ⟨?_, ?_⟩, ⟨d7 0 (by decide) (by decide), d7 1 (by decide) (by decide), d7 2 (by decide) (by decide), d7 3 (by decide) (by decide), d7 4 (by decide) (by decide)⟩, ⟨?_, ?_⟩, fun o h1 h2 h3 k => ?_⟩
  · rw [hd o (by omega), hb o (by omega), ha o (by omega)]
  · rw [hd 92 (by decide), hb 92 (by decide)]; exact k0 k (by omega)
  · rw [hd 92 (by decide), hb 92 (by decide)]; exact k11
  · rw [hd 92 (by decide), hb 92 (by decide)]; exact k60
  · rw [hd 108 (by decide)]; exact b0
  · rw [hd 108 (by decide)]; exact b1
  · rw [hd o h2, hb o h3, ha o (by omega)]; exact hs0 o (by omega) k
section KREF
variable {g : GT} {σ : Sg}
set_option maxRecDepth 20000 in
theorem K_X13_92 (hG : Gf g) (hs0 : ∀ o, 92 ≤ o → ∀ k, σ o k = 0) : Kc g 10 M_X13_init [(21, 92)] 92 141 (zUn zU0 92 []) zU0 σ 49 16772 (zRef σ) := by
  have hC : Cl (gR g (zLs bk92)) := clL g (by decide +kernel)
  have hN : ∀ o, zLs bk92 o → 1 ≤ o ∧ o ≤ (141 : Nat) := fun o h => by have := bk92_iff.mp h; omega
  have hg : ∀ o, zLs bk92 o → gr g o := fun o h => hG o (hN o h).1 (by have := (hN o h).2; omega)
  have hV : ∀ o, zLs bk92 o → ∀ k, zU0 o k = false := fun _ _ _ => rfl
  refine Kc.of (ls := [(21, 92), (9, 0)]) hG pn_X13_init rfl rfl (Nat.le_of_ble_eq_true rfl) rfl ?_
  refine c_aload_n dX13_init_0 rfl rfl ?_
  refine c_objI lo_X13 rfl (Nat.le_of_ble_eq_true rfl) dX13_init_1 ?_
  refine c_aload_n dX13_init_4 rfl rfl ?_
  refine c_sipush dX13_init_5 rfl ?_
  refine c_newI (t := 45) (n := 1800) (o := 93) (N' := 93) (c2 := 1) (s2 := 1800) rfl ⟨rfl, rfl⟩ rfl rfl (by decide) rfl rfl (by decide) ⟨by decide, by decide⟩ dX13_init_8 ?_
  refine c_putO (ci := 11) (k := 0) (t := 45) (off := 1) (by decide) (by decide) lk_X13_7 rfl rfl rfl rfl rfl (by decide) (fun _ => rfl) (fun _ => rfl) ⟨by decide, by decide⟩ (by decide) rfl dX13_init_10 ?_
  refine c_aload_n dX13_init_13 rfl rfl ?_
  refine c_iconst dX13_init_14 ?_
  refine c_putN (ci := 11) (k := 1) (t := 0) (σ2 := σ) (by decide) (by decide) lk_X13_13 rfl rfl rfl (show inR _ by unfold inR; omega) rfl rfl (zS_same (by exact hs0 _ (by decide) _)) ⟨by decide, by decide⟩ (by decide) rfl dX13_init_15 ?_
  refine c_aload_n dX13_init_18 rfl rfl ?_
  refine c_iconst dX13_init_19 ?_
  refine c_putN (ci := 11) (k := 2) (t := 0) (σ2 := σ) (by decide) (by decide) lk_X13_17 rfl rfl rfl (show inR _ by unfold inR; omega) rfl rfl (zS_same (by exact hs0 _ (by decide) _)) ⟨by decide, by decide⟩ (by decide) rfl dX13_init_20 ?_
  refine c_aload_n dX13_init_23 rfl rfl ?_
  refine c_iconst dX13_init_24 ?_
  refine c_putN (ci := 11) (k := 3) (t := 0) (σ2 := σ) (by decide) (by decide) lk_X13_20 rfl rfl rfl (show inR _ by unfold inR; omega) rfl rfl (zS_same (by exact hs0 _ (by decide) _)) ⟨by decide, by decide⟩ (by decide) rfl dX13_init_25 ?_
  refine c_aload_n dX13_init_28 rfl rfl ?_
  refine c_iconst dX13_init_29 ?_
  refine c_putN (ci := 11) (k := 4) (t := 0) (σ2 := σ) (by decide) (by decide) lk_X13_23 rfl rfl rfl (show inR _ by unfold inR; omega) rfl rfl (zS_same (by exact hs0 _ (by decide) _)) ⟨by decide, by decide⟩ (by decide) rfl dX13_init_30 ?_
  refine c_aload_n dX13_init_33 rfl rfl ?_
  refine c_iconst dX13_init_34 ?_
  refine c_putN (ci := 11) (k := 5) (t := 0) (σ2 := σ) (by decide) (by decide) lk_X13_26 rfl rfl rfl (show inR _ by unfold inR; omega) rfl rfl (zS_same (by exact hs0 _ (by decide) _)) ⟨by decide, by decide⟩ (by decide) rfl dX13_init_35 ?_
  refine c_aload_n dX13_init_38 rfl rfl ?_
  refine c_iconst dX13_init_39 ?_
  refine c_putN (ci := 11) (k := 6) (t := 0) (σ2 := σ) (by decide) (by decide) lk_X13_29 rfl rfl rfl (show inR _ by unfold inR; omega) rfl rfl (zS_same (by exact hs0 _ (by decide) _)) ⟨by decide, by decide⟩ (by decide) rfl dX13_init_40 ?_
  refine c_aload_n dX13_init_43 rfl rfl ?_
  refine c_lconst (v := 0) dX13_init_44 rfl ?_
  refine c_putN (ci := 11) (k := 7) (t := 2) (σ2 := σ) (by decide) (by decide) lk_X13_32 rfl rfl rfl (show inL _ by unfold inL; omega) rfl rfl (zS_same (by exact hs0 _ (by decide) _)) ⟨by decide, by decide⟩ (by decide) rfl dX13_init_45 ?_
  refine c_aload_n dX13_init_48 rfl rfl ?_
  refine c_iconst dX13_init_49 ?_
  refine c_putN (ci := 11) (k := 8) (t := 0) (σ2 := σ) (by decide) (by decide) lk_X13_36 rfl rfl rfl (show inR _ by unfold inR; omega) rfl rfl (zS_same (by exact hs0 _ (by decide) _)) ⟨by decide, by decide⟩ (by decide) rfl dX13_init_50 ?_
  refine c_aload_n dX13_init_53 rfl rfl ?_
  refine c_iconst dX13_init_54 ?_
  refine c_putN (ci := 11) (k := 9) (t := 0) (σ2 := (ups σ 92 9 (-1))) (by decide) (by decide) lk_X13_39 rfl rfl rfl (show inR _ by unfold inR; omega) rfl rfl zS_up ⟨by decide, by decide⟩ (by decide) rfl dX13_init_55 ?_
  refine c_aload_n dX13_init_58 rfl rfl ?_
  refine c_iconst dX13_init_59 ?_
  refine c_putN (ci := 11) (k := 10) (t := 0) (σ2 := (ups σ 92 9 (-1))) (by decide) (by decide) lk_X13_42 rfl rfl rfl (show inR _ by unfold inR; omega) rfl rfl (zS_same (by rw [ups_k _ (by decide)]; exact hs0 _ (by decide) _)) ⟨by decide, by decide⟩ (by decide) rfl dX13_init_60 ?_
  refine c_aload_n dX13_init_63 rfl rfl ?_
  refine c_iconst dX13_init_64 ?_
  refine c_putN (ci := 11) (k := 11) (t := 0) (σ2 := (ups (ups σ 92 9 (-1)) 92 11 (-1))) (by decide) (by decide) lk_X13_45 rfl rfl rfl (show inR _ by unfold inR; omega) rfl rfl zS_up ⟨by decide, by decide⟩ (by decide) rfl dX13_init_65 ?_
  refine c_aload_n dX13_init_68 rfl rfl ?_
  refine c_iconst dX13_init_69 ?_
  refine c_putN (ci := 11) (k := 12) (t := 0) (σ2 := (ups (ups (ups σ 92 9 (-1)) 92 11 (-1)) 92 12 (-1))) (by decide) (by decide) lk_X13_48 rfl rfl rfl (show inR _ by unfold inR; omega) rfl rfl zS_up ⟨by decide, by decide⟩ (by decide) rfl dX13_init_70 ?_
  refine c_aload_n dX13_init_73 rfl rfl ?_
  refine c_iconst dX13_init_74 ?_
  refine c_putN (ci := 11) (k := 13) (t := 0) (σ2 := (ups (ups (ups σ 92 9 (-1)) 92 11 (-1)) 92 12 (-1))) (by decide) (by decide) lk_X13_51 rfl rfl rfl (show inR _ by unfold inR; omega) rfl rfl (zS_same (by rw [ups_k _ (by decide), ups_k _ (by decide), ups_k _ (by decide)]; exact hs0 _ (by decide) _)) ⟨by decide, by decide⟩ (by decide) rfl dX13_init_75 ?_
  refine c_aload_n dX13_init_78 rfl rfl ?_
  refine c_iconst dX13_init_79 ?_
  refine c_newI (t := 46) (n := 2) (o := 94) (N' := 94) (c2 := 2) (s2 := 1802) rfl ⟨rfl, rfl⟩ rfl rfl (by decide) rfl rfl (by decide) ⟨by decide, by decide⟩ dX13_init_80 ?_
  refine c_putO (ci := 11) (k := 14) (t := 46) (off := 2) (by decide) (by decide) lk_X13_54 rfl rfl rfl rfl rfl (by decide) (fun _ => rfl) (fun _ => rfl) ⟨by decide, by decide⟩ (by decide) rfl dX13_init_82 ?_
  refine c_aload_n dX13_init_85 rfl rfl ?_
  refine c_bipush dX13_init_86 rfl ?_
  refine c_newI (t := 47) (n := 12) (o := 95) (N' := 95) (c2 := 3) (s2 := 1814) rfl ⟨rfl, rfl⟩ rfl rfl (by decide) rfl rfl (by decide) ⟨by decide, by decide⟩ dX13_init_88 ?_
  refine c_putO (ci := 11) (k := 15) (t := 47) (off := 3) (by decide) (by decide) lk_X13_57 rfl rfl rfl rfl rfl (by decide) (fun _ => rfl) (fun _ => rfl) ⟨by decide, by decide⟩ (by decide) rfl dX13_init_90 ?_
  refine c_aload_n dX13_init_93 rfl rfl ?_
  refine c_bipush dX13_init_94 rfl ?_
  refine c_newI (t := 47) (n := 12) (o := 96) (N' := 96) (c2 := 4) (s2 := 1826) rfl ⟨rfl, rfl⟩ rfl rfl (by decide) rfl rfl (by decide) ⟨by decide, by decide⟩ dX13_init_96 ?_
  refine c_putO (ci := 11) (k := 16) (t := 47) (off := 4) (by decide) (by decide) lk_X13_60 rfl rfl rfl rfl rfl (by decide) (fun _ => rfl) (fun _ => rfl) ⟨by decide, by decide⟩ (by decide) rfl dX13_init_98 ?_
  refine c_aload_n dX13_init_101 rfl rfl ?_
  refine c_iconst dX13_init_102 ?_
  refine c_newI (t := 46) (n := 2) (o := 97) (N' := 97) (c2 := 5) (s2 := 1828) rfl ⟨rfl, rfl⟩ rfl rfl (by decide) rfl rfl (by decide) ⟨by decide, by decide⟩ dX13_init_103 ?_
  refine c_putO (ci := 11) (k := 17) (t := 46) (off := 5) (by decide) (by decide) lk_X13_63 rfl rfl rfl rfl rfl (by decide) (fun _ => rfl) (fun _ => rfl) ⟨by decide, by decide⟩ (by decide) rfl dX13_init_105 ?_
  refine c_aload_n dX13_init_108 rfl rfl ?_
  refine c_bipush dX13_init_109 rfl ?_
  refine c_newI (t := 40) (n := 16) (o := 98) (N' := 98) (c2 := 6) (s2 := 1844) rfl ⟨rfl, rfl⟩ rfl rfl (by decide) rfl rfl (by decide) ⟨by decide, by decide⟩ dX13_init_111 ?_
  refine c_putO (ci := 11) (k := 18) (t := 40) (off := 6) (by decide) (by decide) lk_X13_66 rfl rfl rfl rfl rfl (by decide) (fun _ => rfl) (fun _ => rfl) ⟨by decide, by decide⟩ (by decide) rfl dX13_init_113 ?_
  refine c_aload_n dX13_init_116 rfl rfl ?_
  refine c_bipush dX13_init_117 rfl ?_
  refine c_newI (t := 40) (n := 16) (o := 99) (N' := 99) (c2 := 7) (s2 := 1860) rfl ⟨rfl, rfl⟩ rfl rfl (by decide) rfl rfl (by decide) ⟨by decide, by decide⟩ dX13_init_119 ?_
  refine c_putO (ci := 11) (k := 19) (t := 40) (off := 7) (by decide) (by decide) lk_X13_69 rfl rfl rfl rfl rfl (by decide) (fun _ => rfl) (fun _ => rfl) ⟨by decide, by decide⟩ (by decide) rfl dX13_init_121 ?_
  refine c_aload_n dX13_init_124 rfl rfl ?_
  refine c_bipush dX13_init_125 rfl ?_
  refine c_newI (t := 40) (n := 16) (o := 100) (N' := 100) (c2 := 8) (s2 := 1876) rfl ⟨rfl, rfl⟩ rfl rfl (by decide) rfl rfl (by decide) ⟨by decide, by decide⟩ dX13_init_127 ?_
  refine c_putO (ci := 11) (k := 20) (t := 40) (off := 8) (by decide) (by decide) lk_X13_72 rfl rfl rfl rfl rfl (by decide) (fun _ => rfl) (fun _ => rfl) ⟨by decide, by decide⟩ (by decide) rfl dX13_init_129 ?_
  refine c_aload_n dX13_init_132 rfl rfl ?_
  refine c_iconst dX13_init_133 ?_
  refine c_newI (t := 46) (n := 2) (o := 101) (N' := 101) (c2 := 9) (s2 := 1878) rfl ⟨rfl, rfl⟩ rfl rfl (by decide) rfl rfl (by decide) ⟨by decide, by decide⟩ dX13_init_134 ?_
  refine c_putO (ci := 11) (k := 21) (t := 46) (off := 9) (by decide) (by decide) lk_X13_75 rfl rfl rfl rfl rfl (by decide) (fun _ => rfl) (fun _ => rfl) ⟨by decide, by decide⟩ (by decide) rfl dX13_init_136 ?_
  refine c_aload_n dX13_init_139 rfl rfl ?_
  refine c_bipush dX13_init_140 rfl ?_
  refine c_newI (t := 48) (n := 20) (o := 102) (N' := 102) (c2 := 10) (s2 := 1898) rfl ⟨rfl, rfl⟩ rfl rfl (by decide) rfl rfl (by decide) ⟨by decide, by decide⟩ dX13_init_142 ?_
  refine c_putO (ci := 11) (k := 22) (t := 48) (off := 10) (by decide) (by decide) lk_X13_78 rfl rfl rfl rfl rfl (by decide) (fun _ => rfl) (fun _ => rfl) ⟨by decide, by decide⟩ (by decide) rfl dX13_init_144 ?_
  refine c_aload_n dX13_init_147 rfl rfl ?_
  refine c_bipush dX13_init_148 rfl ?_
  refine c_newI (t := 48) (n := 20) (o := 103) (N' := 103) (c2 := 11) (s2 := 1918) rfl ⟨rfl, rfl⟩ rfl rfl (by decide) rfl rfl (by decide) ⟨by decide, by decide⟩ dX13_init_150 ?_
  refine c_putO (ci := 11) (k := 23) (t := 48) (off := 11) (by decide) (by decide) lk_X13_81 rfl rfl rfl rfl rfl (by decide) (fun _ => rfl) (fun _ => rfl) ⟨by decide, by decide⟩ (by decide) rfl dX13_init_152 ?_
  refine c_aload_n dX13_init_155 rfl rfl ?_
  refine c_iconst dX13_init_156 ?_
  refine c_newI (t := 46) (n := 2) (o := 104) (N' := 104) (c2 := 12) (s2 := 1920) rfl ⟨rfl, rfl⟩ rfl rfl (by decide) rfl rfl (by decide) ⟨by decide, by decide⟩ dX13_init_157 ?_
  refine c_putO (ci := 11) (k := 24) (t := 46) (off := 12) (by decide) (by decide) lk_X13_84 rfl rfl rfl rfl rfl (by decide) (fun _ => rfl) (fun _ => rfl) ⟨by decide, by decide⟩ (by decide) rfl dX13_init_159 ?_
  refine c_aload_n dX13_init_162 rfl rfl ?_
  refine c_bipush dX13_init_163 rfl ?_
  refine c_newI (t := 33) (n := 8) (o := 105) (N' := 105) (c2 := 13) (s2 := 1928) rfl ⟨rfl, rfl⟩ rfl rfl (by decide) rfl rfl (by decide) ⟨by decide, by decide⟩ dX13_init_165 ?_
  refine c_putO (ci := 11) (k := 25) (t := 33) (off := 13) (by decide) (by decide) lk_X13_87 rfl rfl rfl rfl rfl (by decide) (fun _ => rfl) (fun _ => rfl) ⟨by decide, by decide⟩ (by decide) rfl dX13_init_167 ?_
  refine c_aload_n dX13_init_170 rfl rfl ?_
  refine c_bipush dX13_init_171 rfl ?_
  refine c_newI (t := 33) (n := 8) (o := 106) (N' := 106) (c2 := 14) (s2 := 1936) rfl ⟨rfl, rfl⟩ rfl rfl (by decide) rfl rfl (by decide) ⟨by decide, by decide⟩ dX13_init_173 ?_
  refine c_putO (ci := 11) (k := 26) (t := 33) (off := 14) (by decide) (by decide) lk_X13_90 rfl rfl rfl rfl rfl (by decide) (fun _ => rfl) (fun _ => rfl) ⟨by decide, by decide⟩ (by decide) rfl dX13_init_175 ?_
  refine c_aload_n dX13_init_178 rfl rfl ?_
  refine c_bipush dX13_init_179 rfl ?_
  refine c_newI (t := 36) (n := 10) (o := 107) (N' := 107) (c2 := 15) (s2 := 1946) rfl ⟨rfl, rfl⟩ rfl rfl (by decide) rfl rfl (by decide) ⟨by decide, by decide⟩ dX13_init_181 ?_
  refine c_putO (ci := 11) (k := 27) (t := 36) (off := 15) (by decide) (by decide) lk_X13_93 rfl rfl rfl rfl rfl (by decide) (fun _ => rfl) (fun _ => rfl) ⟨by decide, by decide⟩ (by decide) rfl dX13_init_183 ?_
  refine c_aload_n dX13_init_186 rfl rfl ?_
  refine c_iconst dX13_init_187 ?_
  refine c_newI (t := 35) (n := 4) (o := 108) (N' := 108) (c2 := 16) (s2 := 1950) rfl ⟨rfl, rfl⟩ rfl rfl (by decide) rfl rfl (by decide) ⟨by decide, by decide⟩ dX13_init_188 ?_
  refine c_putO (ci := 11) (k := 28) (t := 35) (off := 16) (by decide) (by decide) lk_X13_96 rfl rfl rfl rfl rfl (by decide) (fun _ => rfl) (fun _ => rfl) ⟨by decide, by decide⟩ (by decide) rfl dX13_init_190 ?_
  refine c_aload_n dX13_init_193 rfl rfl ?_
  refine c_iconst dX13_init_194 ?_
  refine c_newI (t := 35) (n := 4) (o := 109) (N' := 109) (c2 := 17) (s2 := 1954) rfl ⟨rfl, rfl⟩ rfl rfl (by decide) rfl rfl (by decide) ⟨by decide, by decide⟩ dX13_init_195 ?_
  refine c_putO (ci := 11) (k := 29) (t := 35) (off := 17) (by decide) (by decide) lk_X13_99 rfl rfl rfl rfl rfl (by decide) (fun _ => rfl) (fun _ => rfl) ⟨by decide, by decide⟩ (by decide) rfl dX13_init_197 ?_
  refine c_aload_n dX13_init_200 rfl rfl ?_
  refine c_sipush dX13_init_201 rfl ?_
  refine c_newI (t := 49) (n := 3200) (o := 110) (N' := 110) (c2 := 18) (s2 := 5154) rfl ⟨rfl, rfl⟩ rfl rfl (by decide) rfl rfl (by decide) ⟨by decide, by decide⟩ dX13_init_204 ?_
  refine c_putO (ci := 11) (k := 30) (t := 49) (off := 18) (by decide) (by decide) lk_X13_102 rfl rfl rfl rfl rfl (by decide) (fun _ => rfl) (fun _ => rfl) ⟨by decide, by decide⟩ (by decide) rfl dX13_init_206 ?_
  refine c_aload_n dX13_init_209 rfl rfl ?_
  refine c_sipush dX13_init_210 rfl ?_
  refine c_newI (t := 49) (n := 3200) (o := 111) (N' := 111) (c2 := 19) (s2 := 8354) rfl ⟨rfl, rfl⟩ rfl rfl (by decide) rfl rfl (by decide) ⟨by decide, by decide⟩ dX13_init_213 ?_
  refine c_putO (ci := 11) (k := 31) (t := 49) (off := 19) (by decide) (by decide) lk_X13_105 rfl rfl rfl rfl rfl (by decide) (fun _ => rfl) (fun _ => rfl) ⟨by decide, by decide⟩ (by decide) rfl dX13_init_215 ?_
  refine c_aload_n dX13_init_218 rfl rfl ?_
  refine c_bipush dX13_init_219 rfl ?_
  refine c_newJ (t := 50) (n := 12) (o := 112) (N' := 112) (c2 := 20) (s2 := 8366) rfl ⟨rfl, rfl⟩ rfl rfl (by decide) rfl rfl (by decide) ⟨by decide, by decide⟩ dX13_init_221 ?_
  refine c_putO (ci := 11) (k := 32) (t := 50) (off := 20) (by decide) (by decide) lk_X13_108 rfl rfl rfl rfl rfl (by decide) (fun _ => rfl) (fun _ => rfl) ⟨by decide, by decide⟩ (by decide) rfl dX13_init_223 ?_
  refine c_aload_n dX13_init_226 rfl rfl ?_
  refine c_bipush dX13_init_227 rfl ?_
  refine c_newJ (t := 51) (n := 16) (o := 113) (N' := 113) (c2 := 21) (s2 := 8382) rfl ⟨rfl, rfl⟩ rfl rfl (by decide) rfl rfl (by decide) ⟨by decide, by decide⟩ dX13_init_229 ?_
  refine c_putO (ci := 11) (k := 33) (t := 51) (off := 21) (by decide) (by decide) lk_X13_112 rfl rfl rfl rfl rfl (by decide) (fun _ => rfl) (fun _ => rfl) ⟨by decide, by decide⟩ (by decide) rfl dX13_init_231 ?_
  refine c_aload_n dX13_init_234 rfl rfl ?_
  refine c_bipush dX13_init_235 rfl ?_
  refine c_newJ (t := 52) (n := 8) (o := 114) (N' := 114) (c2 := 22) (s2 := 8390) rfl ⟨rfl, rfl⟩ rfl rfl (by decide) rfl rfl (by decide) ⟨by decide, by decide⟩ dX13_init_237 ?_
  refine c_putO (ci := 11) (k := 34) (t := 52) (off := 22) (by decide) (by decide) lk_X13_115 rfl rfl rfl rfl rfl (by decide) (fun _ => rfl) (fun _ => rfl) ⟨by decide, by decide⟩ (by decide) rfl dX13_init_239 ?_
  refine c_aload_n dX13_init_242 rfl rfl ?_
  refine c_iconst dX13_init_243 ?_
  refine c_putN (ci := 11) (k := 35) (t := 0) (σ2 := (ups (ups (ups σ 92 9 (-1)) 92 11 (-1)) 92 12 (-1))) (by decide) (by decide) lk_X13_118 rfl rfl rfl (show inR _ by unfold inR; omega) rfl rfl (zS_same (by rw [ups_k _ (by decide), ups_k _ (by decide), ups_k _ (by decide)]; exact hs0 _ (by decide) _)) ⟨by decide, by decide⟩ (by decide) rfl dX13_init_244 ?_
  refine c_aload_n dX13_init_247 rfl rfl ?_
  refine c_iconst dX13_init_248 ?_
  refine c_putN (ci := 11) (k := 36) (t := 0) (σ2 := (ups (ups (ups (ups σ 92 9 (-1)) 92 11 (-1)) 92 12 (-1)) 92 36 (1))) (by decide) (by decide) lk_X13_121 rfl rfl rfl (show inR _ by unfold inR; omega) rfl rfl zS_up ⟨by decide, by decide⟩ (by decide) rfl dX13_init_249 ?_
  refine c_aload_n dX13_init_252 rfl rfl ?_
  refine c_iconst dX13_init_253 ?_
  refine c_putN (ci := 11) (k := 37) (t := 0) (σ2 := (ups (ups (ups (ups σ 92 9 (-1)) 92 11 (-1)) 92 12 (-1)) 92 36 (1))) (by decide) (by decide) lk_X13_124 rfl rfl rfl (show inR _ by unfold inR; omega) rfl rfl (zS_same (by rw [ups_k _ (by decide), ups_k _ (by decide), ups_k _ (by decide), ups_k _ (by decide)]; exact hs0 _ (by decide) _)) ⟨by decide, by decide⟩ (by decide) rfl dX13_init_254 ?_
  refine c_aload_n dX13_init_257 rfl rfl ?_
  refine c_bipush dX13_init_258 rfl ?_
  refine c_newI (t := 48) (n := 20) (o := 115) (N' := 115) (c2 := 23) (s2 := 8410) rfl ⟨rfl, rfl⟩ rfl rfl (by decide) rfl rfl (by decide) ⟨by decide, by decide⟩ dX13_init_260 ?_
  refine c_putO (ci := 11) (k := 38) (t := 48) (off := 23) (by decide) (by decide) lk_X13_128 rfl rfl rfl rfl rfl (by decide) (fun _ => rfl) (fun _ => rfl) ⟨by decide, by decide⟩ (by decide) rfl dX13_init_262 ?_
  refine c_aload_n dX13_init_265 rfl rfl ?_
  refine c_bipush dX13_init_266 rfl ?_
  refine c_newI (t := 48) (n := 20) (o := 116) (N' := 116) (c2 := 24) (s2 := 8430) rfl ⟨rfl, rfl⟩ rfl rfl (by decide) rfl rfl (by decide) ⟨by decide, by decide⟩ dX13_init_268 ?_
  refine c_putO (ci := 11) (k := 39) (t := 48) (off := 24) (by decide) (by decide) lk_X13_131 rfl rfl rfl rfl rfl (by decide) (fun _ => rfl) (fun _ => rfl) ⟨by decide, by decide⟩ (by decide) rfl dX13_init_270 ?_
  refine c_aload_n dX13_init_273 rfl rfl ?_
  refine c_bipush dX13_init_274 rfl ?_
  refine c_newZ (t := 53) (n := 20) (o := 117) (N' := 117) (c2 := 25) (s2 := 8450) rfl ⟨rfl, rfl⟩ rfl rfl (by decide) rfl rfl (by decide) ⟨by decide, by decide⟩ dX13_init_276 ?_
  refine c_putO (ci := 11) (k := 40) (t := 53) (off := 25) (by decide) (by decide) lk_X13_134 rfl rfl rfl rfl rfl (by decide) (fun _ => rfl) (fun _ => rfl) ⟨by decide, by decide⟩ (by decide) rfl dX13_init_278 ?_
  refine c_aload_n dX13_init_281 rfl rfl ?_
  refine c_bipush dX13_init_282 rfl ?_
  refine c_newI (t := 48) (n := 20) (o := 118) (N' := 118) (c2 := 26) (s2 := 8470) rfl ⟨rfl, rfl⟩ rfl rfl (by decide) rfl rfl (by decide) ⟨by decide, by decide⟩ dX13_init_284 ?_
  refine c_putO (ci := 11) (k := 41) (t := 48) (off := 26) (by decide) (by decide) lk_X13_138 rfl rfl rfl rfl rfl (by decide) (fun _ => rfl) (fun _ => rfl) ⟨by decide, by decide⟩ (by decide) rfl dX13_init_286 ?_
  refine c_aload_n dX13_init_289 rfl rfl ?_
  refine c_bipush dX13_init_290 rfl ?_
  refine c_newI (t := 48) (n := 20) (o := 119) (N' := 119) (c2 := 27) (s2 := 8490) rfl ⟨rfl, rfl⟩ rfl rfl (by decide) rfl rfl (by decide) ⟨by decide, by decide⟩ dX13_init_292 ?_
  refine c_putO (ci := 11) (k := 42) (t := 48) (off := 27) (by decide) (by decide) lk_X13_141 rfl rfl rfl rfl rfl (by decide) (fun _ => rfl) (fun _ => rfl) ⟨by decide, by decide⟩ (by decide) rfl dX13_init_294 ?_
  refine c_aload_n dX13_init_297 rfl rfl ?_
  refine c_iconst dX13_init_298 ?_
  refine c_putN (ci := 11) (k := 43) (t := 0) (σ2 := (ups (ups (ups (ups σ 92 9 (-1)) 92 11 (-1)) 92 12 (-1)) 92 36 (1))) (by decide) (by decide) lk_X13_144 rfl rfl rfl (show inR _ by unfold inR; omega) rfl rfl (zS_same (by rw [ups_k _ (by decide), ups_k _ (by decide), ups_k _ (by decide), ups_k _ (by decide)]; exact hs0 _ (by decide) _)) ⟨by decide, by decide⟩ (by decide) rfl dX13_init_299 ?_
  refine c_aload_n dX13_init_302 rfl rfl ?_
  refine c_iconst dX13_init_303 ?_
  refine c_putN (ci := 11) (k := 44) (t := 0) (σ2 := (ups (ups (ups (ups σ 92 9 (-1)) 92 11 (-1)) 92 12 (-1)) 92 36 (1))) (by decide) (by decide) lk_X13_147 rfl rfl rfl (show inR _ by unfold inR; omega) rfl rfl (zS_same (by rw [ups_k _ (by decide), ups_k _ (by decide), ups_k _ (by decide), ups_k _ (by decide)]; exact hs0 _ (by decide) _)) ⟨by decide, by decide⟩ (by decide) rfl dX13_init_304 ?_
  refine c_aload_n dX13_init_307 rfl rfl ?_
  refine c_sipush dX13_init_308 rfl ?_
  refine c_newI (t := 54) (n := 500) (o := 120) (N' := 120) (c2 := 28) (s2 := 8990) rfl ⟨rfl, rfl⟩ rfl rfl (by decide) rfl rfl (by decide) ⟨by decide, by decide⟩ dX13_init_311 ?_
  refine c_putO (ci := 11) (k := 45) (t := 54) (off := 28) (by decide) (by decide) lk_X13_150 rfl rfl rfl rfl rfl (by decide) (fun _ => rfl) (fun _ => rfl) ⟨by decide, by decide⟩ (by decide) rfl dX13_init_313 ?_
  refine c_aload_n dX13_init_316 rfl rfl ?_
  refine c_iconst dX13_init_317 ?_
  refine c_putN (ci := 11) (k := 46) (t := 0) (σ2 := (ups (ups (ups (ups σ 92 9 (-1)) 92 11 (-1)) 92 12 (-1)) 92 36 (1))) (by decide) (by decide) lk_X13_153 rfl rfl rfl (show inR _ by unfold inR; omega) rfl rfl (zS_same (by rw [ups_k _ (by decide), ups_k _ (by decide), ups_k _ (by decide), ups_k _ (by decide)]; exact hs0 _ (by decide) _)) ⟨by decide, by decide⟩ (by decide) rfl dX13_init_318 ?_
  refine c_aload_n dX13_init_321 rfl rfl ?_
  refine c_iconst dX13_init_322 ?_
  refine c_putN (ci := 11) (k := 47) (t := 0) (σ2 := (ups (ups (ups (ups σ 92 9 (-1)) 92 11 (-1)) 92 12 (-1)) 92 36 (1))) (by decide) (by decide) lk_X13_156 rfl rfl rfl (show inR _ by unfold inR; omega) rfl rfl (zS_same (by rw [ups_k _ (by decide), ups_k _ (by decide), ups_k _ (by decide), ups_k _ (by decide)]; exact hs0 _ (by decide) _)) ⟨by decide, by decide⟩ (by decide) rfl dX13_init_323 ?_
  refine c_aload_n dX13_init_326 rfl rfl ?_
  refine c_bipush dX13_init_327 rfl ?_
  refine c_newI (t := 34) (n := 6) (o := 121) (N' := 121) (c2 := 29) (s2 := 8996) rfl ⟨rfl, rfl⟩ rfl rfl (by decide) rfl rfl (by decide) ⟨by decide, by decide⟩ dX13_init_329 ?_
  refine c_putO (ci := 11) (k := 48) (t := 34) (off := 29) (by decide) (by decide) lk_X13_159 rfl rfl rfl rfl rfl (by decide) (fun _ => rfl) (fun _ => rfl) ⟨by decide, by decide⟩ (by decide) rfl dX13_init_331 ?_
  refine c_aload_n dX13_init_334 rfl rfl ?_
  refine c_bipush dX13_init_335 rfl ?_
  refine c_newI (t := 55) (n := 23) (o := 122) (N' := 122) (c2 := 30) (s2 := 9019) rfl ⟨rfl, rfl⟩ rfl rfl (by decide) rfl rfl (by decide) ⟨by decide, by decide⟩ dX13_init_337 ?_
  refine c_putO (ci := 11) (k := 49) (t := 55) (off := 30) (by decide) (by decide) lk_X13_162 rfl rfl rfl rfl rfl (by decide) (fun _ => rfl) (fun _ => rfl) ⟨by decide, by decide⟩ (by decide) rfl dX13_init_339 ?_
  refine c_aload_n dX13_init_342 rfl rfl ?_
  refine c_bipush dX13_init_343 rfl ?_
  refine c_newI (t := 55) (n := 23) (o := 123) (N' := 123) (c2 := 31) (s2 := 9042) rfl ⟨rfl, rfl⟩ rfl rfl (by decide) rfl rfl (by decide) ⟨by decide, by decide⟩ dX13_init_345 ?_
  refine c_putO (ci := 11) (k := 50) (t := 55) (off := 31) (by decide) (by decide) lk_X13_165 rfl rfl rfl rfl rfl (by decide) (fun _ => rfl) (fun _ => rfl) ⟨by decide, by decide⟩ (by decide) rfl dX13_init_347 ?_
  refine c_aload_n dX13_init_350 rfl rfl ?_
  refine c_sipush dX13_init_351 rfl ?_
  refine c_newI (t := 56) (n := 184) (o := 124) (N' := 124) (c2 := 32) (s2 := 9226) rfl ⟨rfl, rfl⟩ rfl rfl (by decide) rfl rfl (by decide) ⟨by decide, by decide⟩ dX13_init_354 ?_
  refine c_putO (ci := 11) (k := 51) (t := 56) (off := 32) (by decide) (by decide) lk_X13_168 rfl rfl rfl rfl rfl (by decide) (fun _ => rfl) (fun _ => rfl) ⟨by decide, by decide⟩ (by decide) rfl dX13_init_356 ?_
  refine c_aload_n dX13_init_359 rfl rfl ?_
  refine c_sipush dX13_init_360 rfl ?_
  refine c_newI (t := 56) (n := 184) (o := 125) (N' := 125) (c2 := 33) (s2 := 9410) rfl ⟨rfl, rfl⟩ rfl rfl (by decide) rfl rfl (by decide) ⟨by decide, by decide⟩ dX13_init_363 ?_
  refine c_putO (ci := 11) (k := 52) (t := 56) (off := 33) (by decide) (by decide) lk_X13_171 rfl rfl rfl rfl rfl (by decide) (fun _ => rfl) (fun _ => rfl) ⟨by decide, by decide⟩ (by decide) rfl dX13_init_365 ?_
  refine c_aload_n dX13_init_368 rfl rfl ?_
  refine c_sipush dX13_init_369 rfl ?_
  refine c_newI (t := 56) (n := 184) (o := 126) (N' := 126) (c2 := 34) (s2 := 9594) rfl ⟨rfl, rfl⟩ rfl rfl (by decide) rfl rfl (by decide) ⟨by decide, by decide⟩ dX13_init_372 ?_
  refine c_putO (ci := 11) (k := 53) (t := 56) (off := 34) (by decide) (by decide) lk_X13_174 rfl rfl rfl rfl rfl (by decide) (fun _ => rfl) (fun _ => rfl) ⟨by decide, by decide⟩ (by decide) rfl dX13_init_374 ?_
  refine c_aload_n dX13_init_377 rfl rfl ?_
  refine c_sipush dX13_init_378 rfl ?_
  refine c_newI (t := 56) (n := 184) (o := 127) (N' := 127) (c2 := 35) (s2 := 9778) rfl ⟨rfl, rfl⟩ rfl rfl (by decide) rfl rfl (by decide) ⟨by decide, by decide⟩ dX13_init_381 ?_
  refine c_putO (ci := 11) (k := 54) (t := 56) (off := 35) (by decide) (by decide) lk_X13_177 rfl rfl rfl rfl rfl (by decide) (fun _ => rfl) (fun _ => rfl) ⟨by decide, by decide⟩ (by decide) rfl dX13_init_383 ?_
  refine c_aload_n dX13_init_386 rfl rfl ?_
  refine c_sipush dX13_init_387 rfl ?_
  refine c_newI (t := 56) (n := 184) (o := 128) (N' := 128) (c2 := 36) (s2 := 9962) rfl ⟨rfl, rfl⟩ rfl rfl (by decide) rfl rfl (by decide) ⟨by decide, by decide⟩ dX13_init_390 ?_
  refine c_putO (ci := 11) (k := 55) (t := 56) (off := 36) (by decide) (by decide) lk_X13_180 rfl rfl rfl rfl rfl (by decide) (fun _ => rfl) (fun _ => rfl) ⟨by decide, by decide⟩ (by decide) rfl dX13_init_392 ?_
  refine c_aload_n dX13_init_395 rfl rfl ?_
  refine c_bipush dX13_init_396 rfl ?_
  refine c_newI (t := 55) (n := 23) (o := 129) (N' := 129) (c2 := 37) (s2 := 9985) rfl ⟨rfl, rfl⟩ rfl rfl (by decide) rfl rfl (by decide) ⟨by decide, by decide⟩ dX13_init_398 ?_
  refine c_putO (ci := 11) (k := 56) (t := 55) (off := 37) (by decide) (by decide) lk_X13_183 rfl rfl rfl rfl rfl (by decide) (fun _ => rfl) (fun _ => rfl) ⟨by decide, by decide⟩ (by decide) rfl dX13_init_400 ?_
  refine c_aload_n dX13_init_403 rfl rfl ?_
  refine c_sipush dX13_init_404 rfl ?_
  refine c_newI (t := 57) (n := 5520) (o := 130) (N' := 130) (c2 := 38) (s2 := 15505) rfl ⟨rfl, rfl⟩ rfl rfl (by decide) rfl rfl (by decide) ⟨by decide, by decide⟩ dX13_init_407 ?_
  refine c_putO (ci := 11) (k := 57) (t := 57) (off := 38) (by decide) (by decide) lk_X13_186 rfl rfl rfl rfl rfl (by decide) (fun _ => rfl) (fun _ => rfl) ⟨by decide, by decide⟩ (by decide) rfl dX13_init_409 ?_
  refine c_aload_n dX13_init_412 rfl rfl ?_
  refine c_iconst dX13_init_413 ?_
  refine c_putN (ci := 11) (k := 58) (t := 0) (σ2 := (ups (ups (ups (ups σ 92 9 (-1)) 92 11 (-1)) 92 12 (-1)) 92 36 (1))) (by decide) (by decide) lk_X13_189 rfl rfl rfl (show inR _ by unfold inR; omega) rfl rfl (zS_same (by rw [ups_k _ (by decide), ups_k _ (by decide), ups_k _ (by decide), ups_k _ (by decide)]; exact hs0 _ (by decide) _)) ⟨by decide, by decide⟩ (by decide) rfl dX13_init_414 ?_
  refine c_aload_n dX13_init_417 rfl rfl ?_
  refine c_iconst dX13_init_418 ?_
  refine c_putN (ci := 11) (k := 59) (t := 0) (σ2 := (ups (ups (ups (ups σ 92 9 (-1)) 92 11 (-1)) 92 12 (-1)) 92 36 (1))) (by decide) (by decide) lk_X13_192 rfl rfl rfl (show inR _ by unfold inR; omega) rfl rfl (zS_same (by rw [ups_k _ (by decide), ups_k _ (by decide), ups_k _ (by decide), ups_k _ (by decide)]; exact hs0 _ (by decide) _)) ⟨by decide, by decide⟩ (by decide) rfl dX13_init_419 ?_
  refine c_aload_n dX13_init_422 rfl rfl ?_
  refine c_lconst (v := 1) dX13_init_423 rfl ?_
  refine c_putN (ci := 11) (k := 60) (t := 2) (σ2 := (ups (ups (ups (ups (ups σ 92 9 (-1)) 92 11 (-1)) 92 12 (-1)) 92 36 (1)) 92 60 (1))) (by decide) (by decide) lk_X13_195 rfl rfl rfl (show inL _ by unfold inL; omega) rfl rfl zS_up ⟨by decide, by decide⟩ (by decide) rfl dX13_init_424 ?_
  refine c_aload_n dX13_init_427 rfl rfl ?_
  refine c_sipush dX13_init_428 rfl ?_
  refine c_newJ (t := 58) (n := 500) (o := 131) (N' := 131) (c2 := 39) (s2 := 16005) rfl ⟨rfl, rfl⟩ rfl rfl (by decide) rfl rfl (by decide) ⟨by decide, by decide⟩ dX13_init_431 ?_
  refine c_putO (ci := 11) (k := 61) (t := 58) (off := 39) (by decide) (by decide) lk_X13_198 rfl rfl rfl rfl rfl (by decide) (fun _ => rfl) (fun _ => rfl) ⟨by decide, by decide⟩ (by decide) rfl dX13_init_433 ?_
  refine c_aload_n dX13_init_436 rfl rfl ?_
  refine c_bipush dX13_init_437 rfl ?_
  refine c_newI (t := 47) (n := 12) (o := 132) (N' := 132) (c2 := 40) (s2 := 16017) rfl ⟨rfl, rfl⟩ rfl rfl (by decide) rfl rfl (by decide) ⟨by decide, by decide⟩ dX13_init_439 ?_
  refine c_putO (ci := 11) (k := 62) (t := 47) (off := 40) (by decide) (by decide) lk_X13_201 rfl rfl rfl rfl rfl (by decide) (fun _ => rfl) (fun _ => rfl) ⟨by decide, by decide⟩ (by decide) rfl dX13_init_441 ?_
  refine c_aload_n dX13_init_444 rfl rfl ?_
  refine c_iconst dX13_init_445 ?_
  refine c_putN (ci := 11) (k := 63) (t := 0) (σ2 := (ups (ups (ups (ups (ups σ 92 9 (-1)) 92 11 (-1)) 92 12 (-1)) 92 36 (1)) 92 60 (1))) (by decide) (by decide) lk_X13_204 rfl rfl rfl (show inR _ by unfold inR; omega) rfl rfl (zS_same (by rw [ups_k _ (by decide), ups_k _ (by decide), ups_k _ (by decide), ups_k _ (by decide), ups_k _ (by decide)]; exact hs0 _ (by decide) _)) ⟨by decide, by decide⟩ (by decide) rfl dX13_init_446 ?_
  refine c_aload_n dX13_init_449 rfl rfl ?_
  refine c_iconst dX13_init_450 ?_
  refine c_putN (ci := 11) (k := 64) (t := 0) (σ2 := (ups (ups (ups (ups (ups σ 92 9 (-1)) 92 11 (-1)) 92 12 (-1)) 92 36 (1)) 92 60 (1))) (by decide) (by decide) lk_X13_207 rfl rfl rfl (show inR _ by unfold inR; omega) rfl rfl (zS_same (by rw [ups_k _ (by decide), ups_k _ (by decide), ups_k _ (by decide), ups_k _ (by decide), ups_k _ (by decide)]; exact hs0 _ (by decide) _)) ⟨by decide, by decide⟩ (by decide) rfl dX13_init_451 ?_
  refine c_aload_n dX13_init_454 rfl rfl ?_
  refine c_bipush dX13_init_455 rfl ?_
  refine c_newI (t := 34) (n := 6) (o := 133) (N' := 133) (c2 := 41) (s2 := 16023) rfl ⟨rfl, rfl⟩ rfl rfl (by decide) rfl rfl (by decide) ⟨by decide, by decide⟩ dX13_init_457 ?_
  refine c_putO (ci := 11) (k := 65) (t := 34) (off := 41) (by decide) (by decide) lk_X13_210 rfl rfl rfl rfl rfl (by decide) (fun _ => rfl) (fun _ => rfl) ⟨by decide, by decide⟩ (by decide) rfl dX13_init_459 ?_
  refine c_aload_n dX13_init_462 rfl rfl ?_
  refine c_bipush dX13_init_463 rfl ?_
  refine c_newI (t := 34) (n := 6) (o := 134) (N' := 134) (c2 := 42) (s2 := 16029) rfl ⟨rfl, rfl⟩ rfl rfl (by decide) rfl rfl (by decide) ⟨by decide, by decide⟩ dX13_init_465 ?_
  refine c_putO (ci := 11) (k := 66) (t := 34) (off := 42) (by decide) (by decide) lk_X13_213 rfl rfl rfl rfl rfl (by decide) (fun _ => rfl) (fun _ => rfl) ⟨by decide, by decide⟩ (by decide) rfl dX13_init_467 ?_
  refine c_aload_n dX13_init_470 rfl rfl ?_
  refine c_bipush dX13_init_471 rfl ?_
  refine c_newI (t := 34) (n := 6) (o := 135) (N' := 135) (c2 := 43) (s2 := 16035) rfl ⟨rfl, rfl⟩ rfl rfl (by decide) rfl rfl (by decide) ⟨by decide, by decide⟩ dX13_init_473 ?_
  refine c_putO (ci := 11) (k := 67) (t := 34) (off := 43) (by decide) (by decide) lk_X13_216 rfl rfl rfl rfl rfl (by decide) (fun _ => rfl) (fun _ => rfl) ⟨by decide, by decide⟩ (by decide) rfl dX13_init_475 ?_
  refine c_aload_n dX13_init_478 rfl rfl ?_
  refine c_iconst dX13_init_479 ?_
  refine c_putN (ci := 11) (k := 68) (t := 0) (σ2 := (ups (ups (ups (ups (ups σ 92 9 (-1)) 92 11 (-1)) 92 12 (-1)) 92 36 (1)) 92 60 (1))) (by decide) (by decide) lk_X13_219 rfl rfl rfl (show inR _ by unfold inR; omega) rfl rfl (zS_same (by rw [ups_k _ (by decide), ups_k _ (by decide), ups_k _ (by decide), ups_k _ (by decide), ups_k _ (by decide)]; exact hs0 _ (by decide) _)) ⟨by decide, by decide⟩ (by decide) rfl dX13_init_480 ?_
  refine c_aload_n dX13_init_483 rfl rfl ?_
  refine c_iconst dX13_init_484 ?_
  refine c_putN (ci := 11) (k := 69) (t := 0) (σ2 := (ups (ups (ups (ups (ups σ 92 9 (-1)) 92 11 (-1)) 92 12 (-1)) 92 36 (1)) 92 60 (1))) (by decide) (by decide) lk_X13_222 rfl rfl rfl (show inR _ by unfold inR; omega) rfl rfl (zS_same (by rw [ups_k _ (by decide), ups_k _ (by decide), ups_k _ (by decide), ups_k _ (by decide), ups_k _ (by decide)]; exact hs0 _ (by decide) _)) ⟨by decide, by decide⟩ (by decide) rfl dX13_init_485 ?_
  refine c_aload_n dX13_init_488 rfl rfl ?_
  refine c_bipush dX13_init_489 rfl ?_
  refine c_newI (t := 40) (n := 16) (o := 136) (N' := 136) (c2 := 44) (s2 := 16051) rfl ⟨rfl, rfl⟩ rfl rfl (by decide) rfl rfl (by decide) ⟨by decide, by decide⟩ dX13_init_491 ?_
  refine c_putO (ci := 11) (k := 70) (t := 40) (off := 44) (by decide) (by decide) lk_X13_225 rfl rfl rfl rfl rfl (by decide) (fun _ => rfl) (fun _ => rfl) ⟨by decide, by decide⟩ (by decide) rfl dX13_init_493 ?_
  refine c_aload_n dX13_init_496 rfl rfl ?_
  refine c_bipush dX13_init_497 rfl ?_
  refine c_newI (t := 40) (n := 16) (o := 137) (N' := 137) (c2 := 45) (s2 := 16067) rfl ⟨rfl, rfl⟩ rfl rfl (by decide) rfl rfl (by decide) ⟨by decide, by decide⟩ dX13_init_499 ?_
  refine c_putO (ci := 11) (k := 71) (t := 40) (off := 45) (by decide) (by decide) lk_X13_228 rfl rfl rfl rfl rfl (by decide) (fun _ => rfl) (fun _ => rfl) ⟨by decide, by decide⟩ (by decide) rfl dX13_init_501 ?_
  refine c_aload_n dX13_init_504 rfl rfl ?_
  refine c_bipush dX13_init_505 rfl ?_
  refine c_newI (t := 34) (n := 6) (o := 138) (N' := 138) (c2 := 46) (s2 := 16073) rfl ⟨rfl, rfl⟩ rfl rfl (by decide) rfl rfl (by decide) ⟨by decide, by decide⟩ dX13_init_507 ?_
  refine c_putO (ci := 11) (k := 72) (t := 34) (off := 46) (by decide) (by decide) lk_X13_231 rfl rfl rfl rfl rfl (by decide) (fun _ => rfl) (fun _ => rfl) ⟨by decide, by decide⟩ (by decide) rfl dX13_init_509 ?_
  refine c_aload_n dX13_init_512 rfl rfl ?_
  refine c_sipush dX13_init_513 rfl ?_
  refine c_newZ (t := 59) (n := 625) (o := 139) (N' := 139) (c2 := 47) (s2 := 16698) rfl ⟨rfl, rfl⟩ rfl rfl (by decide) rfl rfl (by decide) ⟨by decide, by decide⟩ dX13_init_516 ?_
  refine c_putO (ci := 11) (k := 73) (t := 59) (off := 47) (by decide) (by decide) lk_X13_234 rfl rfl rfl rfl rfl (by decide) (fun _ => rfl) (fun _ => rfl) ⟨by decide, by decide⟩ (by decide) rfl dX13_init_518 ?_
  refine c_aload_n dX13_init_521 rfl rfl ?_
  refine c_iconst dX13_init_522 ?_
  refine c_newI (t := 35) (n := 4) (o := 140) (N' := 140) (c2 := 48) (s2 := 16702) rfl ⟨rfl, rfl⟩ rfl rfl (by decide) rfl rfl (by decide) ⟨by decide, by decide⟩ dX13_init_523 ?_
  refine c_putO (ci := 11) (k := 74) (t := 35) (off := 48) (by decide) (by decide) lk_X13_237 rfl rfl rfl rfl rfl (by decide) (fun _ => rfl) (fun _ => rfl) ⟨by decide, by decide⟩ (by decide) rfl dX13_init_525 ?_
  refine c_aload_n dX13_init_528 rfl rfl ?_
  refine c_bipush dX13_init_529 rfl ?_
  refine c_newI (t := 60) (n := 70) (o := 141) (N' := 141) (c2 := 49) (s2 := 16772) rfl ⟨rfl, rfl⟩ rfl rfl (by decide) rfl rfl (by decide) ⟨by decide, by decide⟩ dX13_init_531 ?_
  refine c_putO (ci := 11) (k := 75) (t := 60) (off := 49) (by decide) (by decide) lk_X13_240 rfl rfl rfl rfl rfl (by decide) (fun _ => rfl) (fun _ => rfl) ⟨by decide, by decide⟩ (by decide) rfl dX13_init_533 ?_
  refine c_aload_n dX13_init_536 rfl rfl ?_
  refine c_iconst dX13_init_537 ?_
  refine c_putN (ci := 11) (k := 76) (t := 0) (σ2 := (ups (ups (ups (ups (ups σ 92 9 (-1)) 92 11 (-1)) 92 12 (-1)) 92 36 (1)) 92 60 (1))) (by decide) (by decide) lk_X13_243 rfl rfl rfl (show inR _ by unfold inR; omega) rfl rfl (zS_same (by rw [ups_k _ (by decide), ups_k _ (by decide), ups_k _ (by decide), ups_k _ (by decide), ups_k _ (by decide)]; exact hs0 _ (by decide) _)) ⟨by decide, by decide⟩ (by decide) rfl dX13_init_538 ?_
  refine c_iconst dX13_init_541 ?_
  refine c_istore_n (ls2 := [(21, 92), (0, 0)]) dX13_init_542 (by decide) rfl ?_
  refine c_iload_n dX13_init_543 rfl ?_
  refine c_iconst dX13_init_544 ?_
  refine c_ge_f (tgt := 561) dX13_init_545 (by decide) (by unfold inR; omega) (by unfold inR; omega) (by decide) ?_
  refine c_aload_n dX13_init_548 rfl rfl ?_
  refine c_getf (ci := 11) (k := 28) (t := 35) (v := 108) (by decide) (by decide) lk_X13_96 rfl rfl ⟨by decide, by decide⟩ rfl (by rw [zUn_at]; rfl) dX13_init_549 ?_
  refine c_iload_n dX13_init_552 rfl ?_
  refine c_iconst dX13_init_553 ?_
  refine c_iast (n := 4) rfl (by decide) ⟨by decide, by decide⟩ (by decide) rfl ⟨by decide, by decide⟩ (by unfold inR; omega) (by unfold inR; omega) dX13_init_554 ?_
  refine c_iinc (ls2 := [(21, 92), (0, 1)]) dX13_init_555 rfl (by decide) rfl ?_
  refine c_goto (tgt := 543) dX13_init_558 (by decide) ?_
  refine c_iload_n dX13_init_543 rfl ?_
  refine c_iconst dX13_init_544 ?_
  refine c_ge_f (tgt := 561) dX13_init_545 (by decide) (by unfold inR; omega) (by unfold inR; omega) (by decide) ?_
  refine c_aload_n dX13_init_548 rfl rfl ?_
  refine c_getf (ci := 11) (k := 28) (t := 35) (v := 108) (by decide) (by decide) lk_X13_96 rfl rfl ⟨by decide, by decide⟩ rfl (by rw [zUn_at]; rfl) dX13_init_549 ?_
  refine c_iload_n dX13_init_552 rfl ?_
  refine c_iconst dX13_init_553 ?_
  refine c_iast (n := 4) rfl (by decide) ⟨by decide, by decide⟩ (by decide) rfl ⟨by decide, by decide⟩ (by unfold inR; omega) (by unfold inR; omega) dX13_init_554 ?_
  refine c_iinc (ls2 := [(21, 92), (0, 2)]) dX13_init_555 rfl (by decide) rfl ?_
  refine c_goto (tgt := 543) dX13_init_558 (by decide) ?_
  refine c_iload_n dX13_init_543 rfl ?_
  refine c_iconst dX13_init_544 ?_
  refine c_ge_f (tgt := 561) dX13_init_545 (by decide) (by unfold inR; omega) (by unfold inR; omega) (by decide) ?_
  refine c_aload_n dX13_init_548 rfl rfl ?_
  refine c_getf (ci := 11) (k := 28) (t := 35) (v := 108) (by decide) (by decide) lk_X13_96 rfl rfl ⟨by decide, by decide⟩ rfl (by rw [zUn_at]; rfl) dX13_init_549 ?_
  refine c_iload_n dX13_init_552 rfl ?_
  refine c_iconst dX13_init_553 ?_
  refine c_iast (n := 4) rfl (by decide) ⟨by decide, by decide⟩ (by decide) rfl ⟨by decide, by decide⟩ (by unfold inR; omega) (by unfold inR; omega) dX13_init_554 ?_
  refine c_iinc (ls2 := [(21, 92), (0, 3)]) dX13_init_555 rfl (by decide) rfl ?_
  refine c_goto (tgt := 543) dX13_init_558 (by decide) ?_
  refine c_iload_n dX13_init_543 rfl ?_
  refine c_iconst dX13_init_544 ?_
  refine c_ge_f (tgt := 561) dX13_init_545 (by decide) (by unfold inR; omega) (by unfold inR; omega) (by decide) ?_
  refine c_aload_n dX13_init_548 rfl rfl ?_
  refine c_getf (ci := 11) (k := 28) (t := 35) (v := 108) (by decide) (by decide) lk_X13_96 rfl rfl ⟨by decide, by decide⟩ rfl (by rw [zUn_at]; rfl) dX13_init_549 ?_
  refine c_iload_n dX13_init_552 rfl ?_
  refine c_iconst dX13_init_553 ?_
  refine c_iast (n := 4) rfl (by decide) ⟨by decide, by decide⟩ (by decide) rfl ⟨by decide, by decide⟩ (by unfold inR; omega) (by unfold inR; omega) dX13_init_554 ?_
  refine c_iinc (ls2 := [(21, 92), (0, 4)]) dX13_init_555 rfl (by decide) rfl ?_
  refine c_goto (tgt := 543) dX13_init_558 (by decide) ?_
  refine c_iload_n dX13_init_543 rfl ?_
  refine c_iconst dX13_init_544 ?_
  refine c_ge_t (tgt := 561) dX13_init_545 (by decide) (by unfold inR; omega) (by unfold inR; omega) (by decide) ?_
  refine c_iconst dX13_init_561 ?_
  refine c_istore_n (ls2 := [(21, 92), (0, 0)]) dX13_init_562 (by decide) rfl ?_
  refine c_iload_n dX13_init_563 rfl ?_
  refine c_iconst dX13_init_564 ?_
  refine c_ge_f (tgt := 579) dX13_init_565 (by decide) (by unfold inR; omega) (by unfold inR; omega) (by decide) ?_
  refine c_aload_n dX13_init_568 rfl rfl ?_
  refine c_iload_n dX13_init_569 rfl ?_
  refine c_done (ci := 11) (fun o k q => by cases q) rfl (by decide +kernel) ?_
  refine c_call (ci := 11) (As := [(0, 0)]) (o1 := 92) (st := []) (R := zLs bk92) (V2 := zU0) (by decide) ok_X13_246 rfl rfl rfl (Nat.le_of_ble_eq_true rfl) ⟨by decide, by decide⟩ ⟨by decide, by decide⟩ rfl dX13_init_570 (Kz.of (R_isDefault (e := 8) (c := 0) (by omega)) hC (fun x hx => by
      simp only [List.mem_cons, List.not_mem_nil, or_false] at hx
      rcases hx with rfl | rfl
      · exact vld_of (by decide) ⟨bk92_iff.mpr (by omega), rfl⟩
      · exact (show inR 0 by unfold inR; omega)) hN hV (obL (ex := []) (by decide +kernel) (fun q h => by cases h)) hg) hC hN hg hV (fun _ _ => rfl) (fun r s2 h o ho => by rw [show s2 = zDf _ 0 from h.2]; exact zDf_at (fun e => ho (by rw [e]; show (107 : Int) ∈ bk92; decide +kernel))) (fun r σ9 h9 => ?_)
  rw [show σ9 = zDf _ 0 from h9.2]
  refine c_iinc (ls2 := [(21, 92), (0, 1)]) dX13_init_573 rfl (by decide) rfl ?_
  refine c_goto (tgt := 563) dX13_init_576 (by decide) ?_
  refine c_iload_n dX13_init_563 rfl ?_
  refine c_iconst dX13_init_564 ?_
  refine c_ge_f (tgt := 579) dX13_init_565 (by decide) (by unfold inR; omega) (by unfold inR; omega) (by decide) ?_
  refine c_aload_n dX13_init_568 rfl rfl ?_
  refine c_iload_n dX13_init_569 rfl ?_
  refine c_call (ci := 11) (As := [(0, 1)]) (o1 := 92) (st := []) (R := zLs bk92) (V2 := zU0) (by decide) ok_X13_246 rfl rfl rfl (Nat.le_of_ble_eq_true rfl) ⟨by decide, by decide⟩ ⟨by decide, by decide⟩ rfl dX13_init_570 (Kz.of (R_isDefault (e := 8) (c := 1) (by omega)) hC (fun x hx => by
      simp only [List.mem_cons, List.not_mem_nil, or_false] at hx
      rcases hx with rfl | rfl
      · exact vld_of (by decide) ⟨bk92_iff.mpr (by omega), rfl⟩
      · exact (show inR 1 by unfold inR; omega)) hN hV (obL (ex := []) (by decide +kernel) (fun q h => by cases h)) hg) hC hN hg hV (fun _ _ => rfl) (fun r s2 h o ho => by rw [show s2 = zDf _ 1 from h.2]; exact zDf_at (fun e => ho (by rw [e]; show (107 : Int) ∈ bk92; decide +kernel))) (fun r σ9 h9 => ?_)
  rw [show σ9 = zDf _ 1 from h9.2]
  refine c_iinc (ls2 := [(21, 92), (0, 2)]) dX13_init_573 rfl (by decide) rfl ?_
  refine c_goto (tgt := 563) dX13_init_576 (by decide) ?_
  refine c_iload_n dX13_init_563 rfl ?_
  refine c_iconst dX13_init_564 ?_
  refine c_ge_t (tgt := 579) dX13_init_565 (by decide) (by unfold inR; omega) (by unfold inR; omega) (by decide) ?_
  exact c_ret dX13_init_579 (zRef_of hs0)
end KREF
