/-! rows of the abstract machine: Math, arraycopy, enum constants, the static arrays -/
theorem Rp.arr {g : GT} {σ σ2 : Sg} {H H1 : Heap} {o : Int} {t : Nat} (hC : Cl g) (hR : Rp g σ H) (ho : gr g o) (hto : tg o = t) (ht : 30 ≤ t) (hs : ∀ (o2 k : Int), o2 ≠ o → σ2 o2 k = σ o2 k) (hv : ∀ i : Nat, i < aN t → inL (σ2 o i) ∧ (aE t ≠ 2 → inR (σ2 o i)))
    (h1 : H1[adr g o]? = some (arrV (gA g (aE t)) (aN t) (fun i => eV g o t i (σ2 o i)))) (h2 : ∀ q : Nat, q ≠ adr g o → H1[q]? = H[q]?) : Rp g σ2 H1 := by
  subst hto
  intro o2 ho2
  obtain ⟨⟨c1, c2⟩, s1, s2⟩ := hR o2 ho2
  by_cases e : o2 = o
  · subst e
    exact ⟨⟨fun h => absurd ht (by omega), fun _ => h1⟩, fun h => absurd ht (by omega), fun _ j hj => hv j hj⟩
  · have ha : adr g o2 ≠ adr g o := fun h => e (adr_inj (hC o2 ho2).1 (hC o ho).1 h)
    refine ⟨⟨fun h => ?_, fun h => ?_⟩, fun h j hj hfj => ?_, fun h j hj => ?_⟩
    · refine ((c1 h).kept (h2 _ ha)).to (fun j hj => ?_)
      show conc g (fkT (tg o2 - 10) j, fW σ o2 (tg o2 - 10) j) = _
      rw [fW_c (hs o2 j e).symm]
    · rw [h2 _ ha, c2 h]
      simp only [hs _ _ e]
    · rw [hs _ _ e]
      exact s1 h j hj hfj
    · rw [hs _ _ e]
      exact s2 h j hj
/-- n places from sp on of array a go to array b from dp on -/
def cpy (σ : Sg) (a sp b dp n : Int) : Sg := fun o k => if o = b ∧ dp ≤ k ∧ k < dp + n then σ a (sp + (k - dp)) else σ o k
section MORE
variable {g : GT} {d : Nat} {M : MI} {Q : Int → Sg → Prop} {pc : Nat} {ls st : List AV} {σ : Sg}
theorem r_maxI {idx : Nat} {a b : Int} (hw : Cond.methodLink M.1.cls idx Lib.Math.max.name ∈ lwG ∧ Cond.static Lib.Math.max.name ∈ lwG ∧ Cond.initialized "java/lang/Math" ∈ lwG ∧ Cond.code Lib.Math.max.name Lib.Math.max.code 2 (some .int) ∈ lwG) (hc : catS st ≤ 8)
    (hd : decode M.2.1 pc = .ok (.invokestatic idx, 3)) (h : Wp g (d + 1) M Q (pc + 3) ls ((0, max a b) :: st) σ) : Wp g (d + 1) M Q pc ls ((0, b) :: (0, a) :: st) σ := by
  intro p e s m args below meth c H locs lsA C S R L vl vs
  obtain ⟨c1, c2, c3, c4, c5, c6, c7, c8, c9, c10⟩ := id C
  have ra : inR a := vhd (vtl vs)
  have rb : inR b := vhd vs
  have rm : inR (max a b) := by unfold inR at *; omega
  have h2 := h p e s m args below meth c H locs lsA C S R L vl (vcons (x := (0, max a b)) rm (vtl (vtl vs)))
  refine va_mmax c1 c2 (c3.trans L.1.symm) c4 (c5 _ hw.1) (c5 _ hw.2.1) (c5 _ hw.2.2.1) (c5 _ hw.2.2.2) (by show 1 ≤ d + 1; omega) (by rw [catS_c]; show _ ≤ 40 * (d + 1); omega) (Nat.le_refl _) (Nat.le_refl _) hd ?_
  rw [List.map_cons] at h2
  rw [show conc g (0, max a b) = .int (if i3 a < i3 b then i3 b else i3 a) from by
    show Value.int (i3 (max a b)) = _
    by_cases hab : a < b
    · rw [if_pos ((i3_lt ra rb).mpr hab), show max a b = b by omega]
    · rw [if_neg (fun q => hab ((i3_lt ra rb).mp q)), show max a b = a by omega]] at h2
  exact h2
theorem r_minI {idx : Nat} {a b : Int} (hw : Cond.methodLink M.1.cls idx Lib.Math.min.name ∈ lwG ∧ Cond.static Lib.Math.min.name ∈ lwG ∧ Cond.initialized "java/lang/Math" ∈ lwG ∧ Cond.code Lib.Math.min.name Lib.Math.min.code 2 (some .int) ∈ lwG) (hc : catS st ≤ 8)
    (hd : decode M.2.1 pc = .ok (.invokestatic idx, 3)) (h : Wp g (d + 1) M Q (pc + 3) ls ((0, min a b) :: st) σ) : Wp g (d + 1) M Q pc ls ((0, b) :: (0, a) :: st) σ := by
  intro p e s m args below meth c H locs lsA C S R L vl vs
  obtain ⟨c1, c2, c3, c4, c5, c6, c7, c8, c9, c10⟩ := id C
  have ra : inR a := vhd (vtl vs)
  have rb : inR b := vhd vs
  have rm : inR (min a b) := by unfold inR at *; omega
  have h2 := h p e s m args below meth c H locs lsA C S R L vl (vcons (x := (0, min a b)) rm (vtl (vtl vs)))
  refine va_mmin c1 c2 (c3.trans L.1.symm) c4 (c5 _ hw.1) (c5 _ hw.2.1) (c5 _ hw.2.2.1) (c5 _ hw.2.2.2) (by show 1 ≤ d + 1; omega) (by rw [catS_c]; show _ ≤ 40 * (d + 1); omega) (Nat.le_refl _) (Nat.le_refl _) hd ?_
  rw [List.map_cons] at h2
  rw [show conc g (0, min a b) = .int (if i3 b < i3 a then i3 b else i3 a) from by
    show Value.int (i3 (min a b)) = _
    by_cases hab : b < a
    · rw [if_pos ((i3_lt rb ra).mpr hab), show min a b = b by omega]
    · rw [if_neg (fun q => hab ((i3_lt rb ra).mp q)), show min a b = a by omega]] at h2
  exact h2
theorem r_maxL {idx : Nat} {a b : Int} (hw : Cond.methodLink M.1.cls idx Lib.MathLoose.max_long.x ∈ lwG ∧ Cond.static Lib.MathLoose.max_long.x ∈ lwG ∧ Cond.initialized "java/lang/Math" ∈ lwG ∧ Cond.code Lib.MathLoose.max_long.x Lib.MathLoose.max_long.code 4 (some .long) ∈ lwG) (hc : catS st ≤ 8)
    (hd : decode M.2.1 pc = .ok (.invokestatic idx, 3)) (h : Wp g (d + 1) M Q (pc + 3) ls ((2, max a b) :: st) σ) : Wp g (d + 1) M Q pc ls ((2, b) :: (2, a) :: st) σ := by
  intro p e s m args below meth c H locs lsA C S R L vl vs
  obtain ⟨c1, c2, c3, c4, c5, c6, c7, c8, c9, c10⟩ := id C
  have ra : inL a := vhd (vtl vs)
  have rb : inL b := vhd vs
  have rm : inL (max a b) := by unfold inL at *; omega
  have h2 := h p e s m args below meth c H locs lsA C S R L vl (vcons (x := (2, max a b)) rm (vtl (vtl vs)))
  refine va_mmax_long c1 c2 (c3.trans L.1.symm) c4 (c5 _ hw.1) (c5 _ hw.2.1) (c5 _ hw.2.2.1) (c5 _ hw.2.2.2) (by show 1 ≤ d + 1; omega) (by rw [catS_c]; show _ ≤ 40 * (d + 1); omega) (Nat.le_refl _) (Nat.le_refl _) hd ?_
  rw [List.map_cons] at h2
  rw [show conc g (2, max a b) = .long (if i6 b < i6 a then i6 a else i6 b) from by
    show Value.long (i6 (max a b)) = _
    by_cases hab : b < a
    · rw [if_pos ((i6_lt rb ra).mpr hab), show max a b = a by omega]
    · rw [if_neg (fun q => hab ((i6_lt rb ra).mp q)), show max a b = b by omega]] at h2
  exact h2
theorem r_minL {idx : Nat} {a b : Int} (hw : Cond.methodLink M.1.cls idx Lib.MathLoose.min_long.x ∈ lwG ∧ Cond.static Lib.MathLoose.min_long.x ∈ lwG ∧ Cond.initialized "java/lang/Math" ∈ lwG ∧ Cond.code Lib.MathLoose.min_long.x Lib.MathLoose.min_long.code 4 (some .long) ∈ lwG) (hc : catS st ≤ 8)
    (hd : decode M.2.1 pc = .ok (.invokestatic idx, 3)) (h : Wp g (d + 1) M Q (pc + 3) ls ((2, min a b) :: st) σ) : Wp g (d + 1) M Q pc ls ((2, b) :: (2, a) :: st) σ := by
  intro p e s m args below meth c H locs lsA C S R L vl vs
  obtain ⟨c1, c2, c3, c4, c5, c6, c7, c8, c9, c10⟩ := id C
  have ra : inL a := vhd (vtl vs)
  have rb : inL b := vhd vs
  have rm : inL (min a b) := by unfold inL at *; omega
  have h2 := h p e s m args below meth c H locs lsA C S R L vl (vcons (x := (2, min a b)) rm (vtl (vtl vs)))
  refine va_mmin_long c1 c2 (c3.trans L.1.symm) c4 (c5 _ hw.1) (c5 _ hw.2.1) (c5 _ hw.2.2.1) (c5 _ hw.2.2.2) (by show 1 ≤ d + 1; omega) (by rw [catS_c]; show _ ≤ 40 * (d + 1); omega) (Nat.le_refl _) (Nat.le_refl _) hd ?_
  rw [List.map_cons] at h2
  rw [show conc g (2, min a b) = .long (if i6 b < i6 a then i6 b else i6 a) from by
    show Value.long (i6 (min a b)) = _
    by_cases hab : b < a
    · rw [if_pos ((i6_lt rb ra).mpr hab), show min a b = b by omega]
    · rw [if_neg (fun q => hab ((i6_lt rb ra).mp q)), show min a b = a by omega]] at h2
  exact h2
theorem r_copy {idx : Nat} {t0 t1 : Nat} {o0 o1 sp dp n n0 n1 : Int} (hw : Cond.methodLink M.1.cls idx arraycopyName ∈ lwG ∧ Cond.native arraycopyName ∈ lwG ∧ Cond.static arraycopyName ∈ lwG ∧ Cond.initialized "java/lang/System" ∈ lwG) (hc : catS st ≤ 8)
    (he0 : (aE t0, (aN t0 : Int)) = (0, n0)) (ht0 : 30 ≤ t0) (he1 : (aE t1, (aN t1 : Int)) = (0, n1)) (ht1 : 30 ≤ t1) (hd : decode M.2.1 pc = .ok (.invokestatic idx, 3)) (hb : (0 ≤ sp ∧ 0 ≤ dp ∧ 0 ≤ n) ∧ sp + n ≤ n0 ∧ dp + n ≤ n1)
    (h : Wp g (d + 1) M Q (pc + 3) ls st (cpy σ o0 sp o1 dp n)) : Wp g (d + 1) M Q pc ls ((0, n) :: (0, dp) :: (t1, o1) :: (0, sp) :: (t0, o0) :: st) σ := by
  intro p e s m args below meth c H locs lsA C S R L vl vs
  obtain ⟨c1, c2, c3, c4, c5, c6, c7, c8, c9, c10⟩ := id C
  have hE0 : aE t0 = 0 := congrArg Prod.fst he0
  have hN0 : (aN t0 : Int) = n0 := congrArg Prod.snd he0
  have hE1 : aE t1 = 0 := congrArg Prod.fst he1
  have hN1 : (aN t1 : Int) = n1 := congrArg Prod.snd he1
  subst hN0
  subst hN1
  have rn : inR n := vhd vs
  have rdp : inR dp := vhd (vtl vs)
  have v1 : gr g o1 ∧ tg o1 = t1 := vld_o (by omega) (vhd (vtl (vtl vs)))
  have rsp : inR sp := vhd (vtl (vtl (vtl vs)))
  have v0 : gr g o0 ∧ tg o0 = t0 := vld_o (by omega) (vhd (vtl (vtl (vtl (vtl vs)))))
  obtain ⟨⟨b1, b2, b3⟩, b4, b5⟩ := hb
  have k0 := cel_ar ht0 R v0
  have k1 := cel_ar ht1 R v1
  have f0 : (fun i : Nat => eV g o0 t0 i (σ o0 i)) = (fun i : Nat => Value.int (i3 (σ o0 i))) := by funext i; unfold eV; rw [hE0]; rfl
  have f1 : (fun i : Nat => eV g o1 t1 i (σ o1 i)) = (fun i : Nat => Value.int (i3 (σ o1 i))) := by funext i; unfold eV; rw [hE1]; rfl
  rw [f0, hE0] at k0
  rw [f1, hE1] at k1
  have hA := (c8.2 0 (gA g 0, .int) rfl).1
  have nn : ∀ z : Int, 0 ≤ z → inR z → ¬ i3 z < 0 := fun z hz rz q => by have := (i3_lt rz inR0).mp (show i3 z < i3 0 from q); omega
  have e_sp : (i3 sp).toNatClampNeg = sp.toNat := i3_idx b1 rsp
  have e_dp : (i3 dp).toNatClampNeg = dp.toNat := i3_idx b2 rdp
  have e_n : (i3 n).toNatClampNeg = n.toNat := i3_idx b3 rn
  simp only [List.map_cons]
  rw [conc_o (t := t1) (by omega), conc_o (t := t0) (by omega)]
  intro T hT X
  obtain ⟨-, kk0, hk0, cm0, hkk0⟩ := hA (aN t0) (fun i : Nat => Value.int (i3 (σ o0 i)))
  obtain ⟨-, kk1, hk1, cm1, hkk1⟩ := hA (aN t1) (fun i : Nat => Value.int (i3 (σ o1 i)))
  obtain ⟨vm', X', step⟩ := X.arraycopy c1 c4 (c5 _ hw.1) (c5 _ hw.2.1) (c5 _ hw.2.2.1) (c5 _ hw.2.2.2) (src := adr g o0) (dst := adr g o1) (cs := arrV (gA g 0) (aN t0) (fun i : Nat => Value.int (i3 (σ o0 i)))) (cd := arrV (gA g 0) (aN t1) (fun i : Nat => Value.int (i3 (σ o1 i)))) (srcPos := i3 sp) (destPos := i3 dp) (n := i3 n) (by rw [hT]; exact k0) (by rw [hT]; exact k1)
    (fun _ h => by cases h) (fun _ h => by cases h) (fun h => by cases h) (fun h => by cases h) hk0 hk1 hkk0 hkk1 (by simp [refKind]) (nn sp b1 rsp) (nn dp b2 rdp) (nn n b3 rn)
    (by rw [i3_toid rsp, i3_toid rn, arrV_size]; omega)
    (by rw [i3_toid rdp, i3_toid rn, arrV_size]; omega)
    (fun vm₁ _ i hi => by
      rw [e_n] at hi
      have e : (arrV (gA g 0) (aN t0) (fun i : Nat => Value.int (i3 (σ o0 i)))).slots.getD ((i3 sp).toNatClampNeg + i) .null = .int (i3 (σ o0 ((sp.toNat + i : Nat) : Int))) := by
        rw [Array.getD_eq_getD_getElem?, e_sp, arrV_read _ _ (by omega)]
        rfl
      refine ⟨?_, ?_⟩
      · rw [e]; rfl
      · rw [e]; exact trivial)
    (g := F0 m pc lsA (conc g (0, n) :: conc g (0, dp) :: .ref (adr g o1) :: conc g (0, sp) :: .ref (adr g o0) :: st.map (conc g))) rfl (L.1.trans c3.symm) (rest := st.map (conc g)) rfl (by rw [c2]; exact hd) (by show 1 ≤ d + 1; omega) (by
      have hcat := catS_c g st
      have e7 : nativeFrameWords "java/lang/System" "arraycopy" 5 = 7 := by decide
      show 2 * 0 + _ + _ ≤ 40 * (d + 1)
      omega)
  have e1 : copied (arrV (gA g 0) (aN t0) (fun i : Nat => Value.int (i3 (σ o0 i)))) (arrV (gA g 0) (aN t1) (fun i : Nat => Value.int (i3 (σ o1 i)))) (i3 sp) (i3 dp) (i3 n) = arrV (gA g 0) (aN t1) (fun j => Value.int (va_cpy (fun i : Nat => i3 (σ o0 i)) (fun i : Nat => i3 (σ o1 i)) (i3 sp).toNatClampNeg (i3 dp).toNatClampNeg (i3 n).toNatClampNeg j)) :=
    va_copied (fun z => .int z) (gA g 0) (gA g 0) _ _ (by rw [e_sp, e_n]; omega)
  rw [e1, e_sp, e_dp, e_n] at X'
  rw [e1, e_sp, e_dp, e_n] at step
  have ecp : (fun j : Nat => Value.int (va_cpy (fun i : Nat => i3 (σ o0 i)) (fun i : Nat => i3 (σ o1 i)) sp.toNat dp.toNat n.toNat j)) = (fun j : Nat => eV g o1 t1 j (cpy σ o0 sp o1 dp n o1 j)) := by
    funext j
    unfold eV va_cpy cpy
    rw [hE1]
    by_cases hj : dp.toNat ≤ j ∧ j < dp.toNat + n.toNat
    · rw [if_pos hj, if_pos ⟨rfl, by omega, by omega⟩]
      show Value.int (i3 _) = Value.int (i3 _)
      rw [show ((sp.toNat + (j - dp.toNat) : Nat) : Int) = sp + ((j : Int) - dp) by omega]
    · rw [if_neg hj, if_neg (fun q => hj (by omega))]
      rfl
  rw [ecp] at X' step
  have hl : adr g o1 < H.size := (Array.getElem?_eq_some_iff.mp k1).1
  have hheap : ((T.setVm vm').setCell (adr g o1) (arrV (gA g 0) (aN t1) (fun j : Nat => eV g o1 t1 j (cpy σ o0 sp o1 dp n o1 j)))).heap = H.setIfInBounds (adr g o1) (arrV (gA g 0) (aN t1) (fun j : Nat => eV g o1 t1 j (cpy σ o0 sp o1 dp n o1 j))) := by rw [← hT]; rfl
  have oq : ∀ q : Nat, q ≠ adr g o1 → (H.setIfInBounds (adr g o1) (arrV (gA g 0) (aN t1) (fun j : Nat => eV g o1 t1 j (cpy σ o0 sp o1 dp n o1 j))))[q]? = H[q]? := fun q hq => by simp [Array.getElem?_setIfInBounds, Ne.symm hq]
  have R2 : Rp g (cpy σ o0 sp o1 dp n) (H.setIfInBounds (adr g o1) (arrV (gA g 0) (aN t1) (fun j : Nat => eV g o1 t1 j (cpy σ o0 sp o1 dp n o1 j)))) := by
    refine R.arr c10 v1.1 v1.2 ht1 (fun o2 k ho => by unfold cpy; rw [if_neg (fun q => ho q.1)]) (fun i hi => ?_) (by rw [hE1]; simp [Array.getElem?_setIfInBounds, hl]) oq
    unfold cpy
    split
    · rename_i hq
      have := ar_ok (i := sp + ((i : Int) - dp)) ht0 R v0 (by omega) (by omega)
      exact ⟨this.1, fun _ => this.2 (by rw [hE0]; decide)⟩
    · have := ar_ok (i := (i : Int)) ht1 R v1 (by omega) (by omega)
      exact this
  obtain ⟨t, a1, b1⟩ := h p e s m args below meth c _ _ lsA C ⟨by simp; exact S.1, fun q g1 g2 => by
      rw [oq q (fun e => g2 (by rw [e]; exact ⟨o1, v1.1, rfl⟩))]
      exact S.2.1 q g1 g2, fun q hq => by
      rcases List.mem_append.mp hq with h | h
      · exact S.2.2 q h
      · obtain ⟨z, -, hz⟩ := List.mem_map.mp h
        rw [← hz]
        exact ⟨o1, v1.1, rfl⟩⟩ R2 L vl (vtl (vtl (vtl (vtl (vtl vs))))) _ hheap X'
  exact ⟨t, step t a1, b1⟩
end MORE
