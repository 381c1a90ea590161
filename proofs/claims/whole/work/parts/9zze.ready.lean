/-! what a constructor leaves ready: blocks of objects; a world that begins while it is made -/
theorem zUn_le {U : Ut} {o0 o : Int} {L : List Nat} {k : Nat} (h : zUn U o0 L o k = true) : o ≤ o0 := by
  by_cases q : o0 < o
  · rw [zUn_gt q] at h; cases h
  · omega
def zLs (L : List Int) : Int → Prop := fun o => o ∈ L
def clB (L : List Int) : Bool := L.all fun o => decide (1 ≤ o) && (decide (10 ≤ tg o) &&
  ((!decide (tg o < 30) || (decide (tg o < 22) && (List.range (nF (tg o - 10))).all fun k => match fkO (tg o - 10) k with | none => true | some off => L.contains (o + off) && decide (tg (o + off) = fkT (tg o - 10) k))) &&
  (decide (tg o < 30) || (!decide (aE (tg o) = 7) || (List.range (aN (tg o))).all fun i => L.contains (o + 1 + i) && decide (tg (o + 1 + i) = aI (tg o))))))
theorem clL (g : GT) {L : List Int} (h : clB L = true) : Cl (gR g (zLs L)) := by
  intro o ho
  have h1 := List.all_eq_true.mp h o ho
  simp only [Bool.and_eq_true, Bool.or_eq_true, decide_eq_true_eq, Bool.not_eq_true', decide_eq_false_iff_not] at h1
  obtain ⟨a1, a2, a3, a4⟩ := h1
  refine ⟨a1, a2, fun t => ?_, fun t e i hi => ?_⟩
  · rcases a3 with q | q
    · exact absurd t q
    · refine ⟨q.1, fun k off hk hf => ?_⟩
      have h2 := List.all_eq_true.mp q.2 k (List.mem_range.mpr hk)
      rw [hf] at h2
      simp only [Bool.and_eq_true, decide_eq_true_eq] at h2
      exact ⟨List.contains_iff_mem.mp h2.1, h2.2⟩
  · rcases a4 with q | q
    · exact absurd q (by omega)
    · rcases q with q | q
      · exact absurd e q
      · have h2 := List.all_eq_true.mp q i (List.mem_range.mpr hi)
        simp only [Bool.and_eq_true, decide_eq_true_eq] at h2
        exact ⟨List.contains_iff_mem.mp h2.1, h2.2⟩
/-- the fields of these objects that name others by themselves, but for those of ex, are none -/
def obB (L : List Int) (ex : List (Int × Nat)) : Bool := L.all fun o => decide (30 ≤ tg o) || (List.range (nF (tg o - 10))).all fun k => (fkO (tg o - 10) k).isSome || (decide (fkT (tg o - 10) k = 0) || (decide (fkT (tg o - 10) k = 2) || (decide (fkT (tg o - 10) k = 3) || ex.contains (o, k))))
theorem obL {L : List Int} {ex : List (Int × Nat)} {σ : Sg} (h : obB L ex = true) (he : ∀ q ∈ ex, σ q.1 q.2 ∈ L) : ∀ o, zLs L o → tg o < 30 → ∀ k : Nat, k < nF (tg o - 10) → fkO (tg o - 10) k = none → fkT (tg o - 10) k ≠ 0 → fkT (tg o - 10) k ≠ 2 → fkT (tg o - 10) k ≠ 3 → zLs L (σ o k) := by
  intro o ho t k hk hf f0 f2 f3
  have h1 := List.all_eq_true.mp h o ho
  simp only [Bool.or_eq_true, decide_eq_true_eq] at h1
  rcases h1 with q | q
  · exact absurd t (by omega)
  · have h2 := List.all_eq_true.mp q k (List.mem_range.mpr hk)
    simp only [Bool.or_eq_true, decide_eq_true_eq] at h2
    rcases h2 with a | a | a | a | a
    · rw [hf] at a; cases a
    · exact absurd a f0
    · exact absurd a f2
    · exact absurd a f3
    · exact he _ (List.contains_iff_mem.mp a)
theorem zLs_of {L : List Int} {p : Int → Bool} (h : L.all p = true) : ∀ o, zLs L o → p o = true := fun o ho => List.all_eq_true.mp h o ho
def bkT (tw : Int) : List Int := (List.range 21).map fun i : Nat => tw + i
def bkW (tw th : Int) : List Int := bkT tw ++ (List.range 7).map fun i : Nat => th + i
theorem bkT_iff {tw o : Int} : o ∈ bkT tw ↔ tw ≤ o ∧ o ≤ tw + 20 := by
  unfold bkT
  rw [List.mem_map]
  constructor
  · rintro ⟨i, hi, rfl⟩
    have := List.mem_range.mp hi
    omega
  · intro h
    exact ⟨(o - tw).toNat, List.mem_range.mpr (by omega), by omega⟩
theorem bkW_iff {tw th o : Int} : o ∈ bkW tw th ↔ (tw ≤ o ∧ o ≤ tw + 20) ∨ (th ≤ o ∧ o ≤ th + 6) := by
  unfold bkW
  rw [List.mem_append, bkT_iff, List.mem_map]
  constructor
  · rintro (h | ⟨i, hi, rfl⟩)
    · exact Or.inl h
    · have := List.mem_range.mp hi
      omega
  · rintro (h | h)
    · exact Or.inl h
    · exact Or.inr ⟨(o - th).toNat, List.mem_range.mpr (by omega), by omega⟩
section BEGW
variable {g : GT} {e : Nat} {s : Sg} {T : Tn} {tw th : Int}
/-- what a world's begin makes of the state -/
def bgS (s : Sg) (th tw : Int) : Sg := cntS (clrS (fil (cpy (ups (ups (ups s th 0 tw) th 1 0) th 2 0) (tw + 8) 0 (th + 1) 0 8) (th + 2) 8 0) th) th
theorem bgS_ok (hT : TOK T) (hx : CT s tw T) (ht : isW th) (hw : isT tw) : ∃ B, CZ (bgS s th tw) th tw T (B, 0, 0) 0 ∧ BEG T B ∧ Fr (fun o => th ≤ o ∧ o ≤ th + 6) s (bgS s th tw) := by
  obtain ⟨s1, e1⟩ : ∃ x, x = ups s th 0 tw := ⟨_, rfl⟩
  obtain ⟨s2, e2⟩ : ∃ x, x = ups s1 th 1 0 := ⟨_, rfl⟩
  obtain ⟨s3, e3⟩ : ∃ x, x = ups s2 th 2 0 := ⟨_, rfl⟩
  obtain ⟨s4, e4⟩ : ∃ x, x = cpy s3 (tw + 8) 0 (th + 1) 0 8 := ⟨_, rfl⟩
  have hs : cntS (clrS (fil s4 (th + 2) 8 0) th) th = bgS s th tw := by rw [e4, e3, e2, e1]; rfl
  generalize bgS s th tw = s9 at hs ⊢
  have ht' := ht
  have hw' := hw
  unfold isW at ht
  unfold isT at hw
  have at9 : ∀ o, o ≠ th → s9 o = clrS (fil s4 (th + 2) 8 0) th o := fun o ho => by rw [← hs, cntS_at _ ho]
  have fr : Fr (fun o => th ≤ o ∧ o ≤ th + 6) s s9 := by
    intro o ho
    have ne : ∀ a, 0 ≤ a → a ≤ 6 → o ≠ th + a := fun a a0 a6 q => ho ⟨by omega, by omega⟩
    have ne0 : o ≠ th := by have := ne 0 (by decide) (by decide); omega
    rw [at9 o ne0, clrS_at _ (ne 3 (by decide) (by decide)) (ne 4 (by decide) (by decide)) (ne 5 (by decide) (by decide)), fil_at _ (ne 2 (by decide) (by decide)), e4, cpy_at _ (ne 1 (by decide) (by decide)), e3, ups_at _ ne0, e2, ups_at _ ne0, e1, ups_at _ ne0]
  have v1 : ∀ k, 0 ≤ k → k < 8 → s9 (th + 1) k = T 8 k := fun k k0 k1 => by
    rw [at9 _ (by omega), clrS_at _ (by omega) (by omega) (by omega), fil_at _ (by omega), e4, cpy_in _ k0 k1, e3, ups_at _ (by omega), e2, ups_at _ (by omega), e1, ups_at _ (by omega), hx.2 8 (by decide) (by decide) (by decide)]
  have v2 : ∀ k, 0 ≤ k → k < 8 → s9 (th + 2) k = 0 := fun k k0 k1 => by
    rw [at9 _ (by omega), clrS_at _ (by omega) (by omega) (by omega), fil_in _ k0 k1]
  have v3 : ∀ k, 0 ≤ k → k < 8 → s9 (th + 3) k = -1 := fun k k0 k1 => by
    rw [at9 _ (by omega)]; unfold clrS; rw [fil_at _ (by omega), fil_at _ (by omega), fil_in _ k0 k1]
  have v4 : ∀ k, 0 ≤ k → k < 64 → s9 (th + 4) k = -1 := fun k k0 k1 => by
    rw [at9 _ (by omega)]; unfold clrS; rw [fil_at _ (by omega), fil_in _ k0 k1]
  have v5 : ∀ k, 0 ≤ k → k < 16 → s9 (th + 5) k = 0 := fun k k0 k1 => by
    rw [at9 _ (by omega)]; unfold clrS; rw [fil_in _ k0 k1]
  have tk : ∀ k, k < 9 → s9 th k = s3 th k := fun k hk => by
    rw [← hs, cntS_k _ hk, clrS_at _ (by omega) (by omega) (by omega), fil_at _ (by omega), e4, cpy_at _ (by omega)]
  have u0 : s9 th 0 = tw := by rw [tk 0 (by decide), e3, ups_k _ (by decide), e2, ups_k _ (by decide), e1, ups_eq]
  have u1 : s9 th 1 = 0 := by rw [tk 1 (by decide), e3, ups_k _ (by decide), e2, ups_eq]
  have u2 : s9 th 2 = 0 := by rw [tk 2 (by decide), e3, ups_eq]
  have u9 : s9 th 9 = 0 := by rw [← hs]; unfold cntS; rw [ups_k _ (by decide), ups_k _ (by decide), ups_k _ (by decide), ups_eq]
  have u10 : s9 th 10 = 0 := by rw [← hs]; unfold cntS; rw [ups_k _ (by decide), ups_k _ (by decide), ups_eq]
  have u11 : s9 th 11 = 0 := by rw [← hs]; unfold cntS; rw [ups_k _ (by decide), ups_eq]
  have u12 : s9 th 12 = 0 := by rw [← hs]; unfold cntS; rw [ups_eq]
  have e0 : vwW s9 th 0 = s9 th := by show s9 (th + 0) = _; rw [Int.add_zero]
  have hb : BEG T (vwW s9 th) := ⟨by rw [e0]; exact u1, by rw [e0]; exact u2, by rw [e0]; exact u9, fun k k0 k1 => ⟨v1 k k0 k1, v2 k k0 k1, v3 k k0 k1⟩, v4, v5⟩
  refine ⟨vwW s9 th, ⟨⟨ht', hw', u0, ?_, vwW_cw _ _, hT, (hb.ok hT).1⟩, u10, u11, u12⟩, hb, fr⟩
  exact hx.fr fr (fun o o1 o2 o3 => by omega)

/-- from behind its first store on -/
theorem Wb_begin {s1 : Sg} (h1 : gr g th ∧ tg th = 19) (h2 : gr g tw ∧ tg tw = 18) (e0 : s1 = ups s th 0 tw) : Wp g (e + 3) M_X11_begin (fun _ s' => s' = bgS s th tw) 5 [(19, th), (18, tw)] [] s1 := by
  have h : ∀ s2, s2 = ups s1 th 1 0 → (∀ s3, s3 = ups s2 th 2 0 → (∀ s4, s4 = cpy s3 (tw + 8) 0 (th + 1) 0 8 → (Mw g (e + 2) M_J7_fill_53178 [(33, (th + 2)), (0, 0)] s4 (fun _ s6 => (Mw g (e + 2) M_X11_clearWalls [(19, th)] s6 (fun _ s8 => (Mw g (e + 2) M_X11_clearCounts [(19, th)] s8 (fun _ s10 => s10 = bgS s th tw)))))))) :=
    fun s2 e2 s3 e3 s4 e4 => Mw.ex C_fill33 (Mw.ex C_clearWalls (Mw.ex C_clearCounts (by rw [e4, e3, e2, e0]; rfl)))
  refine r_aload_n dX11_begin_5 rfl rfl ?_
  refine r_iconst dX11_begin_6 (by decide) ?_
  refine pf_X11_38 rfl dX11_begin_7 ?_
  have h := h _ rfl
  generalize hs_s2 : ups s1 th 1 0 = s2 at h ⊢
  refine r_aload_n dX11_begin_10 rfl rfl ?_
  refine r_iconst dX11_begin_11 (by decide) ?_
  refine pf_X11_42 rfl dX11_begin_12 ?_
  have h := h _ rfl
  generalize hs_s3 : ups s2 th 2 0 = s3 at h ⊢
  refine r_aload_n dX11_begin_15 rfl rfl ?_
  refine gf_X11_45 rfl dX11_begin_16 ?_
  refine r_iconst dX11_begin_19 (by decide) ?_
  refine r_aload_n dX11_begin_20 rfl rfl ?_
  refine gf_X11_9 rfl dX11_begin_21 ?_
  refine r_iconst dX11_begin_24 (by decide) ?_
  refine r_bipush dX11_begin_25 (by decide) rfl ?_
  refine r_copy (n0 := 8) (n1 := 8) lm_X11_50 (Nat.le_of_ble_eq_true rfl) rfl (by decide) rfl (by decide) dX11_begin_27 (by decide) ?_
  have h := h _ rfl
  generalize hs_s4 : cpy s3 (tw + 8) 0 (th + 1) 0 8 = s4 at h ⊢
  refine r_aload_n dX11_begin_30 rfl rfl ?_
  refine gf_X11_15 rfl dX11_begin_31 ?_
  refine r_iconst dX11_begin_34 (by decide) ?_
  refine r_callS (As := [(33, (th + 2)), (0, 0)]) (st := []) ok_X11_56 rfl rfl (Nat.le_of_ble_eq_true rfl) dX11_begin_35 h (fun r5 s6 hv h => ?_)
  refine r_aload_n dX11_begin_38 rfl rfl ?_
  refine r_callV (ci := 9) (As := []) (st := []) (by decide) ok_X11_62 rfl rfl (Nat.le_of_ble_eq_true rfl) dX11_begin_39 h (fun r7 s8 hv h => ?_)
  refine r_aload_n dX11_begin_42 rfl rfl ?_
  refine r_callV (ci := 9) (As := []) (st := []) (by decide) ok_X11_65 rfl rfl (Nat.le_of_ble_eq_true rfl) dX11_begin_43 h (fun r9 s10 hv h => ?_)
  exact r_ret dX11_begin_46 rfl h

theorem Kz_begin {N : Nat} {U : Ut} {L : List Nat} {σ : Sg} (hG : Gf g) (hth : isW th) (htw : isT tw) (hN : th + 6 ≤ N ∧ th + 6 ≤ 141) (hU : ∀ o k, U o k = true → o < th) (hUT : ∀ o, tw ≤ o → o ≤ tw + 20 → ∀ k, U o k = false) (hL : ∀ k, k < 13 → 3 ≤ fkT 9 k → (0 :: L).contains k = true) :
    Kz g (zLs (bkW tw th)) (e + 3) M_X11_begin [(19, th), (18, tw)] N (zUn U th L) σ (fun _ s' => s' = bgS σ th tw) := by
  have hth2 := hth
  have htw2 := htw
  unfold isW at hth2
  unfold isT at htw2
  have hC : Cl (gR g (zLs (bkW tw th))) := clL g (by rcases hth2 with rfl | rfl <;> rcases htw2 with rfl | rfl <;> decide +kernel)
  have tg1 : tg th = 19 := by rcases hth2 with rfl | rfl <;> rfl
  have tg2 : tg tw = 18 := by rcases htw2 with rfl | rfl <;> rfl
  have R1 : ∀ o, zLs (bkW tw th) o → (tw ≤ o ∧ o ≤ tw + 20) ∨ (th ≤ o ∧ o ≤ th + 6) := fun o h => bkW_iff.mp h
  have Rn : ∀ o, zLs (bkW tw th) o → 1 ≤ o ∧ o ≤ N := fun o h => by have := R1 o h; omega
  have Rg : ∀ o, zLs (bkW tw th) o → gr g o := fun o h => hG o (Rn o h).1 (by have := R1 o h; omega)
  have m1 : zLs (bkW tw th) th := bkW_iff.mpr (by omega)
  have m2 : zLs (bkW tw th) tw := bkW_iff.mpr (by omega)
  have hU2 : ∀ o, zLs (bkW tw th) o → ∀ k, U o k = false := fun o h k => by
    rcases R1 o h with q | q
    · exact hUT o q.1 q.2 k
    · cases u : U o k with
      | false => rfl
      | true => exact absurd (hU o k u) (by omega)
  unfold Kz
  refine va_MetF (cc := M_X11_begin.2.1) (maxL := M_X11_begin.2.2.1) (ret := M_X11_begin.2.2.2) pn_X11_begin rfl ?_
  intro p e' s m a below meth c s₁ B hml hP
  obtain ⟨rfl, hB, hK, hX⟩ := hP
  have hts := atoms_spec (ws := wsM M_X11_begin) B.pre
  have hts2 : ∀ w ∈ lwG, w.before _ s = true := fun w hw => hts w (List.mem_cons_of_mem _ hw)
  have hown := findClass_of_methodNamed B.named
  have hXR : Sx (gR g (zLs (bkW tw th))) s s.heap := hX.dn Rg
  have hcx : Cx (gR g (zLs (bkW tw th))) M_X11_begin p s m ([(19, th), (18, tw)].map (conc g)).toArray meth c := ⟨B.exec, B.bytes, hml, hown, hts2, B.returns, B.notSynchronized, hK, hXR, hC⟩
  rw [lg_entry_eq]
  have hL0 := LH.ent (g := g) (as := [(19, th), (18, tw)]) (ls := [(19, th), (18, tw)]) (n := 2) (Nat.le_of_ble_eq_true rfl) rfl
  generalize ((lg_sl ([(19, th), (18, tw)].map (conc g)) ++ List.replicate (2 - (lg_sl ([(19, th), (18, tw)].map (conc g))).length) Slot.unset).toArray) = lsA at hL0 ⊢
  have l0 : lsA[0]? = some (.val (.ref (adr g th))) := hL0.2.2 0 19 th rfl (by decide)
  have l1 : lsA[1]? = some (.val (.ref (adr g tw))) := hL0.2.2 1 18 tw rfl (by decide)
  refine lv_aload_n (k := 0) B.exec B.bytes dX11_begin_0 rfl l0 ?_
  refine lv_aload_n (k := 1) B.exec B.bytes dX11_begin_1 rfl l1 ?_
  have ob := hB.1
  refine k_put (ci := 9) (k := 0) (index := 34) (o := th) (A := gAd (gR g (zLs (bkW tw th)))) (own := RX11) (g := g) (by decide) (by decide) B.exec B.bytes hts2 hown hK hB.1 va_S.rf ⟨by omega, by omega⟩ tg1 ⟨th, m1, rfl⟩ lk_X11_34 rfl rfl rfl dX11_begin_2 (fun H1 locs1 hB1 hS1 => ?_)
  have hB2 : B2 g N (ups σ th 0 tw) (zUn U th (0 :: L)) H1 := B2.set (ci := 9) (k := 0) (v := tw) (by rw [conc_o (by decide)]; exact hB1) hB.2 ⟨by omega, by omega⟩ tg1 (by decide) (fun k2 => (if e : k2 = 0 then by subst e; rw [if_pos rfl]; exact ups_eq σ th 0 tw else by rw [if_neg e]; exact ups_k _ (by omega))) (fun off q => by cases q) (fun _ => ⟨⟨by omega, by omega⟩, tg2⟩) zS_up.2
  have hB3 : B2 g N (ups σ th 0 tw) U H1 := hB2.done (ci := 9) hU tg1 hL
  have hRp : Rp (gR g (zLs (bkW tw th))) (ups σ th 0 tw) H1 := hB3.rp Rn hU2 (obL (ex := [(th, 0)]) (by rcases hth2 with rfl | rfl <;> rcases htw2 with rfl | rfl <;> decide +kernel) (fun q hq => by
    rw [List.mem_singleton.mp hq]
    show ups σ th 0 tw th (0 : Nat) ∈ _
    rw [show ((0 : Nat) : Int) = 0 by rfl, ups_eq]
    exact m2))
  have w := Wb_begin (g := gR g (zLs (bkW tw th))) (e := e) (s := σ) (th := th) (tw := tw) ⟨m1, tg1⟩ ⟨m2, tg2⟩ rfl
  exact w p e' s m _ below meth c H1 locs1 lsA hcx hS1 hRp hL0 (fun x hx => by
    simp only [List.mem_cons, List.not_mem_nil, or_false] at hx
    rcases hx with rfl | rfl
    · exact vld_of (by decide) ⟨m1, tg1⟩
    · exact vld_of (by decide) ⟨m2, tg2⟩) (fun x hx => by cases hx)
end BEGW
