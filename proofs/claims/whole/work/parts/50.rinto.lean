/-! the reference: goesInto, isBuilt -/
section RINTO2
variable {g : GT} {e : Nat} {s : Sg} {v b : Int} {T : Tn} {A : Wd} {K : Prop}
theorem lie_c (hW : WOK T A) {q : Int} (q0 : 0 ≤ q) (q1 : q < 64) : A 4 q = -1 ∨ (0 ≤ A 4 q ∧ A 4 q < T 1 1) := by
  rcases hW.2.1.2 q q0 q1 with z | ⟨z1, z2, z3⟩
  · left; exact z
  · right; exact ⟨z1, (hW.2.2.2 _ z1 z2 (by rw [z3]; omega)).1⟩
theorem left_c (hW : WOK T A) {q : Int} (q0 : 0 ≤ q) (q1 : q < 64) : leftS A q = -1 ∨ (0 ≤ leftS A q ∧ leftS A q < T 1 1) := by
  unfold leftS
  split
  · left; rfl
  · exact lie_c hW (by omega) (by omega)
theorem rite_c (hW : WOK T A) {q : Int} (q0 : 0 ≤ q) (q1 : q < 64) : riteS A q = -1 ∨ (0 ≤ riteS A q ∧ riteS A q < T 1 1) := by
  unfold riteS
  split
  · left; rfl
  · exact lie_c hW (by omega) (by omega)
theorem und_c (hW : WOK T A) {q : Int} (q0 : 0 ≤ q) (q1 : q < 64) : undS A q = -1 ∨ (0 ≤ undS A q ∧ undS A q < T 1 1) := by
  unfold undS
  split
  · left; rfl
  · exact lie_c hW (by omega) (by omega)
abbrev PI (K : Prop) (s : Sg) (v b : Int) (T : Tn) (A : Wd) (c w : Int) : Int → Sg → Prop := fun r s' => r = (if tryS T A c w then 1 else 0) ∧ RZ K s' v b T (if tryS T A c w then putA A c (freS T A w) else A) ∧ Fm v s s'
theorem into_no {c w : Int} (h : RZ K s v b T A) (ht : tryS T A c w = false) (s0 : Sg) (hf : Fr Jm s s0) : PI K s v b T A c w 0 s0 := by
  refine ⟨by rw [ht]; rfl, ?_, Fm.jm hf⟩
  rw [ht, if_neg (by decide)]
  refine ⟨h.1.jm hf, fun k => ?_⟩
  have hr := h.2 k
  unfold RK at hr ⊢
  rw [hf 129 (by unfold Jm; omega), hf 130 (by unfold Jm; omega)]
  exact hr
theorem into_loop {c w : Int} (h : RZ K s v b T A) (hW : WOK T A) (c0 : 0 ≤ c) (c1 : c < T 1 1) (h3 : A 3 c = -1) (hd : T 0 15 ≤ ageS T A c) (w0 : 0 ≤ w) (w1 : w < T 1 2) :
    ∀ (n : Nat) (j k : Int), 0 ≤ j → j < k → k + n = T 11 w → besF A n (4 * w + j) (4 * w + k) = besS T A w → P_X13_goesInto_6 g (e + 5) (PI K s v b T A c w) s v c w j k := by
  have hT := h.1.ok
  have b8 := hT.2.1
  have b4 := hT.2.2.1
  have hb := h.1.b2
  have hv := h.1.2.1
  have bw := hT.2.2.2.2.2.2.2.1 w w0 w1
  have rw' := h.1.rt.2.2.2.1 w w0 w1
  intro n
  induction n with
  | zero =>
    intro j k j0 jk hk hbes
    have ebes : besS T A w = 4 * w + j := hbes.symm
    refine S_X13_goesInto_6 ?_
    rw [h.1.bk, w32_of (show _ ≤ 4 * b by omega) (by omega), w32_of (show _ ≤ 4 * b + w by omega) (by omega), rw'.1]
    refine ⟨⟨by omega, by omega⟩, fun _ => Mw.ex (R_tall h.1 hW w0 (by omega) j0 (by omega)) ?_, fun q => absurd (by omega) q⟩
    rw [h.1.bk, w32_of (show _ ≤ 4 * b by omega) (by omega), w32_of (show _ ≤ 4 * b + w by omega) (by omega), rw'.2]
    have hh := hW.2.2.1 (4 * w + j) (by omega) (by omega)
    have hle := height_le hW hT (q := 4 * w + j) (by omega) (by omega)
    rw [show (4 * w + j) / 4 = w by omega] at hle
    refine ⟨⟨by omega, by omega⟩, fun q => ?_, fun q => into_no h ?_ s Fr.rf⟩
    rotate_left
    · have : freS T A w = -1 := by unfold freS; rw [ebes, if_pos (by omega)]
      unfold tryS; simp [this]
    have ef : freS T A w = 16 * w + 4 * j + A 5 (4 * w + j) := by
      unfold freS
      rw [ebes, if_neg (by omega)]
      omega
    have hf : freS T A w ≠ -1 := by omega
    obtain ⟨f1, f2, f3, f4, f5, f6⟩ := freS_ok hT hW.2.2 w0 w1 hf
    generalize hp : freS T A w = p at *
    have ej : p / 4 % 4 = j := by omega
    have er : p % 4 = A 5 (4 * w + j) := by omega
    have el : liS A w (w32 (j - 1)) (A 5 (4 * w + j)) = leftS A p := by
      rw [w32_of (by omega) (by omega)]
      unfold liS leftS
      by_cases z : j = 0
      · rw [if_neg (by omega), if_pos (by omega)]
      · rw [if_pos (by omega), if_neg (by omega), show 16 * w + 4 * (j - 1) + A 5 (4 * w + j) = p - 4 by omega]
    have eri : liS A w (w32 (j + 1)) (A 5 (4 * w + j)) = riteS A p := by
      rw [w32_of (by omega) (by omega)]
      unfold liS riteS
      by_cases z : j = 3
      · rw [if_neg (by omega), if_pos (by omega)]
      · rw [if_pos (by omega), if_neg (by omega), show 16 * w + 4 * (j + 1) + A 5 (4 * w + j) = p + 4 by omega]
    have eu : liS A w j (w32 (A 5 (4 * w + j) - 1)) = undS A p := by
      rw [w32_of (by omega) (by omega)]
      unfold liS undS
      by_cases z : A 5 (4 * w + j) = 0
      · rw [if_neg (by omega), if_pos (by omega)]
      · rw [if_pos (by omega), if_neg (by omega), show 16 * w + 4 * j + (A 5 (4 * w + j) - 1) = p - 1 by omega]
    have hl := left_c hW f1.1 f1.2
    have hr := rite_c hW f1.1 f1.2
    have hu := und_c hW f1.1 f1.2
    have fb := foeS_bd (en := A 0 2) h.1.1 c0 (show c < 8 by omega)
    have pi := pea_iff (T := T) (A := A) (c := c) (p := p) fb (by omega) (by omega)
    refine Mw.ex (R_lies h.1 hW w0 (by omega)) ?_
    rw [el]
    refine Mw.ex (R_isFeud h.1 hW.1 c0 (by omega) (by omega)) ⟨fun q1 => into_no h ?_ s Fr.rf, fun q1 => Mw.ex (R_lies h.1 hW w0 (by omega)) ?_⟩
    · have : peaS T A c p = false := by
        apply Bool.eq_false_iff.mpr
        intro z
        apply q1
        rw [if_neg (pi.mp z).1]
      unfold tryS; rw [hp]; simp [this]
    rw [eri]
    refine Mw.ex (R_isFeud h.1 hW.1 c0 (by omega) (by omega)) ⟨fun q2 => ?_, fun q2 => into_no h ?_ s Fr.rf⟩
    rotate_left
    · have : peaS T A c p = false := by
        apply Bool.eq_false_iff.mpr
        intro z
        apply q2
        rw [if_neg (pi.mp z).2]
      unfold tryS; rw [hp]; simp [this]
    have hpea : peaS T A c p = true := pi.mpr ⟨fun z => by rw [if_pos z] at q1; omega, fun z => by rw [if_pos z] at q2; omega⟩
    have rf := h.1.rt.2.2.2.2.2.2.2
    have fin : mayS T A c p = true → ∀ s0 : Sg, Fr Jm s s0 → P_X13_goesInto_255 g (e + 5) (PI K s v b T A c w) s0 v c w j (A 5 (4 * w + j)) := by
      intro hm s0 hf0
      have := into_end (g := g) (e := e) h hW c0 c1 h3 hd w0 w1 (by rw [hp]; exact hf) (by rw [hp]; exact hpea) (by rw [hp]; exact hm) s0 hf0
      rw [show freS T A w / 4 % 4 = j by rw [hp]; exact ej, show freS T A w % 4 = A 5 (4 * w + j) by rw [hp]; exact er] at this
      exact this
    refine Mw.ex (R_isTold h.1.1 (Or.inr rfl) rf) ⟨fun q3 => fin ?_ s Fr.rf, fun q3 => ?_⟩
    · have hz : T 17 2 = 0 := Classical.byContradiction (fun z => by rw [if_neg z] at q3; omega)
      unfold mayS; simp [hz]
    have hz : T 17 2 ≠ 0 := fun z => by rw [if_pos z] at q3; omega
    refine Mw.ex (R_lies h.1 hW w0 (by omega)) ?_
    have hc := hW.1.2.2.2.1 c c0 (show c < 8 by omega)
    have hhome := hW.1.2.2.2.2 c c0 c1
    rw [eu, w32_of (show _ ≤ 8 * v by omega) (by omega), w32_of (show _ ≤ 8 * v + c by omega) (by omega), (h.1.c c0 c1).1]
    refine ⟨⟨by omega, by omega⟩, Mw.ex (R_age h.1 hW.1 c0 c1) (Mw.ex (R_strong h.1 c0 c1) ⟨⟨hv.1, hv.2⟩, ?_⟩)⟩
    rw [h.1.2.2.1]
    refine (R_tells h.1.1 hc.1.1 hhome).imp (fun _ s20 h20 s21 e21 => ?_)
    generalize hF8 : facS T (A 1 c) (ageS T A c) (A 2 c) (A 0 1) (p % 4) (stgS A (leftS A p)) (stgS A (undS A p)) = F8
    have f21 : Fr (fun o => o = 132) s s21 := by rw [e21]; exact h20.2.tr (Fr.up rfl)
    have v21 : ∀ i, 0 ≤ i → i < 6 → s21 132 (i + 1) = F8 i := fun i i0 i1 => by
      rw [e21]
      by_cases z : i = 5
      · rw [z, show (5 : Int) + 1 = 6 from rfl, ups_eq, ← hF8, ← er]; rfl
      · rw [ups_k _ (by omega), h20.1 i i0 (by omega), ← hF8]
        unfold facS
        rcases (show i = 0 ∨ i = 1 ∨ i = 2 ∨ i = 3 ∨ i = 4 by omega) with y | y | y | y | y <;> rw [y] <;> rfl
    have ha : -99 ≤ ageS T A c ∧ ageS T A c ≤ 1000 := by
      have b1 := hW.1.1
      have b2 := (hT.2.2.2.2.2.1 c c0 (by omega)).2.1
      unfold ageS
      omega
    have hst : ∀ x, (x = -1 ∨ (0 ≤ x ∧ x < T 1 1)) → 0 ≤ stgS A x ∧ stgS A x ≤ 999 := by
      intro x hx
      unfold stgS
      split
      · omega
      · exact (hW.1.2.2.2.1 x (by omega) (by omega)).2
    have hbd : Fbd F8 28 := by
      rw [← hF8]
      exact facS_bd hT hc.1.1 hc.1.2 ha hc.2 ⟨hW.1.1.1, by have := hW.1.1.2; omega⟩ (by omega) (hst _ hl) (hst _ hu)
    have h242 : ∀ s1 : Sg, Fr (fun o => o = 132) s s1 → (∀ i, 0 ≤ i → i < 7 → s1 132 (i + 1) = F8 i) → ∀ x2, x2 = stgS A (undS A p) → P_X13_goesInto_242 g (e + 5) (PI K s v b T A c w) s1 v c w j (A 5 (4 * w + j)) x2 := by
      intro s1 hf1 hv1 x2 hx2
      refine S_X13_goesInto_242 (fun s2 e2 => ?_)
      have f2' : Fr (fun o => o = 132) s s2 := by rw [e2]; exact hf1.tr (Fr.up rfl)
      have x2' := h.1.1.jm (f2'.wk (fun o ho => Or.inr ho))
      have wf := h.1.tf.2
      refine (R_reckons (F := F8) x2'.1 wf (by decide) hbd (by have := wf.1; omega) x2'.2.1 (Or.inr rfl) x2'.2.2.1.2.2.2.2.2.2.2 (fun i i0 i1 => ?_)).imp (fun r s3 h3' => ?_)
      · rw [e2]
        by_cases z : i = 7
        · rw [z, show (7 : Int) + 1 = 8 from rfl, ups_eq, hx2, ← hF8]; rfl
        · rw [ups_k _ (by omega)]; exact hv1 i i0 (by omega)
      · have f3' : Fr Jm s s3 := (f2'.wk (fun o ho => Or.inr ho)).tr (h3'.2.wk (fun o ho => Or.inl ho))
        rw [lCmp_z]
        refine ⟨fun z => fin ?_ s3 f3', fun z => into_no h ?_ s3 f3'⟩
        · unfold mayS
          rw [hF8, ← h3'.1]
          simp [z]
        · have : mayS T A c p = false := by
            unfold mayS
            rw [hF8, ← h3'.1]
            simp [z, hz]
          unfold tryS; rw [hp]; simp [this]
    have h218 : ∀ s1 : Sg, Fr (fun o => o = 132) s s1 → (∀ i, 0 ≤ i → i < 6 → s1 132 (i + 1) = F8 i) → ∀ x2, x2 = stgS A (leftS A p) → P_X13_goesInto_218 g (e + 5) (PI K s v b T A c w) s1 v c w j (A 5 (4 * w + j)) (undS A p) x2 := by
      intro s1 hf1 hv1 x2 hx2
      refine S_X13_goesInto_218 (fun s2 e2 => ?_)
      have f2' : Fr (fun o => o = 132) s s2 := by rw [e2]; exact hf1.tr (Fr.up rfl)
      have x2' := h.1.jm (f2'.wk (fun o ho => Or.inr ho))
      have v2' : ∀ i, 0 ≤ i → i < 7 → s2 132 (i + 1) = F8 i := fun i i0 i1 => by
        rw [e2]
        by_cases z : i = 6
        · rw [z, show (6 : Int) + 1 = 7 from rfl, ups_eq, hx2, ← hF8]; rfl
        · rw [ups_k _ (by omega)]; exact hv1 i i0 (by omega)
      refine ⟨fun z => Mw.ex (R_strong x2' (by omega) (by omega)) (h242 s2 f2' v2' _ ?_), fun z => h242 s2 f2' v2' _ ?_⟩
      · unfold stgS; rw [if_neg z]
      · unfold stgS; rw [if_pos z]
    have x21 := h.1.jm (f21.wk (fun o ho => Or.inr ho))
    refine ⟨fun z => Mw.ex (R_strong x21 (by omega) (by omega)) (h218 s21 f21 v21 _ ?_), fun z => h218 s21 f21 v21 _ ?_⟩
    · unfold stgS; rw [if_neg z]
    · unfold stgS; rw [if_pos z]
  | succ n ih =>
    intro j k j0 jk hk hbes
    refine S_X13_goesInto_6 ?_
    rw [h.1.bk, w32_of (show _ ≤ 4 * b by omega) (by omega), w32_of (show _ ≤ 4 * b + w by omega) (by omega), rw'.1, w32_of (show _ ≤ k + 1 by omega) (by omega)]
    unfold besF at hbes
    refine ⟨⟨by omega, by omega⟩, fun q => by omega, fun _ => Mw.ex (R_tall h.1 hW w0 (by omega) (by omega) (by omega)) (Mw.ex (R_tall h.1 hW w0 (by omega) j0 (by omega)) ⟨fun q => ih j (k + 1) j0 (by omega) (by omega) ?_, fun q => ih k (k + 1) (by omega) (by omega) (by omega) ?_⟩)⟩
    · rw [if_pos q] at hbes
      rw [show 4 * w + (k + 1) = 4 * w + k + 1 by omega]
      exact hbes
    · rw [if_neg q] at hbes
      rw [show 4 * w + (k + 1) = 4 * w + k + 1 by omega]
      exact hbes
theorem R_goesInto {c w : Int} (h : RZ K s v b T A) (hW : WOK T A) (c0 : 0 ≤ c) (c1 : c < T 1 1) (h3 : A 3 c = -1) (hd : T 0 15 ≤ ageS T A c) (w0 : 0 ≤ w) (w1 : w < T 1 2) : Mw g (e + 6) M_X13_goesInto [(21, 92), (0, v), (0, c), (0, w)] s (PI K s v b T A c w) := by
  have bw := h.1.ok.2.2.2.2.2.2.2.1 w w0 w1
  refine S_X13_goesInto (fun _ _ _ => into_loop h hW c0 c1 h3 hd w0 w1 (T 11 w - 1).toNat 0 1 (by decide) (by decide) (by omega) ?_)
  unfold besS
  rw [Int.add_zero]
theorem built_loop {c : Int} (h : RZ K s v b T A) (hW : WOK T A) (c0 : 0 ≤ c) (c1 : c < T 1 1) (h3 : A 3 c = -1) (hd : T 0 15 ≤ ageS T A c) :
    ∀ (n : Nat) (w : Int) (s0 : Sg), 0 ≤ w → w + n = T 1 2 → RZ K s0 v b T A → Fm v s s0 → scanF n w (tryS T A c) = bldW T A c → P_X13_isBuilt_2 g (e + 6) (fun r s' => r = (if bldW T A c = -1 then 0 else 1) ∧ RZ K s' v b T (bldA T A c) ∧ Fm v s s') s0 v c w := by
  have hT := h.1.ok
  have b8 := hT.2.1
  have b4 := hT.2.2.1
  have hv := h.1.2.1
  intro n
  induction n with
  | zero =>
    intro w s0 w0 hw h0 hf hs
    have hb := h0.1.b2
    refine S_X13_isBuilt_2 ?_
    rw [h0.1.bk, h0.1.nw]
    have e1 : bldW T A c = -1 := hs.symm
    refine ⟨⟨by omega, by omega⟩, fun _ => ⟨by rw [if_pos e1], ?_, hf⟩, fun q => absurd (by omega) q⟩
    unfold bldA
    rw [if_pos e1]
    exact h0
  | succ n ih =>
    intro w s0 w0 hw h0 hf hs
    have hb := h0.1.b2
    refine S_X13_isBuilt_2 ?_
    rw [h0.1.bk, h0.1.nw, w32_of (show _ ≤ w + 1 by omega) (by omega)]
    unfold scanF at hs
    refine ⟨⟨by omega, by omega⟩, fun q => by omega, fun _ => (R_goesInto h0 hW c0 c1 h3 hd w0 (by omega)).imp (fun r1 s2 h2 => ⟨fun q => ?_, fun q => ?_⟩)⟩
    · have ht : tryS T A c w = true := by
        cases z : tryS T A c w
        · rw [h2.1, z] at q; simp at q
        · rfl
      rw [ht, if_pos rfl] at hs
      have hz := h2.2.1
      rw [ht, if_pos rfl] at hz
      have hy := hW.1.1
      refine (R_writesDown hv.1 hv.2 hz.1.2.2.2.2.1 (by rw [hz.1.2.2.1, putA_0]; exact hy) ⟨c0, by omega⟩ ⟨w0, by omega⟩ ⟨by decide, by decide⟩).imp (fun _ s4 h4 => ?_)
      obtain ⟨w1, w2, w3, w4⟩ := h4
      refine ⟨by rw [if_neg (by omega)], ?_, (hf.tr h2.2.2).tr w1⟩
      unfold bldA
      rw [if_neg (by omega), ← hs]
      refine ⟨⟨hz.1.1.fv w1, hv, ?_⟩, fun k => ?_⟩
      · have hk : RW s4 v T (putA A c (freS T A w)) := by
          refine ⟨?_, ?_, w3, fun d d0 d1 => ?_⟩
          · rw [w2 122 (by decide) (by decide)]; exact hz.1.2.2.1
          · rw [w2 123 (by decide) (by decide)]; exact hz.1.2.2.2.1
          · rw [w2 124 (by decide) (by decide), w2 125 (by decide) (by decide), w2 126 (by decide) (by decide), w2 127 (by decide) (by decide), w2 128 (by decide) (by decide)]
            exact hz.1.c d0 d1
        exact hk.eq (keepA_01 _ _ _ _ (by decide)) (keepA_01 _ _ _ _ (by decide)) (fun d d0 d1 => ⟨by rw [keepA_at _ _ _ _ (by decide) (by decide)], by rw [keepA_at _ _ _ _ (by decide) (by decide)], by rw [keepA_at _ _ _ _ (by decide) (by decide)]⟩)
      · exact w4 _ (by rw [hz.1.2.2.1]) (hz.2 k)
    · have ht : tryS T A c w = false := by
        cases z : tryS T A c w
        · rfl
        · rw [h2.1, z] at q; simp at q
      rw [ht] at hs
      have hz := h2.2.1
      rw [ht, if_neg (by decide)] at hz
      exact ih (w + 1) s2 (by omega) (by omega) hz (hf.tr h2.2.2) hs
theorem R_isBuilt {c : Int} (h : RZ K s v b T A) (hW : WOK T A) (c0 : 0 ≤ c) (c1 : c < T 1 1) (h3 : A 3 c = -1) (hd : T 0 15 ≤ ageS T A c) : Mw g (e + 7) M_X13_isBuilt [(21, 92), (0, v), (0, c)] s (fun r s' => r = (if bldW T A c = -1 then 0 else 1) ∧ RZ K s' v b T (bldA T A c) ∧ Fm v s s') := by
  have b4 := h.1.ok.2.2.1
  exact S_X13_isBuilt (fun _ _ => built_loop h hW c0 c1 h3 hd (T 1 2).toNat 0 s (by decide) (by omega) h Fm.rf rfl)
end RINTO2
