/-! a statement: what it makes of a town stays a town -/
def zLn (t : Tp) (T : Tn) (st : Int × Int) : Int × Int :=
  if wdT t st.2 = 0 then l2S t T 0 6 1 2 0 9 st else if wdT t st.2 = 3 then chS2 t T st else if wdT t st.2 = 6 then p2S t T (twS T) (zTwB T) (avS t st) else
  if wdT t st.2 = 7 then p2S t T 0 (zFeB T) (avS t (zLim (T 0 13) 10 st)) else if wdT t st.2 = 8 then l2S t T 2 4 9 10 1 4 st else if wdT t st.2 = 11 then foS t T 14 0 st else
  if wdT t st.2 = 12 then foS t T 17 1 st else if wdT t st.2 = 13 then raS t st else if wdT t st.2 = 15 then zNum t 0 99 (avS t st) else if wdT t st.2 = 16 then zNum t 0 100 (avS t st) else
  if wdT t st.2 = 17 then zNum t 0 99 (avS t st) else (1, st.2)
def zLnR (t : Tp) (T : Tn) (st : Int × Int) (T2 : Tn) : Prop :=
  if wdT t st.2 = 0 then T2 = l2T t T 0 6 1 2 0 9 6 7 st else if wdT t st.2 = 3 then T2 = chT2 t T st else if wdT t st.2 = 6 then T2 = twP T (o1S t T (twS T) (avS t st)) (o2S t T (twS T) (zTwB T) (avS t st)) else
  if wdT t st.2 = 7 then T2 = feP T (o1S t T 0 (avS t (zLim (T 0 13) 10 st))) (o2S t T 0 (zFeB T) (avS t (zLim (T 0 13) 10 st))) else if wdT t st.2 = 8 then T2 = l2T t T 2 4 9 10 1 4 11 12 st else if wdT t st.2 = 11 then fRel T 14 (foN t T 14 0 st) T2 else
  if wdT t st.2 = 12 then fRel T 17 (foN t T 17 1 st) T2 else if wdT t st.2 = 13 then T2 = raT t T st else if wdT t st.2 = 15 then T2 = ups T 0 16 (vlT t (avS t st).2) else if wdT t st.2 = 16 then T2 = ups T 0 17 (vlT t (avS t st).2) else
  if wdT t st.2 = 17 then T2 = ups T 0 18 (vlT t (avS t st).2) else False
section ZOK
variable {t : Tp} {T T2 : Tn} {st : Int × Int}
theorem zAdd_1 {k x j : Int} (k0 : 0 ≤ k) : zAdd T k x 1 j = if j = k then T 1 k + 1 else T 1 j := by
  unfold zAdd
  by_cases z : j = k
  · rw [if_pos z, z, ups_eq]
  · rw [if_neg z, ups_k _ z, ups_at _ (by omega)]
theorem zAdd_o {k x a : Int} (h1 : a ≠ 1) (h2 : a ≠ 3 + k) : zAdd T k x a = T a := by unfold zAdd; rw [ups_at _ h1, ups_at _ h2]
theorem ups_if {a i v j : Int} : ups T a i v a j = if j = i then v else T a j := by
  by_cases z : j = i
  · rw [if_pos z, z, ups_eq]
  · rw [if_neg z, ups_k _ z]
theorem ok_0 {i v : Int} (h : TOK T) (h14 : 1 ≤ ups T 0 i v 0 14 ∧ ups T 0 i v 0 14 < ups T 0 i v 0 15 ∧ ups T 0 i v 0 15 ≤ 30) (h16 : 0 ≤ ups T 0 i v 0 16 ∧ ups T 0 i v 0 16 ≤ 99) (h17 : 0 ≤ ups T 0 i v 0 17 ∧ ups T 0 i v 0 17 ≤ 100) (h18 : 0 ≤ ups T 0 i v 0 18 ∧ ups T 0 i v 0 18 ≤ 99) (hi : i ≠ 13) : TOK (ups T 0 i v) := by
  unfold TOK at h ⊢
  rw [ups_at (o2 := 1) _ (by decide), ups_at (o2 := 6) _ (by decide), ups_at (o2 := 7) _ (by decide), ups_at (o2 := 8) _ (by decide), ups_at (o2 := 9) _ (by decide), ups_at (o2 := 10) _ (by decide), ups_at (o2 := 11) _ (by decide), ups_at (o2 := 12) _ (by decide), ups_at (o2 := 13) _ (by decide), ups_k (k2 := 13) _ (by omega)]
  exact ⟨h.1, h.2.1, h.2.2.1, h.2.2.2.1, h.2.2.2.2.1, h.2.2.2.2.2.1, h.2.2.2.2.2.2.1, h.2.2.2.2.2.2.2.1, h.2.2.2.2.2.2.2.2.1, h14, h16, h17, h18⟩
theorem tf_o (h : TF T) (e1 : T2 14 = T 14) (e2 : T2 15 = T 15) (e3 : T2 17 = T 17) (e4 : T2 18 = T 18) : TF T2 := by unfold TF; rw [e1, e2, e3, e4]; exact h
theorem ok_set {m f : Int} (hT : TOK T) (hf : (f = 16 ∧ m = 99) ∨ (f = 17 ∧ m = 100) ∨ (f = 18 ∧ m = 99)) {v : Int} (hv : 0 ≤ v ∧ v ≤ m) : TOK (ups T 0 f v) := by
  have q := hT.2.2.2.2.2.2.2.2.2
  refine ok_0 hT ?_ ?_ ?_ ?_ (by omega)
  · rw [ups_k _ (by omega), ups_k _ (by omega)]; exact q.1
  · rw [ups_if]; split
    · omega
    · exact q.2.1
  · rw [ups_if]; split
    · omega
    · exact q.2.2.1
  · rw [ups_if]; split
    · omega
    · exact q.2.2.2
theorem ok_ra {a b : Int} (hT : TOK T) (ha : 1 ≤ a ∧ a < b ∧ b ≤ 30) : TOK (ups (ups T 0 14 a) 0 15 b) := by
  have q := hT.2.2.2.2.2.2.2.2.2
  have hT' := hT
  unfold TOK at hT' ⊢
  have e0 : ∀ k, k ≠ 14 → k ≠ 15 → ups (ups T 0 14 a) 0 15 b 0 k = T 0 k := fun k k1 k2 => by rw [ups_k _ k2, ups_k _ k1]
  have eo : ∀ o, o ≠ 0 → ups (ups T 0 14 a) 0 15 b o = T o := fun o h => by rw [ups_at _ h, ups_at _ h]
  rw [eo 1 (by decide), eo 6 (by decide), eo 7 (by decide), eo 8 (by decide), eo 9 (by decide), eo 10 (by decide), eo 11 (by decide), eo 12 (by decide), eo 13 (by decide), e0 13 (by decide) (by decide), e0 16 (by decide) (by decide), e0 17 (by decide) (by decide), e0 18 (by decide) (by decide), ups_eq, ups_k _ (by decide), ups_eq]
  exact ⟨hT'.1, hT'.2.1, hT'.2.2.1, hT'.2.2.2.1, hT'.2.2.2.2.1, hT'.2.2.2.2.2.1, hT'.2.2.2.2.2.2.1, hT'.2.2.2.2.2.2.2.1, hT'.2.2.2.2.2.2.2.2.1, ha, q.2⟩
theorem ok_home {v1 v2 x : Int} (hT : TOK T) (h6 : T 1 0 < 6) (h1 : 0 ≤ v1 ∧ v1 ≤ 9) (h2 : 0 ≤ v2 ∧ v2 ≤ 9) : TOK (zAdd (ups (ups T 6 (T 1 0) v1) 7 (T 1 0) v2) 0 x) := by
  obtain ⟨t1, t2, t3, t4, t5, t6, t7, t8, t9, t10⟩ := hT
  have eo : ∀ o, o ≠ 1 → o ≠ 3 → o ≠ 6 → o ≠ 7 → zAdd (ups (ups T 6 (T 1 0) v1) 7 (T 1 0) v2) 0 x o = T o := fun o a b c d => by rw [zAdd_o a b, ups_at _ d, ups_at _ c]
  have e1 : ∀ j, zAdd (ups (ups T 6 (T 1 0) v1) 7 (T 1 0) v2) 0 x 1 j = if j = 0 then T 1 0 + 1 else T 1 j := fun j => by rw [zAdd_1 (by decide), ups_at _ (by decide), ups_at _ (by decide)]
  have e6 : ∀ j, zAdd (ups (ups T 6 (T 1 0) v1) 7 (T 1 0) v2) 0 x 6 j = if j = T 1 0 then v1 else T 6 j := fun j => by rw [zAdd_o (by decide) (by decide), ups_at _ (by decide), ups_if]
  have e7 : ∀ j, zAdd (ups (ups T 6 (T 1 0) v1) 7 (T 1 0) v2) 0 x 7 j = if j = T 1 0 then v2 else T 7 j := fun j => by rw [zAdd_o (by decide) (by decide), ups_if, ups_at _ (by decide)]
  unfold TOK
  rw [eo 0 (by decide) (by decide) (by decide) (by decide), eo 8 (by decide) (by decide) (by decide) (by decide), eo 9 (by decide) (by decide) (by decide) (by decide), eo 10 (by decide) (by decide) (by decide) (by decide), eo 11 (by decide) (by decide) (by decide) (by decide), eo 12 (by decide) (by decide) (by decide) (by decide), eo 13 (by decide) (by decide) (by decide) (by decide), e1 0, e1 1, e1 2, if_pos rfl, if_neg (by decide), if_neg (by decide)]
  refine ⟨by omega, t2, t3, t4, fun h h0 h1' => ?_, t6, fun c c0 c1 => by have := t7 c c0 c1; omega, t8, t9, t10⟩
  rw [e6, e7]
  have := t5 h h0 h1'
  by_cases z : h = T 1 0
  · rw [if_pos z, if_pos z]; exact ⟨h1, h2⟩
  · rw [if_neg z, if_neg z]; exact this
theorem ok_wall {v1 v2 x : Int} (hT : TOK T) (h6 : T 1 2 < 4) (h1 : 1 ≤ v1 ∧ v1 ≤ 4) (h2 : 1 ≤ v2 ∧ v2 ≤ 4) : TOK (zAdd (ups (ups T 11 (T 1 2) v1) 12 (T 1 2) v2) 2 x) := by
  obtain ⟨t1, t2, t3, t4, t5, t6, t7, t8, t9, t10⟩ := hT
  have eo : ∀ o, o ≠ 1 → o ≠ 5 → o ≠ 11 → o ≠ 12 → zAdd (ups (ups T 11 (T 1 2) v1) 12 (T 1 2) v2) 2 x o = T o := fun o a b c d => by rw [zAdd_o a b, ups_at _ d, ups_at _ c]
  have e1 : ∀ j, zAdd (ups (ups T 11 (T 1 2) v1) 12 (T 1 2) v2) 2 x 1 j = if j = 2 then T 1 2 + 1 else T 1 j := fun j => by rw [zAdd_1 (by decide), ups_at _ (by decide), ups_at _ (by decide)]
  have e6 : ∀ j, zAdd (ups (ups T 11 (T 1 2) v1) 12 (T 1 2) v2) 2 x 11 j = if j = T 1 2 then v1 else T 11 j := fun j => by rw [zAdd_o (by decide) (by decide), ups_at _ (by decide), ups_if]
  have e7 : ∀ j, zAdd (ups (ups T 11 (T 1 2) v1) 12 (T 1 2) v2) 2 x 12 j = if j = T 1 2 then v2 else T 12 j := fun j => by rw [zAdd_o (by decide) (by decide), ups_if, ups_at _ (by decide)]
  unfold TOK
  rw [eo 0 (by decide) (by decide) (by decide) (by decide), eo 6 (by decide) (by decide) (by decide) (by decide), eo 7 (by decide) (by decide) (by decide) (by decide), eo 8 (by decide) (by decide) (by decide) (by decide), eo 9 (by decide) (by decide) (by decide) (by decide), eo 10 (by decide) (by decide) (by decide) (by decide), eo 13 (by decide) (by decide) (by decide) (by decide), e1 0, e1 1, e1 2, if_pos rfl, if_neg (by decide), if_neg (by decide)]
  refine ⟨t1, t2, by omega, t4, t5, t6, t7, fun w w0 w1 => ?_, t9, t10⟩
  rw [e6, e7]
  by_cases z : w = T 1 2
  · rw [if_pos z, if_pos z]; exact ⟨h1, h2⟩
  · rw [if_neg z, if_neg z]; exact t8 w w0 (by omega)
theorem ok_child {v1 v2 x : Int} (hT : TOK T) (h6 : T 1 1 < 8) (h1 : 0 ≤ v1 ∧ v1 < T 1 0) (h2 : 0 ≤ v2 ∧ v2 ≤ 99) : TOK (zAdd (ups (ups T 8 (T 1 1) v1) 9 (T 1 1) v2) 1 x) := by
  obtain ⟨t1, t2, t3, t4, t5, t6, t7, t8, t9, t10⟩ := hT
  have eo : ∀ o, o ≠ 1 → o ≠ 4 → o ≠ 8 → o ≠ 9 → zAdd (ups (ups T 8 (T 1 1) v1) 9 (T 1 1) v2) 1 x o = T o := fun o a b c d => by rw [zAdd_o a b, ups_at _ d, ups_at _ c]
  have e1 : ∀ j, zAdd (ups (ups T 8 (T 1 1) v1) 9 (T 1 1) v2) 1 x 1 j = if j = 1 then T 1 1 + 1 else T 1 j := fun j => by rw [zAdd_1 (by decide), ups_at _ (by decide), ups_at _ (by decide)]
  have e6 : ∀ j, zAdd (ups (ups T 8 (T 1 1) v1) 9 (T 1 1) v2) 1 x 8 j = if j = T 1 1 then v1 else T 8 j := fun j => by rw [zAdd_o (by decide) (by decide), ups_at _ (by decide), ups_if]
  have e7 : ∀ j, zAdd (ups (ups T 8 (T 1 1) v1) 9 (T 1 1) v2) 1 x 9 j = if j = T 1 1 then v2 else T 9 j := fun j => by rw [zAdd_o (by decide) (by decide), ups_if, ups_at _ (by decide)]
  unfold TOK
  rw [eo 0 (by decide) (by decide) (by decide) (by decide), eo 6 (by decide) (by decide) (by decide) (by decide), eo 7 (by decide) (by decide) (by decide) (by decide), eo 10 (by decide) (by decide) (by decide) (by decide), eo 11 (by decide) (by decide) (by decide) (by decide), eo 12 (by decide) (by decide) (by decide) (by decide), eo 13 (by decide) (by decide) (by decide) (by decide), e1 0, e1 1, e1 2, if_pos rfl, if_neg (by decide), if_neg (by decide)]
  refine ⟨t1, by omega, t3, t4, t5, fun c c0 c1 => ?_, fun c c0 c1 => ?_, t8, fun f f0 f1 => ?_, t10⟩
  · have q := t6 c c0 c1
    rw [e6, e7]
    by_cases z : c = T 1 1
    · rw [if_pos z, if_pos z]; omega
    · rw [if_neg z, if_neg z]; omega
  · rw [e6]
    by_cases z : c = T 1 1
    · rw [if_pos z]; omega
    · rw [if_neg z]; exact t7 c c0 (by omega)
  · obtain ⟨a, b, a1, b1, n, e⟩ := t9 f f0 f1
    exact ⟨a, b, by omega, by omega, n, e⟩
theorem ok_twin {a b : Int} (hT : TOK T) (ha : 0 ≤ a ∧ a < T 1 1) (hb : 0 ≤ b ∧ b < T 1 1) : TOK (twP T a b) := by
  obtain ⟨t1, t2, t3, t4, t5, t6, t7, t8, t9, t10⟩ := hT
  have eo : ∀ o, o ≠ 10 → twP T a b o = T o := fun o q => by unfold twP; rw [ups_at _ q, ups_at _ q]
  have e10 : ∀ j, twP T a b 10 j = if j = b then a else if j = a then b else T 10 j := fun j => by unfold twP; rw [ups_if, ups_if]
  unfold TOK
  rw [eo 0 (by decide), eo 1 (by decide), eo 6 (by decide), eo 7 (by decide), eo 8 (by decide), eo 9 (by decide), eo 11 (by decide), eo 12 (by decide), eo 13 (by decide)]
  refine ⟨t1, t2, t3, t4, t5, fun c c0 c1 => ?_, t7, t8, t9, t10⟩
  have q := t6 c c0 c1
  rw [e10]
  refine ⟨q.1, q.2.1, ?_⟩
  split
  · omega
  · split
    · omega
    · exact q.2.2
theorem ok_feud {a b : Int} (hT : TOK T) (hf : T 0 13 < 10) (ha : 0 ≤ a ∧ a < T 1 1) (hb : 0 ≤ b ∧ b < T 1 1) (hn : a ≠ b) : TOK (feP T a b) ∧ feP T a b 13 (T 0 13) = 2 ^ a.toNat + 2 ^ b.toNat := by
  obtain ⟨t1, t2, t3, t4, t5, t6, t7, t8, t9, t10⟩ := hT
  have ch : ∀ x : Nat, x < 8 → ∀ y : Nat, y < 8 → x ≠ y → bOr (bShl 1 (x : Int)) (bShl 1 (y : Int)) = (2 : Int) ^ x + 2 ^ y := by decide +kernel
  have ev : bOr (bShl 1 a) (bShl 1 b) = (2 : Int) ^ a.toNat + 2 ^ b.toNat := by
    have := ch a.toNat (by omega) b.toNat (by omega) (by omega)
    rw [Int.toNat_of_nonneg ha.1, Int.toNat_of_nonneg hb.1] at this
    exact this
  have eo : ∀ o, o ≠ 13 → o ≠ 0 → feP T a b o = T o := fun o q r => by unfold feP; rw [ups_at _ r, ups_at _ q]
  have e0 : ∀ k, k ≠ 13 → feP T a b 0 k = T 0 k := fun k q => by unfold feP; rw [ups_k _ q, ups_at _ (by decide)]
  have e013 : feP T a b 0 13 = T 0 13 + 1 := by unfold feP; rw [ups_eq]
  have e13 : ∀ j, feP T a b 13 j = if j = T 0 13 then (2 : Int) ^ a.toNat + 2 ^ b.toNat else T 13 j := fun j => by unfold feP; rw [ups_at _ (by decide), ups_if, ev]
  refine ⟨?_, by rw [e13, if_pos rfl]⟩
  unfold TOK
  rw [eo 1 (by decide) (by decide), eo 6 (by decide) (by decide), eo 7 (by decide) (by decide), eo 8 (by decide) (by decide), eo 9 (by decide) (by decide), eo 10 (by decide) (by decide), eo 11 (by decide) (by decide), eo 12 (by decide) (by decide), e013, e0 14 (by decide), e0 15 (by decide), e0 16 (by decide), e0 17 (by decide), e0 18 (by decide)]
  refine ⟨t1, t2, t3, by omega, t5, t6, t7, t8, fun f f0 f1 => ?_, t10⟩
  rw [e13]
  by_cases z : f = T 0 13
  · rw [if_pos z]
    exact ⟨a.toNat, b.toNat, by omega, by omega, by omega, rfl⟩
  · rw [if_neg z]
    exact t9 f f0 (by omega)
end ZOK
