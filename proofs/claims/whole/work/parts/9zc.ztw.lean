/-! those not told have no twin: it stays so; a text's run -/
section ZTW
variable {t : Tp} {T T2 : Tn} {st : Int × Int}
theorem tw_of (h : zTw T) (h1 : T 1 1 ≤ T2 1 1) (h10 : ∀ c, T2 1 1 ≤ c → c < 8 → T2 10 c = T 10 c) : zTw T2 := fun c c0 c8 => by
  rw [h10 c c0 c8]; exact h c (by omega) c8
theorem tw_eq (h : zTw T) (h1 : T2 1 = T 1) (h10 : T2 10 = T 10) : zTw T2 := by unfold zTw; rw [h1, h10]; exact h
theorem zLn_tw (hT : TOK T) (hw : zTw T) (h : (zLn t T st).1 = 0) (hr : zLnR t T st T2) : zTw T2 := by
  have c1 := hT.2.1
  unfold zLn at h
  unfold zLnR at hr
  by_cases w0 : wdT t st.2 = 0
  · rw [if_pos w0] at hr
    rw [hr]
    unfold l2T
    refine tw_of hw ?_ (fun c _ _ => ?_)
    · rw [zAdd_1 (by decide), if_neg (by decide), ups_at _ (by decide), ups_at _ (by decide)]; exact Int.le_refl _
    · rw [zAdd_o (by decide) (by decide), ups_at _ (by decide), ups_at _ (by decide)]
  rw [if_neg w0] at h hr
  by_cases w3 : wdT t st.2 = 3
  · rw [if_pos w3] at hr
    rw [hr]
    unfold chT2
    refine tw_of hw ?_ (fun c _ _ => ?_)
    · rw [zAdd_1 (by decide), if_pos rfl, ups_at _ (by decide), ups_at _ (by decide)]; omega
    · rw [zAdd_o (by decide) (by decide), ups_at _ (by decide), ups_at _ (by decide)]
  rw [if_neg w3] at h hr
  by_cases w6 : wdT t st.2 = 6
  · rw [if_pos w6] at h hr
    have g := p2_good c1.1 h
    rw [hr]
    have e1 : ∀ a b, twP T a b 1 = T 1 := fun a b => by unfold twP; rw [ups_at _ (by decide), ups_at _ (by decide)]
    refine tw_of hw (by rw [e1]; exact Int.le_refl _) (fun c c0 _ => ?_)
    rw [e1] at c0
    unfold twP
    rw [ups_k _ (by omega), ups_k _ (by omega)]
  rw [if_neg w6] at h hr
  by_cases w7 : wdT t st.2 = 7
  · rw [if_pos w7] at hr
    rw [hr]
    refine tw_eq hw ?_ ?_ <;> (unfold feP; rw [ups_at _ (by decide), ups_at _ (by decide)])
  rw [if_neg w7] at h hr
  by_cases w8 : wdT t st.2 = 8
  · rw [if_pos w8] at hr
    rw [hr]
    unfold l2T
    refine tw_of hw ?_ (fun c _ _ => ?_)
    · rw [zAdd_1 (by decide), if_neg (by decide), ups_at _ (by decide), ups_at _ (by decide)]; exact Int.le_refl _
    · rw [zAdd_o (by decide) (by decide), ups_at _ (by decide), ups_at _ (by decide)]
  rw [if_neg w8] at h hr
  by_cases w11 : wdT t st.2 = 11
  · rw [if_pos w11] at hr
    exact tw_eq hw (hr.1 1 (by decide) (by decide)) (hr.1 10 (by decide) (by decide))
  rw [if_neg w11] at h hr
  by_cases w12 : wdT t st.2 = 12
  · rw [if_pos w12] at hr
    exact tw_eq hw (hr.1 1 (by decide) (by decide)) (hr.1 10 (by decide) (by decide))
  rw [if_neg w12] at h hr
  by_cases w13 : wdT t st.2 = 13
  · rw [if_pos w13] at hr
    rw [hr]
    refine tw_eq hw ?_ ?_ <;> (unfold raT; rw [ups_at _ (by decide), ups_at _ (by decide)])
  rw [if_neg w13] at h hr
  by_cases w15 : wdT t st.2 = 15
  · rw [if_pos w15] at hr
    rw [hr]
    refine tw_eq hw ?_ ?_ <;> rw [ups_at _ (by decide)]
  rw [if_neg w15] at h hr
  by_cases w16 : wdT t st.2 = 16
  · rw [if_pos w16] at hr
    rw [hr]
    refine tw_eq hw ?_ ?_ <;> rw [ups_at _ (by decide)]
  rw [if_neg w16] at h hr
  by_cases w17 : wdT t st.2 = 17
  · rw [if_pos w17] at hr
    rw [hr]
    refine tw_eq hw ?_ ?_ <;> rw [ups_at _ (by decide)]
  rw [if_neg w17] at hr
  exact hr.elim
/-- from the n-th statement on, the next byte p, a town T: the end stE, with n2 statements a town T2 -/
def zRun (t : Tp) : Nat → Int → Tn → Int → (Int × Int) → Int → Tn → Prop
  | 0, _, _, _, _, _, _ => False
  | k + 1, n, T, p, stE, n2, T2 =>
    (atT t p < t.1 → n < 80 → (zSt t T (nxT t p)).1 = 0 → ∃ T1, zLnR t T (nxT t p) T1 ∧ zRun t k (n + 1) T1 (ndT t (zSt t T (nxT t p)).2) stE n2 T2) ∧
    (atT t p < t.1 → n < 80 → (zSt t T (nxT t p)).1 ≠ 0 → stE = zSt t T (nxT t p)) ∧
    (atT t p < t.1 → ¬ n < 80 → stE = (6, atT t p)) ∧
    (¬ atT t p < t.1 → stE = (0, atT t p) ∧ n2 = n ∧ T2 = T)
end ZTW
