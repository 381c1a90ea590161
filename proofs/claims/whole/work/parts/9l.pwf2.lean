/-! the descent ends, and its steps can be worked: part by part -/
section PTOT
variable {t : Tp} {mb : Int} {a o c : Int} {r f F : Int → PR1}
theorem pB_ex {r : PR1} {f : Int → PR1} (h : ∃ q, r = some q) (hf : ∀ st L, r = some (st, L) → st.1 = 0 → ∃ q, f st.2 = some q) : ∃ q, pB r f = some q := by
  obtain ⟨⟨st, L⟩, e⟩ := h
  by_cases z : st.1 = 0
  · obtain ⟨⟨st2, L2⟩, e2⟩ := hf st L e z
    refine ⟨(st2, L ++ L2), ?_⟩
    rw [e]
    unfold pB
    simp only []
    rw [if_pos z, e2]
  · refine ⟨(st, L), ?_⟩
    rw [e]
    unfold pB
    simp only []
    rw [if_neg z]
theorem tot_V (a0 : 0 ≤ a) (a1 : a ≤ t.1) (hk : kdT t a ≠ 0) (hF : ∀ x, a < x → x ≤ t.1 → lxT t x = -1 → ∃ q, F x = some q) : ∃ q, pB (pV t a) F = some q := by
  refine pB_ex ⟨_, rfl⟩ (fun st L e z => ?_)
  have q := gd_V a0 a1 hk e
  have i := q.2.1 z
  have l := q.2.2 z
  exact hF st.2 (by omega) i.1.2 i.2
theorem tot_D (a0 : 0 ≤ a) (a1 : a ≤ t.1) (ax : lxT t a = -1) (hk : kdT t a ≠ 0) (hF : ∀ x, a < x → x ≤ t.1 → lxT t x = -1 → ∃ q, F x = some q) : ∃ q, pB (pD t o a) F = some q := by
  refine pB_ex ?_ (fun st L e z => ?_)
  · unfold pD; split <;> exact ⟨_, rfl⟩
  · have q := gdA_D (o := o) a0 a1 ax hk st L e
    have i := q.2.1 z
    have l := q.2.2 z
    exact hF st.2 (by omega) i.1.2 i.2
theorem tot_B (gr : gdR t r) (a0 : 0 ≤ a) (a1 : a ≤ t.1) (ax : lxT t a = -1) (hr : ∃ q, r a = some q) (hF : ∀ x, a ≤ x → x ≤ t.1 → lxT t x = -1 → ∃ q, F x = some q) : ∃ q, pB (r a) F = some q := by
  refine pB_ex hr (fun st L e z => ?_)
  have q := gr a st L a0 a1 ax e
  have i := q.2.1 z
  have l := q.2.2 z
  exact hF st.2 (by omega) i.1.2 i.2
theorem tot_M (a0 : 0 ≤ a) (a1 : a ≤ t.1) (ax : lxT t a = -1) (hF : ∀ x, a ≤ x → x ≤ t.1 → lxT t x = -1 → ∃ q, F x = some q) : ∃ q, pB (pM t c a) F = some q := by
  refine tot_B (gd_M (c := c)).r a0 a1 ax ?_ hF
  unfold pM; split <;> exact ⟨_, rfl⟩
theorem tot_E (hF : ∃ q, F a = some q) : ∃ q, pB (pE c a) F = some q := by
  refine pB_ex ⟨_, rfl⟩ (fun st L e _ => ?_)
  have := some2 e
  rw [this.1]
  exact hF
theorem tot_ch (a0 : 0 ≤ a) (a1 : a ≤ t.1) (hF : ∀ x, a < x → x ≤ t.1 → lxT t x = -1 → ∃ q, F x = some q) : ∃ q, pB (pV t a) (fun x => if kdT t x = 3 ∧ vlT t x = 40 then pB (pD t o x) F else pX 1 x) = some q := by
  refine pB_ex ⟨_, rfl⟩ (fun st L e z => ?_)
  have e1 := some2 e
  have v := av_in (t := t) a0 a1
  rw [← e1.1] at v
  have i := v.1 z
  have l := (v.2.2 z).1
  show ∃ q, (if kdT t st.2 = 3 ∧ vlT t st.2 = 40 then pB (pD t o st.2) F else pX 1 st.2) = some q
  by_cases y : kdT t st.2 = 3 ∧ vlT t st.2 = 40
  · rw [if_pos y]
    exact tot_D i.1.1 i.1.2 i.2 (by omega) (fun x h1 h2 h3 => hF x (by omega) h2 h3)
  · rw [if_neg y]; exact ⟨_, rfl⟩
def wT (nt : Nat) : Nat := if nt = 0 then 9 else if nt = 1 then 1 else if nt = 2 then 8 else if nt = 3 then 1 else if nt = 4 then 7 else if nt = 5 then 6 else if nt = 6 then 5 else if nt = 7 then 1 else if nt = 8 then 4 else if nt = 9 then 1 else if nt = 10 then 3 else if nt ≤ 13 then 2 else 6
theorem wT_bd (nt : Nat) : 1 ≤ wT nt ∧ wT nt ≤ 9 := by
  unfold wT
  repeat' split
  all_goals omega
theorem pM_ex {c a : Int} : ∃ q, pM t c a = some q := by unfold pM; split <;> exact ⟨_, rfl⟩
/-- with fuel enough the descent ends -/
theorem pF_tot (t : Tp) (mb : Int) : ∀ (k nt : Nat) (o a : Int), 0 ≤ a → a ≤ t.1 → lxT t a = -1 → 20 * (t.1 - a) + (wT nt : Int) ≤ k → ∃ q, pF t mb k nt o a = some q := by
  intro k
  induction k with
  | zero =>
    intro nt o a a0 a1 _ h
    have := wT_bd nt
    omega
  | succ k ih =>
    intro nt o a a0 a1 ax h
    have G : ∀ (n2 : Nat) (o2 x : Int), a ≤ x → x ≤ t.1 → lxT t x = -1 → (a < x ∨ wT n2 < wT nt) → ∃ q, pF t mb k n2 o2 x = some q := fun n2 o2 x h1 h2 h3 h4 => by
      have := wT_bd n2
      have := wT_bd nt
      exact ih n2 o2 x (by omega) h2 h3 (by omega)
    have gd := fun n2 o2 => pF_gd t mb k n2 o2
    have le := Int.le_refl a
    match nt, G with
    | 0, G => exact tot_B (gd 2 o) a0 a1 ax (G 2 o a le a1 ax (Or.inr (by decide))) (fun x h1 h2 h3 => G 1 o x h1 h2 h3 (Or.inr (by decide)))
    | 1, G =>
      show ∃ q, (if wdT t a = 25 then pB (pV t a) (fun x => pB (pF t mb k 2 o x) (fun y => pB (pE 12 y) (fun z => pF t mb k 1 o z))) else pN a) = some q
      by_cases z : wdT t a = 25
      · rw [if_pos z]
        exact tot_V a0 a1 (kd_w (by omega)) (fun x h1 h2 h3 => tot_B (gd 2 o) (by omega) h2 h3 (G 2 o x (by omega) h2 h3 (Or.inl h1)) (fun y h4 h5 h6 => tot_E (G 1 o y (by omega) h5 h6 (Or.inl (by omega)))))
      · rw [if_neg z]; exact ⟨_, rfl⟩
    | 2, G => exact tot_B (gd 4 o) a0 a1 ax (G 4 o a le a1 ax (Or.inr (by decide))) (fun x h1 h2 h3 => G 3 o x h1 h2 h3 (Or.inr (by decide)))
    | 3, G =>
      show ∃ q, (if wdT t a = 26 then pB (pV t a) (fun x => pB (pF t mb k 4 o x) (fun y => pB (pE 11 y) (fun z => pF t mb k 3 o z))) else pN a) = some q
      by_cases z : wdT t a = 26
      · rw [if_pos z]
        exact tot_V a0 a1 (kd_w (by omega)) (fun x h1 h2 h3 => tot_B (gd 4 o) (by omega) h2 h3 (G 4 o x (by omega) h2 h3 (Or.inl h1)) (fun y h4 h5 h6 => tot_E (G 3 o y (by omega) h5 h6 (Or.inl (by omega)))))
      · rw [if_neg z]; exact ⟨_, rfl⟩
    | 4, G =>
      show ∃ q, (if wdT t a = 27 then pB (pD t o a) (fun x => pB (pF t mb k 4 (o + 1) x) (fun y => pE 13 y)) else if kdT t a = 3 ∧ vlT t a = 91 then pB (pD t o a) (fun x => pB (pF t mb k 0 (o + 1) x) (fun y => pM t 93 y)) else if wdT t a = 28 then pB (pV t a) (fun x => pE 41 x) else pF t mb k 5 o a) = some q
      by_cases z : wdT t a = 27
      · rw [if_pos z]
        exact tot_D a0 a1 ax (kd_w (by omega)) (fun x h1 h2 h3 => tot_B (gd 4 (o + 1)) (by omega) h2 h3 (G 4 (o + 1) x (by omega) h2 h3 (Or.inl h1)) (fun y _ _ _ => ⟨_, rfl⟩))
      · rw [if_neg z]
        by_cases y : kdT t a = 3 ∧ vlT t a = 91
        · rw [if_pos y]
          exact tot_D a0 a1 ax (by omega) (fun x h1 h2 h3 => tot_B (gd 0 (o + 1)) (by omega) h2 h3 (G 0 (o + 1) x (by omega) h2 h3 (Or.inl h1)) (fun y _ _ _ => pM_ex))
        · rw [if_neg y]
          by_cases x : wdT t a = 28
          · rw [if_pos x]
            exact tot_V a0 a1 (kd_w (by omega)) (fun x _ _ _ => ⟨_, rfl⟩)
          · rw [if_neg x]
            exact G 5 o a le a1 ax (Or.inr (by decide))
    | 5, G =>
      refine tot_B (gd 6 o) a0 a1 ax (G 6 o a le a1 ax (Or.inr (by decide))) (F := fun x => if cmT t x = -1 then pX 1 x else pB (pV t x) (fun y => pB (pF t mb k 6 o y) (fun z => pE (cmT t x) z))) (fun x h1 h2 h3 => ?_)
      show ∃ q, (if cmT t x = -1 then pX 1 x else pB (pV t x) (fun y => pB (pF t mb k 6 o y) (fun z => pE (cmT t x) z))) = some q
      by_cases z : cmT t x = -1
      · rw [if_pos z]; exact ⟨_, rfl⟩
      · rw [if_neg z]
        have := cm_kd z
        exact tot_V (by omega) h2 (by omega) (fun y h4 h5 h6 => tot_B (gd 6 o) (by omega) h5 h6 (G 6 o y (by omega) h5 h6 (Or.inl (by omega))) (fun _ _ _ _ => ⟨_, rfl⟩))
    | 6, G => exact tot_B (gd 8 o) a0 a1 ax (G 8 o a le a1 ax (Or.inr (by decide))) (fun x h1 h2 h3 => G 7 o x h1 h2 h3 (Or.inr (by decide)))
    | 7, G =>
      show ∃ q, (if adT t a = -1 then pN a else pB (pV t a) (fun x => pB (pF t mb k 8 o x) (fun y => pB (pE (adT t a) y) (fun z => pF t mb k 7 o z)))) = some q
      by_cases z : adT t a = -1
      · rw [if_pos z]; exact ⟨_, rfl⟩
      · rw [if_neg z]
        have := ad_kd z
        exact tot_V a0 a1 (by omega) (fun x h1 h2 h3 => tot_B (gd 8 o) (by omega) h2 h3 (G 8 o x (by omega) h2 h3 (Or.inl h1)) (fun y h4 h5 h6 => tot_E (G 7 o y (by omega) h5 h6 (Or.inl (by omega)))))
    | 8, G => exact tot_B (gd 10 o) a0 a1 ax (G 10 o a le a1 ax (Or.inr (by decide))) (fun x h1 h2 h3 => G 9 o x h1 h2 h3 (Or.inr (by decide)))
    | 9, G =>
      show ∃ q, (if muT t a = -1 then pN a else pB (pV t a) (fun x => pB (pF t mb k 10 o x) (fun y => pB (pE (muT t a) y) (fun z => pF t mb k 9 o z)))) = some q
      by_cases z : muT t a = -1
      · rw [if_pos z]; exact ⟨_, rfl⟩
      · rw [if_neg z]
        have := mu_kd z
        exact tot_V a0 a1 (by omega) (fun x h1 h2 h3 => tot_B (gd 10 o) (by omega) h2 h3 (G 10 o x (by omega) h2 h3 (Or.inl h1)) (fun y h4 h5 h6 => tot_E (G 9 o y (by omega) h5 h6 (Or.inl (by omega)))))
    | 10, G =>
      show ∃ q, (if kdT t a = 2 then pB (pE (40 + vlT t a) a) (fun x => pV t x) else if kdT t a = 3 ∧ vlT t a = 40 then pB (pD t o a) (fun x => pB (pF t mb k 6 (o + 1) x) (fun y => pM t 41 y)) else if wdT t a = 29 then pF t mb k 11 o a else if wdT t a = 30 then pF t mb k 12 o a else if wdT t a = 24 then pF t mb k 13 o a else if fcT t mb a = -1 then pX 1 a else pB (pE (20 + fcT t mb a) a) (fun x => pV t x)) = some q
      by_cases z : kdT t a = 2
      · rw [if_pos z]; exact tot_E ⟨_, rfl⟩
      rw [if_neg z]
      by_cases y : kdT t a = 3 ∧ vlT t a = 40
      · rw [if_pos y]
        exact tot_D a0 a1 ax (by omega) (fun x h1 h2 h3 => tot_B (gd 6 (o + 1)) (by omega) h2 h3 (G 6 (o + 1) x (by omega) h2 h3 (Or.inl h1)) (fun y _ _ _ => pM_ex))
      rw [if_neg y]
      by_cases x : wdT t a = 29
      · rw [if_pos x]; exact G 11 o a le a1 ax (Or.inr (by decide))
      rw [if_neg x]
      by_cases w : wdT t a = 30
      · rw [if_pos w]; exact G 12 o a le a1 ax (Or.inr (by decide))
      rw [if_neg w]
      by_cases v : wdT t a = 24
      · rw [if_pos v]; exact G 13 o a le a1 ax (Or.inr (by decide))
      rw [if_neg v]
      by_cases u : fcT t mb a = -1
      · rw [if_pos u]; exact ⟨_, rfl⟩
      · rw [if_neg u]; exact tot_E ⟨_, rfl⟩
    | 11, G => exact tot_ch a0 a1 (fun y h1 h2 h3 => G 14 (o + 1) y (by omega) h2 h3 (Or.inl h1))
    | 12, G => exact tot_ch a0 a1 (fun y h1 h2 h3 => G 15 (o + 1) y (by omega) h2 h3 (Or.inl h1))
    | 13, G => exact tot_ch a0 a1 (fun y h1 h2 h3 => tot_B (gd 0 (o + 1)) (by omega) h2 h3 (G 0 (o + 1) y (by omega) h2 h3 (Or.inl h1)) (fun z h4 h5 h6 => tot_M (by omega) h5 h6 (fun u h7 h8 h9 => G 16 (o + 1) u (by omega) h8 h9 (Or.inl (by omega)))))
    | i + 14, G =>
      have w14 : wT 6 < wT (i + 14) := by
        unfold wT
        rw [if_neg (show ¬ i + 14 = 0 by omega), if_neg (show ¬ i + 14 = 1 by omega), if_neg (show ¬ i + 14 = 2 by omega), if_neg (show ¬ i + 14 = 3 by omega), if_neg (show ¬ i + 14 = 4 by omega), if_neg (show ¬ i + 14 = 5 by omega), if_neg (show ¬ i + 14 = 6 by omega), if_neg (show ¬ i + 14 = 7 by omega), if_neg (show ¬ i + 14 = 8 by omega), if_neg (show ¬ i + 14 = 9 by omega), if_neg (show ¬ i + 14 = 10 by omega), if_neg (show ¬ i + 14 ≤ 13 by omega)]
        decide
      show ∃ q, pB (pF t mb k 6 o a) (fun x => pB (pM t 44 x) (fun y => pB (pF t mb k 6 o y) (fun z => pB (pM t 41 z) (fun u => pE (chC i) u)))) = some q
      exact tot_B (gd 6 o) a0 a1 ax (G 6 o a le a1 ax (Or.inr w14)) (fun x h1 h2 h3 => tot_M (by omega) h2 h3 (fun y h4 h5 h6 => tot_B (gd 6 o) (by omega) h5 h6 (G 6 o y (by omega) h5 h6 (Or.inr w14)) (fun z h7 h8 h9 => tot_M (by omega) h8 h9 (fun _ _ _ _ => ⟨_, rfl⟩))))
end PTOT
