/-! the steps of a formula can be worked -/
section PWF3
variable {t : Tp} {mb : Int} {a b o c : Int} {f F : Int → PR1} {N : List Int}
theorem pB_good {r : PR1} (h : pB r f = some ((0, b), N)) : ∃ x L1 L2, r = some ((0, x), L1) ∧ f x = some ((0, b), L2) ∧ N = L1 ++ L2 := by
  obtain ⟨st1, L1, L2, h1, h2, h3⟩ := pB_some h
  by_cases z : st1.1 = 0
  · rw [pH_good z] at h2
    rw [p_eta z] at h1
    exact ⟨st1.2, L1, L2, h1, h2, h3⟩
  · have := (pH_bad z h2).1
    rw [← this] at z
    exact absurd rfl z
theorem gV (a0 : 0 ≤ a) (a1 : a ≤ t.1) (h : pV t a = some ((0, b), N)) : ((0 ≤ b ∧ b ≤ t.1) ∧ lxT t b = -1) ∧ N = [] := by
  have e := some2 h
  have v := (av_in (t := t) a0 a1).1
  rw [← e.1] at v
  exact ⟨v rfl, e.2⟩
theorem gDp (a0 : 0 ≤ a) (a1 : a ≤ t.1) (h : pD t o a = some ((0, b), N)) : ((0 ≤ b ∧ b ≤ t.1) ∧ lxT t b = -1) ∧ N = [] ∧ o ≤ 6 := by
  unfold pD at h
  by_cases z : 7 ≤ o
  · rw [if_pos z] at h
    have e := some2 h
    have : (0 : Int) = 5 := congrArg Prod.fst e.1
    omega
  · rw [if_neg z] at h
    have := gV a0 a1 h
    exact ⟨this.1, this.2, by omega⟩
theorem gM (a0 : 0 ≤ a) (a1 : a ≤ t.1) (h : pM t c a = some ((0, b), N)) : ((0 ≤ b ∧ b ≤ t.1) ∧ lxT t b = -1) ∧ N = [] := by
  unfold pM at h
  split at h
  · exact gV a0 a1 h
  · have e := some2 h
    have : (0 : Int) = 1 := congrArg Prod.fst e.1
    omega
theorem gE (h : pE c a = some ((0, b), N)) : b = a ∧ N = [c] := by
  have e := some2 h
  exact ⟨congrArg Prod.snd e.1, e.2⟩
theorem gX {k : Int} (k0 : 0 < k) (h : pX k a = some ((0, b), N)) : False := by
  have e := some2 h
  have : (0 : Int) = k := congrArg Prod.fst e.1
  omega
theorem gN (h : pN a = some ((0, b), N)) : N = [] := (some2 h).2
theorem fc_bd (h : fcT t mb a ≠ -1) : (0 ≤ fcT t mb a ∧ fcT t mb a ≤ 7) ∧ (mb = 0 → fcT t mb a ≤ 4) := by
  have w := wd_bd t a
  have ch : ∀ i : Nat, i < 32 → -1 ≤ enF.getD i 0 ∧ enF.getD i 0 ≤ 7 := by decide +kernel
  have q := ch (wdT t a).toNat (by omega)
  unfold fcT at h ⊢
  by_cases z : mb = 0 ∧ 5 ≤ enF.getD (wdT t a).toNat 0
  · rw [if_pos z] at h; exact absurd rfl h
  · rw [if_neg z] at h ⊢
    refine ⟨by omega, fun y => ?_⟩
    apply Classical.byContradiction
    intro u
    exact z ⟨y, by omega⟩
theorem lw_all : lW 0 = 0 ∧ lW 1 = 0 ∧ lW 2 = 1 ∧ lW 3 = 1 ∧ lW 4 = 2 ∧ lW 5 = 2 ∧ lW 6 = 3 ∧ lW 7 = 3 ∧ lW 8 = 4 ∧ lW 9 = 4 ∧ lW 10 = 5 ∧ lW 11 = 5 ∧ lW 12 = 5 ∧ lW 13 = 5 ∧ lW 14 = 0 ∧ lW 15 = 0 ∧ lW 16 = 0 := by decide
theorem lW_14 (i : Nat) : lW (i + 14) = 0 := by
  unfold lW
  rw [if_neg (by omega), if_neg (by omega), if_neg (by omega), if_neg (by omega), if_neg (by omega), if_neg (by omega)]
theorem pF_wf (t : Tp) (mb : Int) : ∀ (k nt : Nat), wfR t mb k nt := by
  intro k
  induction k with
  | zero => intro nt o a b N _ _ _ h; cases h
  | succ k ih =>
    intro nt o a b N o0 a0 ax h v v0 v1
    obtain ⟨l0, l1, l2, l3, l4, l5, l6, l7, l8, l9, l10, l11, l12, l13, l14, l15, l16⟩ := lw_all
    have m28 : (if mb = 0 then (25 : Int) else 28) ≤ 28 := by split <;> omega
    have pl : ∀ (n : Nat) (o x y : Int) (L : List Int), (0 ≤ x ∧ x ≤ t.1) → lxT t x = -1 → pF t mb k n o x = some ((0, y), L) → (0 ≤ y ∧ y ≤ t.1) ∧ lxT t y = -1 := fun n o x y L h1 h2 h3 => (pF_gd t mb k n o x _ L h1.1 h1.2 h2 h3).2.1 rfl
    match nt, h, v1 with
    | 0, h, v1 =>
      have h : pB (pF t mb k 2 o a) (fun x => pF t mb k 1 o x) = some ((0, b), N) := h
      obtain ⟨x, L1, L2, p1, p2, p3⟩ := pB_good h
      have i := pl _ _ _ _ _ a0 ax p1
      show Wv _ true N v
      rw [p3]
      exact Wv.r (ih 2 o a x L1 o0 a0 ax p1 v v0 (by omega)) (ih 1 o x b L2 o0 i.1 i.2 p2 v v0 (by omega))
    | 1, h, v1 =>
      have h : (if wdT t a = 25 then pB (pV t a) (fun x => pB (pF t mb k 2 o x) (fun y => pB (pE 12 y) (fun z => pF t mb k 1 o z))) else pN a) = some ((0, b), N) := h
      show Wr _ true N v
      by_cases z : wdT t a = 25
      · rw [if_pos z] at h
        obtain ⟨x, L1, L2, p1, p2, p3⟩ := pB_good h
        obtain ⟨y, L3, L4, q1, q2, q3⟩ := pB_good p2
        obtain ⟨w, L5, L6, u1, u2, u3⟩ := pB_good q2
        have i := gV a0.1 a0.2 p1
        have j := pl _ _ _ _ _ i.1.1 i.1.2 q1
        have e := gE u1
        rw [e.1] at u2
        rw [p3, i.2, q3, u3, e.2, List.nil_append]
        exact Wr.two (ih 2 o x y L3 o0 i.1.1 i.1.2 q1 (v + 1) (by omega) (by omega)) (ih 1 o y b L6 o0 j.1 j.2 u2 v v0 (by omega)) (by omega) (by omega) (fun _ => rfl) (fun _ => by omega)
      · rw [if_neg z] at h
        rw [gN h]
        exact Wr.nil
    | 2, h, v1 =>
      have h : pB (pF t mb k 4 o a) (fun x => pF t mb k 3 o x) = some ((0, b), N) := h
      obtain ⟨x, L1, L2, p1, p2, p3⟩ := pB_good h
      have i := pl _ _ _ _ _ a0 ax p1
      show Wv _ true N v
      rw [p3]
      exact Wv.r (ih 4 o a x L1 o0 a0 ax p1 v v0 (by omega)) (ih 3 o x b L2 o0 i.1 i.2 p2 v v0 (by omega))
    | 3, h, v1 =>
      have h : (if wdT t a = 26 then pB (pV t a) (fun x => pB (pF t mb k 4 o x) (fun y => pB (pE 11 y) (fun z => pF t mb k 3 o z))) else pN a) = some ((0, b), N) := h
      show Wr _ true N v
      by_cases z : wdT t a = 26
      · rw [if_pos z] at h
        obtain ⟨x, L1, L2, p1, p2, p3⟩ := pB_good h
        obtain ⟨y, L3, L4, q1, q2, q3⟩ := pB_good p2
        obtain ⟨w, L5, L6, u1, u2, u3⟩ := pB_good q2
        have i := gV a0.1 a0.2 p1
        have j := pl _ _ _ _ _ i.1.1 i.1.2 q1
        have e := gE u1
        rw [e.1] at u2
        rw [p3, i.2, q3, u3, e.2, List.nil_append]
        exact Wr.two (ih 4 o x y L3 o0 i.1.1 i.1.2 q1 (v + 1) (by omega) (by omega)) (ih 3 o y b L6 o0 j.1 j.2 u2 v v0 (by omega)) (by omega) (by omega) (fun _ => rfl) (fun _ => by omega)
      · rw [if_neg z] at h
        rw [gN h]
        exact Wr.nil
    | 4, h, v1 =>
      have h : (if wdT t a = 27 then pB (pD t o a) (fun x => pB (pF t mb k 4 (o + 1) x) (fun y => pE 13 y)) else if kdT t a = 3 ∧ vlT t a = 91 then pB (pD t o a) (fun x => pB (pF t mb k 0 (o + 1) x) (fun y => pM t 93 y)) else if wdT t a = 28 then pB (pV t a) (fun x => pE 41 x) else pF t mb k 5 o a) = some ((0, b), N) := h
      show Wv _ true N v
      by_cases z : wdT t a = 27
      · rw [if_pos z] at h
        obtain ⟨x, L1, L2, p1, p2, p3⟩ := pB_good h
        obtain ⟨y, L3, L4, q1, q2, q3⟩ := pB_good p2
        have i := gDp a0.1 a0.2 p1
        have e := gE q2
        rw [p3, i.2.1, q3, e.2, List.nil_append]
        exact Wv.not (ih 4 (o + 1) x y L3 (by omega) i.1.1 i.1.2 q1 v v0 (by omega)) (by omega)
      · rw [if_neg z] at h
        by_cases y : kdT t a = 3 ∧ vlT t a = 91
        · rw [if_pos y] at h
          obtain ⟨x, L1, L2, p1, p2, p3⟩ := pB_good h
          obtain ⟨y, L3, L4, q1, q2, q3⟩ := pB_good p2
          have i := gDp a0.1 a0.2 p1
          have j := pl _ _ _ _ _ i.1.1 i.1.2 q1
          have e := gM j.1.1 j.1.2 q2
          rw [p3, i.2.1, q3, e.2, List.nil_append, List.append_nil]
          exact ih 0 (o + 1) x y L3 (by omega) i.1.1 i.1.2 q1 v v0 (by omega)
        · rw [if_neg y] at h
          by_cases w : wdT t a = 28
          · rw [if_pos w] at h
            obtain ⟨x, L1, L2, p1, p2, p3⟩ := pB_good h
            have i := gV a0.1 a0.2 p1
            have e := gE p2
            rw [p3, i.2, e.2, List.nil_append]
            exact Wv.one (Or.inr (by omega)) m28 (by omega) (fun _ => rfl)
          · rw [if_neg w] at h
            exact ih 5 o a b N o0 a0 ax h v v0 (by omega)
    | 5, h, v1 =>
      have h : pB (pF t mb k 6 o a) (fun x => if cmT t x = -1 then pX 1 x else pB (pV t x) (fun y => pB (pF t mb k 6 o y) (fun z => pE (cmT t x) z))) = some ((0, b), N) := h
      show Wv _ true N v
      obtain ⟨x, L1, L2, p1, p2, p3⟩ := pB_good h
      have i := pl _ _ _ _ _ a0 ax p1
      by_cases z : cmT t x = -1
      · rw [if_pos z] at p2
        exact (gX (by decide) p2).elim
      · rw [if_neg z] at p2
        obtain ⟨y, L3, L4, q1, q2, q3⟩ := pB_good p2
        obtain ⟨w, L5, L6, u1, u2, u3⟩ := pB_good q2
        have j := gV i.1.1 i.1.2 q1
        have e := gE u2
        have cv := cm_v (t := t) (a := x)
        rw [p3, q3, j.2, u3, e.2, List.nil_append]
        exact Wv.two (ih 6 o a x L1 o0 a0 ax p1 v v0 (by omega)) (ih 6 o y w L5 o0 j.1.1 j.1.2 u1 (v + 1) (by omega) (by omega)) (by omega) (by omega) (fun y => by omega) (fun _ => by omega)
    | 6, h, v1 =>
      have h : pB (pF t mb k 8 o a) (fun x => pF t mb k 7 o x) = some ((0, b), N) := h
      obtain ⟨x, L1, L2, p1, p2, p3⟩ := pB_good h
      have i := pl _ _ _ _ _ a0 ax p1
      show Wv _ false N v
      rw [p3]
      exact Wv.r (ih 8 o a x L1 o0 a0 ax p1 v v0 (by omega)) (ih 7 o x b L2 o0 i.1 i.2 p2 v v0 (by omega))
    | 7, h, v1 =>
      have h : (if adT t a = -1 then pN a else pB (pV t a) (fun x => pB (pF t mb k 8 o x) (fun y => pB (pE (adT t a) y) (fun z => pF t mb k 7 o z)))) = some ((0, b), N) := h
      show Wr _ false N v
      by_cases z : adT t a = -1
      · rw [if_pos z] at h
        rw [gN h]
        exact Wr.nil
      · rw [if_neg z] at h
        obtain ⟨x, L1, L2, p1, p2, p3⟩ := pB_good h
        obtain ⟨y, L3, L4, q1, q2, q3⟩ := pB_good p2
        obtain ⟨w, L5, L6, u1, u2, u3⟩ := pB_good q2
        have i := gV a0.1 a0.2 p1
        have j := pl _ _ _ _ _ i.1.1 i.1.2 q1
        have e := gE u1
        have cv := ad_v (t := t) (a := a)
        rw [e.1] at u2
        rw [p3, i.2, q3, u3, e.2, List.nil_append]
        exact Wr.two (ih 8 o x y L3 o0 i.1.1 i.1.2 q1 (v + 1) (by omega) (by omega)) (ih 7 o y b L6 o0 j.1 j.2 u2 v v0 (by omega)) (by omega) (by omega) (fun u => by omega) (fun u => by cases u)
    | 8, h, v1 =>
      have h : pB (pF t mb k 10 o a) (fun x => pF t mb k 9 o x) = some ((0, b), N) := h
      obtain ⟨x, L1, L2, p1, p2, p3⟩ := pB_good h
      have i := pl _ _ _ _ _ a0 ax p1
      show Wv _ false N v
      rw [p3]
      exact Wv.r (ih 10 o a x L1 o0 a0 ax p1 v v0 (by omega)) (ih 9 o x b L2 o0 i.1 i.2 p2 v v0 (by omega))
    | 9, h, v1 =>
      have h : (if muT t a = -1 then pN a else pB (pV t a) (fun x => pB (pF t mb k 10 o x) (fun y => pB (pE (muT t a) y) (fun z => pF t mb k 9 o z)))) = some ((0, b), N) := h
      show Wr _ false N v
      by_cases z : muT t a = -1
      · rw [if_pos z] at h
        rw [gN h]
        exact Wr.nil
      · rw [if_neg z] at h
        obtain ⟨x, L1, L2, p1, p2, p3⟩ := pB_good h
        obtain ⟨y, L3, L4, q1, q2, q3⟩ := pB_good p2
        obtain ⟨w, L5, L6, u1, u2, u3⟩ := pB_good q2
        have i := gV a0.1 a0.2 p1
        have j := pl _ _ _ _ _ i.1.1 i.1.2 q1
        have e := gE u1
        have cv := mu_v (t := t) (a := a)
        rw [e.1] at u2
        rw [p3, i.2, q3, u3, e.2, List.nil_append]
        exact Wr.two (ih 10 o x y L3 o0 i.1.1 i.1.2 q1 (v + 1) (by omega) (by omega)) (ih 9 o y b L6 o0 j.1 j.2 u2 v v0 (by omega)) (by omega) (by omega) (fun u => by omega) (fun u => by cases u)
    | 10, h, v1 =>
      have h : (if kdT t a = 2 then pB (pE (40 + vlT t a) a) (fun x => pV t x) else if kdT t a = 3 ∧ vlT t a = 40 then pB (pD t o a) (fun x => pB (pF t mb k 6 (o + 1) x) (fun y => pM t 41 y)) else if wdT t a = 29 then pF t mb k 11 o a else if wdT t a = 30 then pF t mb k 12 o a else if wdT t a = 24 then pF t mb k 13 o a else if fcT t mb a = -1 then pX 1 a else pB (pE (20 + fcT t mb a) a) (fun x => pV t x)) = some ((0, b), N) := h
      show Wv _ false N v
      have one : ∀ c, pB (pE c a) (fun x => pV t x) = some ((0, b), N) → N = [c] := fun c q => by
        obtain ⟨x, L1, L2, p1, p2, p3⟩ := pB_good q
        have e := gE p1
        have e2 := some2 p2
        rw [p3, e.2, e2.2]; rfl
      by_cases z : kdT t a = 2
      · rw [if_pos z] at h
        have vb := vl_bd z a0.1 a0.2 ax
        rw [one _ h]
        exact Wv.one (Or.inr (by omega)) m28 (by omega) (fun u => by cases u)
      rw [if_neg z] at h
      by_cases y : kdT t a = 3 ∧ vlT t a = 40
      · rw [if_pos y] at h
        obtain ⟨x, L1, L2, p1, p2, p3⟩ := pB_good h
        obtain ⟨y, L3, L4, q1, q2, q3⟩ := pB_good p2
        have i := gDp a0.1 a0.2 p1
        have j := pl _ _ _ _ _ i.1.1 i.1.2 q1
        have e := gM j.1.1 j.1.2 q2
        rw [p3, i.2.1, q3, e.2, List.nil_append, List.append_nil]
        exact ih 6 (o + 1) x y L3 (by omega) i.1.1 i.1.2 q1 v v0 (by omega)
      rw [if_neg y] at h
      by_cases x : wdT t a = 29
      · rw [if_pos x] at h; exact ih 11 o a b N o0 a0 ax h v v0 (by omega)
      rw [if_neg x] at h
      by_cases w : wdT t a = 30
      · rw [if_pos w] at h; exact ih 12 o a b N o0 a0 ax h v v0 (by omega)
      rw [if_neg w] at h
      by_cases u : wdT t a = 24
      · rw [if_pos u] at h; exact ih 13 o a b N o0 a0 ax h v v0 (by omega)
      rw [if_neg u] at h
      by_cases r : fcT t mb a = -1
      · rw [if_pos r] at h
        exact (gX (by decide) h).elim
      · rw [if_neg r] at h
        have fb := fc_bd r
        rw [one _ h]
        refine Wv.one (Or.inl ⟨by omega, ?_⟩) m28 (by omega) (fun u => by cases u)
        by_cases q : mb = 0
        · rw [if_pos q]; have := fb.2 q; omega
        · rw [if_neg q]; omega
    | 11, h, v1 =>
      have h : pB (pV t a) (fun x => if kdT t x = 3 ∧ vlT t x = 40 then pB (pD t o x) (fun y => pF t mb k 14 (o + 1) y) else pX 1 x) = some ((0, b), N) := h
      obtain ⟨x, L1, L2, p1, p2, p3⟩ := pB_good h
      show Wv _ false N v
      have i := gV a0.1 a0.2 p1
      by_cases z : kdT t x = 3 ∧ vlT t x = 40
      · rw [if_pos z] at p2
        obtain ⟨y, L3, L4, q1, q2, q3⟩ := pB_good p2
        have j := gDp i.1.1.1 i.1.1.2 q1
        obtain ⟨N1, N2, e1, e2, e3⟩ := ih 14 (o + 1) y b L4 (by omega) j.1.1 j.1.2 q2 v v0 (by omega)
        rw [p3, i.2, q3, j.2.1, e1]
        exact Wv.two e2 e3 (c := 6) (by omega) (by omega) (fun u => by omega) (fun u => by cases u)
      · rw [if_neg z] at p2
        exact (gX (by decide) p2).elim
    | 12, h, v1 =>
      have h : pB (pV t a) (fun x => if kdT t x = 3 ∧ vlT t x = 40 then pB (pD t o x) (fun y => pF t mb k 15 (o + 1) y) else pX 1 x) = some ((0, b), N) := h
      obtain ⟨x, L1, L2, p1, p2, p3⟩ := pB_good h
      show Wv _ false N v
      have i := gV a0.1 a0.2 p1
      by_cases z : kdT t x = 3 ∧ vlT t x = 40
      · rw [if_pos z] at p2
        obtain ⟨y, L3, L4, q1, q2, q3⟩ := pB_good p2
        have j := gDp i.1.1.1 i.1.1.2 q1
        obtain ⟨N1, N2, e1, e2, e3⟩ := ih 15 (o + 1) y b L4 (by omega) j.1.1 j.1.2 q2 v v0 (by omega)
        rw [p3, i.2, q3, j.2.1, e1]
        exact Wv.two e2 e3 (c := 7) (by omega) (by omega) (fun u => by omega) (fun u => by cases u)
      · rw [if_neg z] at p2
        exact (gX (by decide) p2).elim
    | 13, h, v1 =>
      have h : pB (pV t a) (fun x => if kdT t x = 3 ∧ vlT t x = 40 then pB (pD t o x) (fun y => pB (pF t mb k 0 (o + 1) y) (fun z => pB (pM t 44 z) (fun u => pF t mb k 16 (o + 1) u))) else pX 1 x) = some ((0, b), N) := h
      obtain ⟨x, L1, L2, p1, p2, p3⟩ := pB_good h
      show Wv _ false N v
      have i := gV a0.1 a0.2 p1
      by_cases z : kdT t x = 3 ∧ vlT t x = 40
      · rw [if_pos z] at p2
        obtain ⟨y, L3, L4, q1, q2, q3⟩ := pB_good p2
        obtain ⟨w, L5, L6, u1, u2, u3⟩ := pB_good q2
        obtain ⟨d, L7, L8, w1, w2, w3⟩ := pB_good u2
        have j := gDp i.1.1.1 i.1.1.2 q1
        have jw := pl _ _ _ _ _ j.1.1 j.1.2 u1
        have m := gM jw.1.1 jw.1.2 w1
        obtain ⟨N1, N2, e1, e2, e3⟩ := ih 16 (o + 1) d b L8 (by omega) m.1.1 m.1.2 w2 (v + 1) (by omega) (by omega)
        rw [p3, i.2, q3, j.2.1, u3, w3, m.2, e1]
        rw [show v + 1 + 1 = v + 2 by omega] at e3
        exact Wv.if3 (ih 0 (o + 1) y w L5 (by omega) j.1.1 j.1.2 u1 v v0 (by omega)) e2 e3 (by omega)
      · rw [if_neg z] at p2
        exact (gX (by decide) p2).elim
    | i + 14, h, v1 =>
      have h : pB (pF t mb k 6 o a) (fun x => pB (pM t 44 x) (fun y => pB (pF t mb k 6 o y) (fun z => pB (pM t 41 z) (fun u => pE (chC i) u)))) = some ((0, b), N) := h
      have l := lW_14 i
      obtain ⟨x, L1, L2, p1, p2, p3⟩ := pB_good h
      obtain ⟨y, L3, L4, q1, q2, q3⟩ := pB_good p2
      obtain ⟨w, L5, L6, u1, u2, u3⟩ := pB_good q2
      obtain ⟨d, L7, L8, w1, w2, w3⟩ := pB_good u2
      have i1 := pl _ _ _ _ _ a0 ax p1
      have i2 := gM i1.1.1 i1.1.2 q1
      have i3 := pl _ _ _ _ _ i2.1.1 i2.1.2 u1
      have i4 := gM i3.1.1 i3.1.2 w1
      have e := gE w2
      refine ⟨L1, L5, ?_, ih 6 o a x L1 o0 a0 ax p1 v v0 (by omega), ih 6 o y w L5 o0 i2.1.1 i2.1.2 u1 (v + 1) (by omega) (by omega)⟩
      rw [p3, q3, i2.2, u3, w3, i4.2, e.2]
      simp only [List.nil_append]
/-- the steps told as a formula's of a town -/
theorem wf_of {k nt : Nat} {P : Int → Int} (hn : nt = 0 ∨ nt = 6) (a0 : 0 ≤ a ∧ a ≤ t.1) (ax : lxT t a = -1) (h : pF t mb k nt 0 a = some ((0, b), N)) (hb : b ≤ 1600) (hP : ∀ i : Nat, i < N.length → P i = N.getD i 0) : WFp P N.length (if mb = 0 then 25 else 28) ∧ (nt = 0 → (tpA P N.length).1 0 = true) := by
  have w := pF_wf t mb k nt 0 a b N (by omega) a0 ax h 0 (Int.le_refl 0) (by
    rcases hn with z | z <;> rw [z] <;> decide)
  have gd := (pF_gd t mb k nt 0 a _ N a0.1 a0.2 ax h).2.2 rfl
  have gd : a + (N.length : Int) ≤ b := gd
  have q : okLs (if mb = 0 then 25 else 28) N (fun _ => false, 0) ∧ (tpL N (fun _ => false, 0)).2 = 1 ∧ (nt = 0 → (tpL N (fun _ => false, 0)).1 0 = true) := by
    rcases hn with z | z <;> subst z
    · have u := (show Wv _ true N 0 from w) (fun _ => false)
      exact ⟨u.1, u.2.1, fun _ => u.2.2.2 rfl⟩
    · have u := (show Wv _ false N 0 from w) (fun _ => false)
      exact ⟨u.1, u.2.1, fun z => absurd z (by decide)⟩
  have e := okLs_P (mx := if mb = 0 then 25 else 28) (P := P) N 0 (fun i hi => by rw [Nat.zero_add]; exact hP i hi) q.1
  rw [Nat.zero_add] at e
  have e2 : tpA P N.length = tpL N (fun _ => false, 0) := e.2
  refine ⟨⟨⟨by omega, by omega⟩, fun _ => ?_, fun k hk => e.1 k (by omega) (by omega)⟩, fun z => ?_⟩
  · rw [Int.toNat_natCast, e2]; exact q.2.1
  · rw [e2]; exact q.2.2 z
end PWF3
