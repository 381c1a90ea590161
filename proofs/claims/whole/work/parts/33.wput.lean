/-! the class: what changes a world: put, lift, keep, dropFrom, fall -/
section WPUT
variable {g : GT} {e : Nat} {s : Sg} {th tw : Int} {T : Tn} {A : Wd}
theorem WN.up {a i v : Int} (h : WN T A) (ha : 3 ≤ a) : WN T (ups A a i v) := by
  have e0 : ups A a i v 0 = A 0 := ups_at A (by omega)
  have e1 : ups A a i v 1 = A 1 := ups_at A (by omega)
  have e2 : ups A a i v 2 = A 2 := ups_at A (by omega)
  unfold WN
  rw [e0, e1, e2]
  exact h
/-- the world th with its three counts -/
def CZ (s : Sg) (th tw : Int) (T : Tn) (X : WX) (b : Int) : Prop := CX s th tw T X.1 ∧ s th 10 = X.2.1 ∧ s th 11 = X.2.2 ∧ s th 12 = b
theorem CZ.up {X : WX} {b a i v : Int} (h : CZ s th tw T X b) (h1 : 3 ≤ a) (h2 : a ≤ 6) : CZ (ups s (th + a) i v) th tw T (ups X.1 a i v, X.2) b := by
  obtain ⟨q1, q2, q3, q4⟩ := h
  exact ⟨q1.up (by omega) h2 (q1.n.up h1), by rw [ups_at s (by omega)]; exact q2, by rw [ups_at s (by omega)]; exact q3, by rw [ups_at s (by omega)]; exact q4⟩
theorem Jw_in {a : Int} (h0 : 0 ≤ a) (h6 : a ≤ 6) : Jw th (th + a) := Or.inl ⟨by omega, by omega⟩
theorem Jw_0 : Jw th th := Or.inl ⟨by omega, by omega⟩
abbrev PZ (s : Sg) (th tw : Int) (T : Tn) (X : WX) (b : Int) : Int → Sg → Prop := fun _ s' => CZ s' th tw T X b ∧ Fr (Jw th) s s'
theorem C_put {X : WX} {b c p : Int} (hx : CZ s th tw T X b) (h0 : 0 ≤ c) (h8 : c < 8) (p0 : 0 ≤ p) (p1 : p < 64) (hh : 0 ≤ X.1 5 (p / 4) ∧ X.1 5 (p / 4) ≤ 4) : Mw g (e + 1) M_X11_put [(19, th), (0, c), (0, p)] s (PZ s th tw T (putA X.1 c p, X.2) b) := by
  refine S_X11_put (fun _ _ _ => ⟨⟨h0, h8⟩, fun s1 e1 => ⟨⟨p0, p1⟩, fun s2 e2 => ?_⟩⟩)
  have c1 := hx.up (a := 3) (i := c) (v := p) (by decide) (by decide)
  rw [← e1] at c1
  have c2 := c1.up (a := 4) (i := p) (v := c) (by decide) (by decide)
  rw [← e2] at c2
  rw [td_of p0, w32_of (by omega) (by omega), c2.1.w5]
  have e5 : ups (ups X.1 3 c p) 4 p c 5 (p / 4) = X.1 5 (p / 4) := by rw [ups_o _ (by decide), ups_o _ (by decide)]
  refine ⟨⟨by omega, by omega⟩, ⟨by omega, by omega⟩, fun s3 e3 => ?_⟩
  rw [show ((ups (ups X.1 3 c p, X.2).1 4 p c, (ups X.1 3 c p, X.2).2) : WX).1 5 (p / 4) = X.1 5 (p / 4) from e5, w32_of (by omega) (by omega)] at e3
  have c3 := c2.up (a := 5) (i := p / 4) (v := X.1 5 (p / 4) + 1) (by decide) (by decide)
  rw [← e3] at c3
  refine ⟨c3, ?_⟩
  rw [e3, e2, e1]
  exact ((Fr.up (Jw_in (by decide) (by decide))).tr (Fr.up (Jw_in (by decide) (by decide)))).tr (Fr.up (Jw_in (by decide) (by decide)))
theorem C_lift {X : WX} {b c : Int} (hx : CZ s th tw T X b) (hI : WI0 X.1) (h0 : 0 ≤ c) (h8 : c < 8) (hh : X.1 3 c ≠ -1 → 0 ≤ X.1 5 (X.1 3 c / 4) ∧ X.1 5 (X.1 3 c / 4) ≤ 4) : Mw g (e + 1) M_X11_lift [(19, th), (0, c)] s (PZ s th tw T (liftA X.1 c, X.2) b) := by
  refine S_X11_lift (fun _ _ => ⟨⟨h0, h8⟩, ?_⟩)
  rw [hx.1.w3]
  unfold liftA
  refine ⟨fun h => ?_, fun h => ⟨⟨h0, h8⟩, fun s1 e1 => ?_⟩⟩
  · rw [if_pos h]
    exact ⟨hx, Fr.rf⟩
  have hp := (hI.1 c h0 h8).resolve_left h
  have hh := hh h
  rw [if_neg h]
  generalize X.1 3 c = p at *
  refine ⟨⟨hp.1, hp.2.1⟩, fun s2 e2 => ?_⟩
  have c1 := hx.up (a := 3) (i := c) (v := -1) (by decide) (by decide)
  rw [← e1] at c1
  have c2 := c1.up (a := 4) (i := p) (v := -1) (by decide) (by decide)
  rw [← e2] at c2
  rw [td_of hp.1, w32_of (by omega) (by omega), c2.1.w5]
  have e5 : ups (ups X.1 3 c (-1)) 4 p (-1) 5 (p / 4) = X.1 5 (p / 4) := by rw [ups_o _ (by decide), ups_o _ (by decide)]
  refine ⟨⟨by omega, by omega⟩, ⟨by omega, by omega⟩, fun s3 e3 => ?_⟩
  rw [show ((ups (ups X.1 3 c (-1), X.2).1 4 p (-1), (ups X.1 3 c (-1), X.2).2) : WX).1 5 (p / 4) = X.1 5 (p / 4) from e5, w32_of (by omega) (by omega)] at e3
  have c3 := c2.up (a := 5) (i := p / 4) (v := X.1 5 (p / 4) - 1) (by decide) (by decide)
  rw [← e3] at c3
  refine ⟨c3, ?_⟩
  rw [e3, e2, e1]
  exact ((Fr.up (Jw_in (by decide) (by decide))).tr (Fr.up (Jw_in (by decide) (by decide)))).tr (Fr.up (Jw_in (by decide) (by decide)))
theorem ent_bits {y c w b : Int} (hy : 0 ≤ y ∧ y ≤ 1000) (hc : 0 ≤ c ∧ c < 8) (hw : 0 ≤ w ∧ w < 4) (hb : 0 ≤ b ∧ b < 2) : bOr (bOr (bOr (bShl y 6) (bShl c 3)) (bShl w 1)) b = ent y c w b := by
  have e1 : bShl y 6 = y * 2 ^ 6 := by
    rw [bShl_n hy.1 (by decide) (by decide) (by show y.toNat * 64 < _; omega)]
    show ((y.toNat * 64 : Nat) : Int) = y * 64
    omega
  have e2 : bShl c 3 = c * 2 ^ 3 := by
    rw [bShl_n hc.1 (by decide) (by decide) (by show c.toNat * 8 < _; omega)]
    show ((c.toNat * 8 : Nat) : Int) = c * 8
    omega
  have e3 : bShl w 1 = w * 2 ^ 1 := by
    rw [bShl_n hw.1 (by decide) (by decide) (by show w.toNat * 2 < _; omega)]
    show ((w.toNat * 2 : Nat) : Int) = w * 2
    omega
  rw [e1, e2, e3, bOr_add (n := 6) hy.1 (by omega) (by omega) (by omega) (by decide)]
  rw [show y * 2 ^ 6 + c * 2 ^ 3 = (y * 8 + c) * 2 ^ 3 by omega, bOr_add (n := 3) (by omega) (by omega) (by omega) (by omega) (by decide)]
  rw [show (y * 8 + c) * 2 ^ 3 + w * 2 ^ 1 = (y * 32 + c * 4 + w) * 2 ^ 1 by omega, bOr_add (n := 1) (by omega) (by omega) (by omega) (by omega) (by decide)]
  unfold ent
  omega
theorem WN.up9 {v : Int} (h : WN T A) (h0 : 0 ≤ v) (h1 : v ≤ 60) : WN T (ups A 0 9 v) := by
  obtain ⟨q1, q2, q3, q4, q5⟩ := h
  unfold WN
  rw [ups_k A (by decide), ups_k A (by decide), ups_eq, ups_at A (by decide), ups_at A (by decide)]
  exact ⟨q1, q2, ⟨h0, h1⟩, q4, q5⟩
theorem CZ.up9 {X : WX} {b v : Int} (h : CZ s th tw T X b) (h0 : 0 ≤ v) (h1 : v ≤ 60) : CZ (ups s th 9 v) th tw T (ups X.1 0 9 v, X.2) b := by
  obtain ⟨q1, q2, q3, q4⟩ := h
  exact ⟨q1.up0 (by decide) (q1.n.up9 h0 h1), by rw [ups_k s (by decide)]; exact q2, by rw [ups_k s (by decide)]; exact q3, by rw [ups_k s (by decide)]; exact q4⟩
theorem CZ.cp6 {X : WX} {b : Int} (h : CZ s th tw T X b) : CZ (cpy s (th + 6) 1 (th + 6) 0 59) th tw T (cpy X.1 6 1 6 0 59, X.2) b := by
  obtain ⟨q1, q2, q3, q4⟩ := h
  have et : cpy s (th + 6) 1 (th + 6) 0 59 th = s th := cpy_at s (by omega)
  obtain ⟨p1, p2, p3, p4, p5, p6, p7⟩ := q1
  refine ⟨⟨p1, p2, by rw [et]; exact p3, p4.fr (J := fun o => o = th + 6) (Fr.cp rfl) ?_, ?_, p6, ?_⟩, by rw [et]; exact q2, by rw [et]; exact q3, by rw [et]; exact q4⟩
  · intro o o1 o2 o3; unfold isT at p2; unfold isW at p1; omega
  · refine ⟨by dsimp only; rw [et, cpy_at _ (by decide)]; exact p5.1, by dsimp only; rw [et, cpy_at _ (by decide)]; exact p5.2.1, by dsimp only; rw [et, cpy_at _ (by decide)]; exact p5.2.2.1, fun a h1 h2 => ?_⟩
    have ha := p5.2.2.2 a h1 h2
    have h6 := p5.2.2.2 6 (by decide) (by decide)
    by_cases e6 : a = 6
    · subst e6
      funext k
      unfold cpy
      simp only [h6, true_and]
    · dsimp only
      rw [cpy_at s (by omega), cpy_at X.1 e6]; exact ha
  · show WN T (cpy X.1 6 1 6 0 59)
    unfold WN
    rw [cpy_at _ (by decide), cpy_at _ (by decide), cpy_at _ (by decide)]
    exact p7
theorem C_keep {X : WX} {b c w k : Int} (hx : CZ s th tw T X b) (hc : 0 ≤ c ∧ c < 8) (hw : 0 ≤ w ∧ w < 4) (hk : 0 ≤ k ∧ k < 2) : Mw g (e + 1) M_X11_keep [(19, th), (0, c), (0, w), (0, k)] s (PZ s th tw T (keepA X.1 c w k, X.2) b) := by
  have step : ∀ (s0 : Sg) (X0 : WX), CZ s0 th tw T X0 b → X0.1 0 9 ≤ 59 → X0.1 0 1 = X.1 0 1 → X0.2 = X.2 → Fr (Jw th) s s0 → P_X11_keep_34 g e (PZ s th tw T (ups (ups X0.1 6 (X0.1 0 9) (ent (X.1 0 1) c w k)) 0 9 (X0.1 0 9 + 1), X.2) b) s0 th c w k := by
    intro s0 X0 h0 h9 hy h2 hf
    have b9 := h0.1.n.2.2.1
    have by1 := h0.1.n.1
    refine S_X11_keep_34 ?_
    rw [h0.1.kc, h0.1.y, ent_bits by1 hc hw hk]
    refine ⟨⟨by omega, by omega⟩, fun s1 e1 s2 e2 => ?_⟩
    have c1 := h0.up (a := 6) (i := X0.1 0 9) (v := ent (X0.1 0 1) c w k) (by decide) (by decide)
    rw [← e1] at c1
    have e9 : s1 th 9 = X0.1 0 9 := by rw [c1.1.kc]; dsimp only; rw [ups_o _ (by decide)]
    rw [e9, w32_of (by omega) (by omega)] at e2
    have c2 := c1.up9 (v := X0.1 0 9 + 1) (by omega) (by omega)
    rw [← e2] at c2
    refine ⟨by rw [← hy, ← h2]; exact c2, ?_⟩
    rw [e2, e1]
    exact (hf.tr (Fr.up (Jw_in (by decide) (by decide)))).tr (Fr.up Jw_0)
  have b9 := hx.1.n.2.2.1
  refine S_X11_keep (fun _ _ _ _ => ?_)
  rw [hx.1.kc]
  unfold keepA slipA
  refine ⟨fun h => ?_, fun h s1 e1 s2 e2 => ?_⟩
  · rw [if_neg h]
    exact step s X hx (by omega) rfl rfl Fr.rf
  · rw [if_pos h]
    have c1 := hx.cp6
    rw [← e1] at c1
    have e9 : s1 th 9 = X.1 0 9 := by rw [c1.1.kc]; show cpy X.1 6 1 6 0 59 0 9 = _; rw [cpy_at _ (by decide)]
    rw [e9, h, w32_of (by decide) (by decide)] at e2
    have c2 := c1.up9 (v := 60 - 1) (by decide) (by decide)
    rw [← e2] at c2
    refine step s2 _ c2 ?_ ?_ rfl ?_
    · dsimp only; rw [ups_eq]; decide
    · dsimp only; rw [ups_k _ (by decide), cpy_at _ (by decide)]
    · rw [e2, e1]
      exact (Fr.cp (Jw_in (by decide) (by decide))).tr (Fr.up Jw_0)
-- WI0 under put and lift
theorem liftA_0 (A : Wd) (c : Int) : liftA A c 0 = A 0 := by unfold liftA; split; rfl; rw [ups_at _ (by decide), ups_at _ (by decide), ups_at _ (by decide)]
theorem liftA_6 (A : Wd) (c : Int) : liftA A c 6 = A 6 := by unfold liftA; split; rfl; rw [ups_at _ (by decide), ups_at _ (by decide), ups_at _ (by decide)]
theorem liftA_1 (A : Wd) (c : Int) : liftA A c 1 = A 1 := by unfold liftA; split; rfl; rw [ups_at _ (by decide), ups_at _ (by decide), ups_at _ (by decide)]
theorem liftA_2 (A : Wd) (c : Int) : liftA A c 2 = A 2 := by unfold liftA; split; rfl; rw [ups_at _ (by decide), ups_at _ (by decide), ups_at _ (by decide)]
theorem liftA_3 (A : Wd) (c k : Int) : liftA A c 3 k = if k = c then -1 else A 3 k := by
  unfold liftA
  split
  · split
    · rename_i h1 h2; rw [h2, h1]
    · rfl
  · rw [ups_at _ (by decide), ups_at _ (by decide)]
    split
    · rename_i h; rw [h, ups_eq]
    · rename_i h; rw [ups_k _ h]
theorem liftA_4 (A : Wd) (c k : Int) : liftA A c 4 k = if A 3 c ≠ -1 ∧ k = A 3 c then -1 else A 4 k := by
  unfold liftA
  split
  · rename_i h
    rw [if_neg (fun q => q.1 h)]
  · rename_i h
    rw [ups_at _ (by decide)]
    by_cases hk : k = A 3 c
    · rw [if_pos ⟨h, hk⟩, hk, ups_eq]
    · rw [if_neg (fun q => hk q.2), ups_k _ hk, ups_o _ (by decide)]
theorem liftA_5 (A : Wd) (c k : Int) : liftA A c 5 k = if A 3 c ≠ -1 ∧ k = A 3 c / 4 then A 5 k - 1 else A 5 k := by
  unfold liftA
  split
  · rename_i h
    rw [if_neg (fun q => q.1 h)]
  · rename_i h
    by_cases hk : k = A 3 c / 4
    · rw [if_pos ⟨h, hk⟩, hk, ups_eq]
    · rw [if_neg (fun q => hk q.2), ups_k _ hk, ups_o _ (by decide), ups_o _ (by decide)]
theorem liftA_I {c : Int} (hI : WI0 A) (h0 : 0 ≤ c) (h8 : c < 8) : WI0 (liftA A c) := by
  refine ⟨fun k k0 k8 => ?_, fun p p0 p8 => ?_⟩
  · rw [liftA_3]
    split
    · left; rfl
    · rename_i hk
      rcases hI.1 k k0 k8 with h | ⟨h1, h2, h3⟩
      · left; exact h
      · right
        refine ⟨h1, h2, ?_⟩
        rw [liftA_4, if_neg]
        · exact h3
        · rintro ⟨q1, q2⟩
          rcases hI.1 c h0 h8 with h | ⟨_, _, h6⟩
          · exact q1 h
          · rw [← q2, h3] at h6; exact hk h6
  · rw [liftA_4]
    split
    · left; rfl
    · rename_i hq
      rcases hI.2 p p0 p8 with h | ⟨h1, h2, h3⟩
      · left; exact h
      · right
        refine ⟨h1, h2, ?_⟩
        rw [liftA_3, if_neg]
        · exact h3
        · intro e
          apply hq
          rw [← e, h3]
          exact ⟨by omega, rfl⟩
theorem putA_0 (A : Wd) (c p : Int) : putA A c p 0 = A 0 := by unfold putA; rw [ups_at _ (by decide), ups_at _ (by decide), ups_at _ (by decide)]
theorem putA_1 (A : Wd) (c p : Int) : putA A c p 1 = A 1 := by unfold putA; rw [ups_at _ (by decide), ups_at _ (by decide), ups_at _ (by decide)]
theorem putA_2 (A : Wd) (c p : Int) : putA A c p 2 = A 2 := by unfold putA; rw [ups_at _ (by decide), ups_at _ (by decide), ups_at _ (by decide)]
theorem putA_6 (A : Wd) (c p : Int) : putA A c p 6 = A 6 := by unfold putA; rw [ups_at _ (by decide), ups_at _ (by decide), ups_at _ (by decide)]
theorem putA_3 (A : Wd) (c p k : Int) : putA A c p 3 k = if k = c then p else A 3 k := by
  unfold putA
  rw [ups_at _ (by decide), ups_at _ (by decide)]
  split
  · rename_i h; rw [h, ups_eq]
  · rename_i h; rw [ups_k _ h]
theorem putA_4 (A : Wd) (c p k : Int) : putA A c p 4 k = if k = p then c else A 4 k := by
  unfold putA
  rw [ups_at _ (by decide)]
  split
  · rename_i h; rw [h, ups_eq]
  · rename_i h; rw [ups_k _ h, ups_o _ (by decide)]
theorem putA_5 (A : Wd) (c p k : Int) : putA A c p 5 k = if k = p / 4 then A 5 k + 1 else A 5 k := by
  unfold putA
  split
  · rename_i h; rw [h, ups_eq]
  · rename_i h; rw [ups_k _ h, ups_o _ (by decide), ups_o _ (by decide)]
theorem slipA_at (A : Wd) {a : Int} (h : a ≠ 0) (h6 : a ≠ 6) : slipA A a = A a := by unfold slipA; split; rw [ups_at _ h, cpy_at _ h6]; rfl
theorem slipA_01 (A : Wd) {k : Int} (h : k ≠ 9) : slipA A 0 k = A 0 k := by unfold slipA; split; rw [ups_k _ h, cpy_at _ (by decide)]; rfl
theorem keepA_at (A : Wd) (c w b : Int) {a : Int} (h : a ≠ 0) (h6 : a ≠ 6) : keepA A c w b a = A a := by unfold keepA; rw [ups_at _ h, ups_at _ h6, slipA_at A h h6]
theorem keepA_01 (A : Wd) (c w b : Int) {k : Int} (h : k ≠ 9) : keepA A c w b 0 k = A 0 k := by unfold keepA; rw [ups_k _ h, ups_o _ (by decide), slipA_01 A h]
theorem keepA_9 (A : Wd) (c w b : Int) : keepA A c w b 0 9 = if A 0 9 = 60 then 60 else A 0 9 + 1 := by
  unfold keepA
  rw [ups_eq]
  unfold slipA
  split
  · rw [ups_eq]; rfl
  · rfl
end WPUT
