/-! the reference: frames, writesDown -/
def Fm (v : Int) (s s2 : Sg) : Prop :=
  (∀ o, (o < 122 ∨ 132 < o) → o ≠ 92 → s2 o = s o) ∧ s2 92 = s 92 ∧
  (∀ o i, (o = 122 ∨ o = 123 ∨ o = 129) → i ≠ v → s2 o i = s o i) ∧ (∀ o i, 124 ≤ o → o ≤ 128 → (i < 8 * v ∨ 8 * v + 8 ≤ i) → s2 o i = s o i) ∧ (∀ i, (i < 240 * v ∨ 240 * v + 240 ≤ i) → s2 130 i = s 130 i)
def RK (s : Sg) (v : Int) (A : Wd) : Prop := s 129 v = A 0 9 ∧ ∀ k, 0 ≤ k → k < A 0 9 → (0 ≤ s 130 (240 * v + 4 * k) ∧ s 130 (240 * v + 4 * k) ≤ 1000) ∧ (0 ≤ s 130 (240 * v + 4 * k + 1) ∧ s 130 (240 * v + 4 * k + 1) < 8) ∧ (0 ≤ s 130 (240 * v + 4 * k + 2) ∧ s 130 (240 * v + 4 * k + 2) < 4) ∧ (0 ≤ s 130 (240 * v + 4 * k + 3) ∧ s 130 (240 * v + 4 * k + 3) < 2) ∧
  A 6 k = ent (s 130 (240 * v + 4 * k)) (s 130 (240 * v + 4 * k + 1)) (s 130 (240 * v + 4 * k + 2)) (s 130 (240 * v + 4 * k + 3))
def RZ (K : Prop) (s : Sg) (v b : Int) (T : Tn) (A : Wd) : Prop := RX s v b T A ∧ (K → RK s v A)
section RKEEP
variable {g : GT} {e : Nat} {s : Sg} {v b : Int} {T : Tn} {A : Wd} {K : Prop}
theorem Fm.rf : Fm v s s := ⟨fun _ _ _ => rfl, rfl, fun _ _ _ _ => rfl, fun _ _ _ _ _ => rfl, fun _ _ => rfl⟩
theorem Fm.tr {s2 s3 : Sg} (h : Fm v s s2) (h2 : Fm v s2 s3) : Fm v s s3 :=
  ⟨fun o o1 o2 => (h2.1 o o1 o2).trans (h.1 o o1 o2), h2.2.1.trans h.2.1, fun o i o1 i1 => (h2.2.2.1 o i o1 i1).trans (h.2.2.1 o i o1 i1), fun o i o1 o2 i1 => (h2.2.2.2.1 o i o1 o2 i1).trans (h.2.2.2.1 o i o1 o2 i1), fun i i1 => (h2.2.2.2.2 i i1).trans (h.2.2.2.2 i i1)⟩
theorem Fm.up {o i x : Int} (h : (o = 131 ∨ o = 132) ∨ ((o = 122 ∨ o = 123 ∨ o = 129) ∧ i = v) ∨ (124 ≤ o ∧ o ≤ 128 ∧ 8 * v ≤ i ∧ i < 8 * v + 8) ∨ (o = 130 ∧ 240 * v ≤ i ∧ i < 240 * v + 240)) : Fm v s (ups s o i x) := by
  refine ⟨fun o2 h1 h2 => ups_at _ (by omega), ups_at _ (by omega), fun o2 i2 h1 h2 => ?_, fun o2 i2 h1 h2 h3 => ?_, fun i2 h1 => ?_⟩
  all_goals
    unfold ups
    rw [if_neg]
    omega
theorem Fm.jm {s2 : Sg} (h : Fr Jm s s2) : Fm v s s2 :=
  ⟨fun o o1 _ => h o (by unfold Jm; omega), h 92 (by unfold Jm; omega), fun o i o1 _ => by rw [h o (by unfold Jm; omega)], fun o i o1 o2 _ => by rw [h o (by unfold Jm; omega)], fun i _ => by rw [h 130 (by unfold Jm; omega)]⟩
theorem RB.fv {s2 : Sg} (h : RB s b T) (hf : Fm v s s2) : RB s2 b T := by
  refine ⟨by rw [hf.2.1]; exact h.1, h.2.1, h.2.2.1.fr (J := fun o => 112 ≤ o ∨ o ≤ 93) (fun o ho => hf.1 o (by omega) (by omega)) (fun o o1 o2 => by omega), h.2.2.2⟩
/-- another world stays -/
theorem RX.fo {s2 : Sg} {u : Int} (h : RX s u b T A) (hf : Fm v s s2) (hne : u ≠ v) (hv : 0 ≤ v) : RX s2 u b T A := by
  obtain ⟨h1, h2, h3, h4, h5, h6⟩ := h
  have b8 := h1.2.2.2.1.2.1
  refine ⟨h1.fv hf, h2, ?_, ?_, ?_, fun c c0 c1 => ?_⟩
  · rw [hf.2.2.1 122 u (by omega) hne]; exact h3
  · rw [hf.2.2.1 123 u (by omega) hne]; exact h4
  · rw [hf.2.2.1 129 u (by omega) hne]; exact h5
  · have := h6 c c0 c1
    rw [hf.2.2.2.1 124 _ (by decide) (by decide) (by omega), hf.2.2.2.1 125 _ (by decide) (by decide) (by omega), hf.2.2.2.1 126 _ (by decide) (by decide) (by omega), hf.2.2.2.1 127 _ (by decide) (by decide) (by omega), hf.2.2.2.1 128 _ (by decide) (by decide) (by omega)]
    exact this
theorem RK.fo {s2 : Sg} {u : Int} (h : RK s u A) (hf : Fm v s s2) (hne : u ≠ v) (h60 : A 0 9 ≤ 60) : RK s2 u A := by
  refine ⟨by rw [hf.2.2.1 129 u (by omega) hne]; exact h.1, fun k k0 k1 => ?_⟩
  rw [hf.2.2.2.2 _ (by omega), hf.2.2.2.2 _ (by omega), hf.2.2.2.2 _ (by omega), hf.2.2.2.2 _ (by omega)]
  exact h.2 k k0 k1
theorem RW.eq {B : Wd} (h : RW s v T A) (h1 : B 0 1 = A 0 1) (h2 : B 0 2 = A 0 2) (h3 : ∀ c, 0 ≤ c → c < T 1 1 → B 1 c = A 1 c ∧ B 2 c = A 2 c ∧ B 3 c = A 3 c) : RW s v T B := by
  refine ⟨by rw [h1]; exact h.1, by rw [h2]; exact h.2.1, h.2.2.1, fun c c0 c1 => ?_⟩
  obtain ⟨e1, e2, e3⟩ := h3 c c0 c1
  rw [e1, e2, e3]
  exact h.2.2.2 c c0 c1
theorem RK.eq {B : Wd} (h : RK s v A) (h9 : B 0 9 = A 0 9) (h6 : B 6 = A 6) : RK s v B := by
  unfold RK
  rw [h9, h6]
  exact h
theorem shift_loop {Q : Int → Sg → Prop} {c w k : Int} (v0 : 0 ≤ v) (v1 : v < 23) (h129 : s 129 v = 60) (hn : ∀ s1 : Sg, (∀ i, 240 * v ≤ i → i < 240 * v + 236 → s1 130 i = s 130 (i + 4)) → Fm v s s1 → (∀ o, o ≠ 129 → o ≠ 130 → s1 o = s o) → s1 129 v = 59 → P_X13_writesDown_66 g e Q s1 v c w k) :
    ∀ (n : Nat) (x : Int) (s0 : Sg), 240 * v ≤ x → x + n = 240 * v + 236 → (∀ i, 240 * v ≤ i → i < x → s0 130 i = s 130 (i + 4)) → (∀ i, x ≤ i → s0 130 i = s 130 i) → Fm v s s0 → (∀ o, o ≠ 130 → s0 o = s o) → P_X13_writesDown_18 g e Q s0 v c w k x := by
  intro n
  induction n with
  | zero =>
    intro x s0 x0 hx h1 h2 hf ho
    refine S_X13_writesDown_18 ?_
    rw [w32_of (show _ ≤ 240 * v by omega) (by omega), w32_of (show _ ≤ 240 * v + 240 by omega) (by omega), w32_of (show _ ≤ 240 * v + 240 - 4 by omega) (by omega), ho 129 (by decide), h129]
    refine ⟨fun _ => ⟨⟨v0, v1⟩, ⟨v0, v1⟩, fun s1 e1 => hn s1 (fun i i0 i1 => ?_) ?_ (fun o o1 o2 => ?_) ?_⟩, fun q => absurd (by omega) q⟩
    · rw [e1, ups_at _ (by decide)]; exact h1 i i0 (by omega)
    · rw [e1]; exact hf.tr (Fm.up (by omega))
    · rw [e1, ups_at _ o1]; exact ho o o2
    · rw [e1, ups_eq]; rfl
  | succ n ih =>
    intro x s0 x0 hx h1 h2 hf ho
    refine S_X13_writesDown_18 ?_
    rw [w32_of (show _ ≤ 240 * v by omega) (by omega), w32_of (show _ ≤ 240 * v + 240 by omega) (by omega), w32_of (show _ ≤ 240 * v + 240 - 4 by omega) (by omega), w32_of (show _ ≤ x + 4 by omega) (by omega), w32_of (show _ ≤ x + 1 by omega) (by omega)]
    refine ⟨fun q => by omega, fun _ => ⟨⟨by omega, by omega⟩, ⟨by omega, by omega⟩, fun s2 e2 => ih (x + 1) s2 (by omega) (by omega) (fun i i0 i1 => ?_) (fun i i0 => ?_) ?_ (fun o o1 => ?_)⟩⟩
    · rw [e2]
      by_cases z : i = x
      · rw [z, ups_eq, h2 (x + 4) (by omega)]
      · rw [ups_k _ z]; exact h1 i i0 (by omega)
    · rw [e2, ups_k _ (by omega)]; exact h2 i (by omega)
    · rw [e2]; exact hf.tr (Fm.up (by omega))
    · rw [e2, ups_at _ o1]; exact ho o o1
theorem R_writesDown {c w k : Int} (v0 : 0 ≤ v) (v1 : v < 23) (h60 : 0 ≤ s 129 v ∧ s 129 v ≤ 60) (hy : 0 ≤ s 122 v ∧ s 122 v ≤ 1000) (hc : 0 ≤ c ∧ c < 8) (hw : 0 ≤ w ∧ w < 4) (hk : 0 ≤ k ∧ k < 2) :
    Mw g (e + 1) M_X13_writesDown [(21, 92), (0, v), (0, c), (0, w), (0, k)] s (fun _ s' => Fm v s s' ∧ (∀ o, o ≠ 129 → o ≠ 130 → s' o = s o) ∧ (0 ≤ s' 129 v ∧ s' 129 v ≤ 60) ∧ ∀ A : Wd, A 0 1 = s 122 v → RK s v A → RK s' v (keepA A c w k)) := by
  have h66 : ∀ s1 : Sg, Fm v s s1 → (∀ o, o ≠ 129 → o ≠ 130 → s1 o = s o) → (0 ≤ s1 129 v ∧ s1 129 v ≤ 59) → (∀ A : Wd, RK s v A → RK s1 v (slipA A)) → P_X13_writesDown_66 g e (fun _ s' => Fm v s s' ∧ (∀ o, o ≠ 129 → o ≠ 130 → s' o = s o) ∧ (0 ≤ s' 129 v ∧ s' 129 v ≤ 60) ∧ ∀ A : Wd, A 0 1 = s 122 v → RK s v A → RK s' v (keepA A c w k)) s1 v c w k := by
    intro s1 hf ho hm hr
    refine S_X13_writesDown_66 ?_
    rw [w32_of (show _ ≤ 60 * v by omega) (by omega), w32_of (show _ ≤ 60 * v + s1 129 v by omega) (by omega), w32_of (show _ ≤ 4 * (60 * v + s1 129 v) by omega) (by omega), w32_of (show _ ≤ 4 * (60 * v + s1 129 v) + 1 by omega) (by omega), w32_of (show _ ≤ 4 * (60 * v + s1 129 v) + 2 by omega) (by omega), w32_of (show _ ≤ 4 * (60 * v + s1 129 v) + 3 by omega) (by omega), ho 122 (by decide) (by decide)]
    refine ⟨⟨v0, v1⟩, ⟨v0, v1⟩, ⟨by omega, by omega⟩, fun s2 e2 => ⟨⟨by omega, by omega⟩, fun s3 e3 => ⟨⟨by omega, by omega⟩, fun s4 e4 => ⟨⟨by omega, by omega⟩, fun s5 e5 => ⟨⟨v0, v1⟩, ⟨v0, v1⟩, fun s6 e6 => ?_⟩⟩⟩⟩⟩
    have e129 : s5 129 v = s1 129 v := by rw [e5, ups_o _ (by decide), e4, ups_o _ (by decide), e3, ups_o _ (by decide), e2, ups_o _ (by decide)]
    rw [e129, w32_of (by omega) (by omega)] at e6
    have f6 : Fm v s1 s6 := by
      rw [e6, e5, e4, e3, e2]
      exact ((((Fm.up (by omega)).tr (Fm.up (by omega))).tr (Fm.up (by omega))).tr (Fm.up (by omega))).tr (Fm.up (by omega))
    have at6 : ∀ i, s6 130 i = if i = 4 * (60 * v + s1 129 v) then s 122 v else if i = 4 * (60 * v + s1 129 v) + 1 then c else if i = 4 * (60 * v + s1 129 v) + 2 then w else if i = 4 * (60 * v + s1 129 v) + 3 then k else s1 130 i := by
      intro i
      rw [e6, ups_o _ (by decide), e5, e4, e3, e2]
      unfold ups
      by_cases z0 : i = 4 * (60 * v + s1 129 v)
      · rw [if_neg (by omega), if_neg (by omega), if_neg (by omega), if_pos ⟨rfl, z0⟩, if_pos z0]
      · rw [if_neg z0]
        by_cases z1 : i = 4 * (60 * v + s1 129 v) + 1
        · rw [if_neg (by omega), if_neg (by omega), if_pos ⟨rfl, z1⟩, if_pos z1]
        · rw [if_neg z1]
          by_cases z2 : i = 4 * (60 * v + s1 129 v) + 2
          · rw [if_neg (by omega), if_pos ⟨rfl, z2⟩, if_pos z2]
          · rw [if_neg z2]
            by_cases z3 : i = 4 * (60 * v + s1 129 v) + 3
            · rw [if_pos ⟨rfl, z3⟩, if_pos z3]
            · rw [if_neg z3, if_neg (by omega), if_neg (by omega), if_neg (by omega), if_neg (by omega)]
    have m6 : s6 129 v = s1 129 v + 1 := by rw [e6, ups_eq]
    refine ⟨hf.tr f6, fun o o1 o2 => ?_, by omega, fun A ha hA => ?_⟩
    · rw [e6, ups_at _ o1, e5, ups_at _ o2, e4, ups_at _ o2, e3, ups_at _ o2, e2, ups_at _ o2]; exact ho o o1 o2
    · obtain ⟨r1, r2⟩ := hr A hA
      unfold keepA
      refine ⟨by rw [ups_eq, m6, r1], fun j j0 j1 => ?_⟩
      rw [ups_eq] at j1
      rw [ups_o _ (by decide), at6, at6, at6, at6]
      by_cases z : j = slipA A 0 9
      · rw [if_pos (by omega), if_neg (by omega), if_pos (by omega), if_neg (by omega), if_neg (by omega), if_pos (by omega), if_neg (by omega), if_neg (by omega), if_neg (by omega), if_pos (by omega), z, ups_eq, ha]
        exact ⟨hy, hc, hw, hk, rfl⟩
      · rw [if_neg (by omega), if_neg (by omega), if_neg (by omega), if_neg (by omega), if_neg (by omega), if_neg (by omega), if_neg (by omega), if_neg (by omega), if_neg (by omega), if_neg (by omega), if_neg (by omega), if_neg (by omega), if_neg (by omega), if_neg (by omega), if_neg (by omega), if_neg (by omega), ups_k _ z]
        exact r2 j j0 (by omega)
  refine S_X13_writesDown (fun _ _ _ _ => ⟨⟨v0, v1⟩, fun q => h66 s Fm.rf (fun _ _ _ => rfl) (by omega) (fun A hA => ?_), fun q => ?_⟩)
  · unfold slipA
    rw [if_neg (by rw [← hA.1]; exact q)]
    exact hA
  · rw [w32_of (by omega) (by omega)]
    refine shift_loop v0 v1 q (fun s1 h1 hf ho h9 => h66 s1 hf ho (by omega) (fun A hA => ?_)) 236 (240 * v) s (by omega) (by omega) (fun i i0 i1 => by omega) (fun i _ => rfl) Fm.rf (fun _ _ => rfl)
    have a9 : A 0 9 = 60 := by rw [← hA.1]; exact q
    unfold slipA
    rw [if_pos a9]
    refine ⟨by rw [ups_eq]; exact h9, fun j j0 j1 => ?_⟩
    rw [ups_eq] at j1
    rw [ups_o _ (by decide), h1 _ (by omega) (by omega), h1 _ (by omega) (by omega), h1 _ (by omega) (by omega), h1 _ (by omega) (by omega)]
    have := hA.2 (j + 1) (by omega) (by omega)
    rw [show 240 * v + 4 * (j + 1) = 240 * v + 4 * j + 4 by omega] at this
    rw [show 240 * v + 4 * j + 1 + 4 = 240 * v + 4 * j + 4 + 1 by omega, show 240 * v + 4 * j + 2 + 4 = 240 * v + 4 * j + 4 + 2 by omega, show 240 * v + 4 * j + 3 + 4 = 240 * v + 4 * j + 4 + 3 by omega]
    have e6 : cpy A 6 1 6 0 59 6 j = A 6 (j + 1) := by
      unfold cpy
      rw [if_pos ⟨rfl, by omega, by omega⟩, show 1 + (j - 0) = j + 1 by omega]
    rw [e6]
    exact this
end RKEEP
