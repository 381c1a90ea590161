/-! the reference: copies -/
section RCOPY
variable {g : GT} {e : Nat} {s : Sg} {u v b : Int} {T : Tn} {A : Wd} {K : Prop}
theorem kept_loop {Q : Int → Sg → Prop} {m : Int} (u0 : 0 ≤ u) (u1 : u < 23) (v0 : 0 ≤ v) (v1 : v < 23) (hne : u ≠ v) (m0 : 0 ≤ m) (m6 : m ≤ 60) (h9 : s 129 v = m) (hQ : ∀ s' : Sg, Fm u s s' → (∀ o, o ≠ 130 → s' o = s o) → (∀ j, 0 ≤ j → j < 4 * m → s' 130 (240 * u + j) = s 130 (240 * v + j)) → Q 0 s') :
    ∀ (n : Nat) (x : Int) (s0 : Sg), 0 ≤ x → x + n = 4 * m → Fm u s s0 → (∀ o, o ≠ 130 → s0 o = s o) → (∀ j, 0 ≤ j → j < x → s0 130 (240 * u + j) = s 130 (240 * v + j)) → P_X13_copies_162 g e Q s0 u v x := by
  intro n
  induction n with
  | zero =>
    intro x s0 x0 hx hf ho hj
    refine S_X13_copies_162 ?_
    rw [ho 129 (by decide), h9, w32_of (by omega) (by omega)]
    exact ⟨⟨v0, v1⟩, fun _ => hQ s0 hf ho (fun j j0 j1 => hj j j0 (by omega)), fun q => absurd (by omega) q⟩
  | succ n ih =>
    intro x s0 x0 hx hf ho hj
    refine S_X13_copies_162 ?_
    rw [ho 129 (by decide), h9, w32_of (show _ ≤ 4 * m by omega) (by omega), w32_of (show _ ≤ 240 * v by omega) (by omega), w32_of (show _ ≤ 240 * u by omega) (by omega), w32_of (show _ ≤ 240 * v + x by omega) (by omega), w32_of (show _ ≤ 240 * u + x by omega) (by omega), w32_of (show _ ≤ x + 1 by omega) (by omega), hf.2.2.2.2 (240 * v + x) (by omega)]
    refine ⟨⟨v0, v1⟩, fun q => by omega, fun _ => ⟨⟨by omega, by omega⟩, ⟨by omega, by omega⟩, fun s1 e1 => ih (x + 1) s1 (by omega) (by omega) ?_ (fun o o1 => ?_) (fun j j0 j1 => ?_)⟩⟩
    · rw [e1]; exact hf.tr (Fm.up (by omega))
    · rw [e1, ups_at _ o1]; exact ho o o1
    · rw [e1]
      by_cases z : j = x
      · rw [z, ups_eq]
      · rw [ups_k _ (by omega)]; exact hj j j0 (by omega)
theorem copy_loop {Q : Int → Sg → Prop} (u0 : 0 ≤ u) (u1 : u < 23) (v0 : 0 ≤ v) (v1 : v < 23) (hne : u ≠ v) (h9 : 0 ≤ s 129 v ∧ s 129 v ≤ 60) (hQ : ∀ s' : Sg, Fm u s s' → s' 122 u = s 122 v → s' 123 u = s 123 v → s' 129 u = s 129 v → (∀ o k, 124 ≤ o → o ≤ 128 → 0 ≤ k → k < 8 → s' o (8 * u + k) = s o (8 * v + k)) → (∀ j, 0 ≤ j → j < 4 * s 129 v → s' 130 (240 * u + j) = s 130 (240 * v + j)) → Q 0 s') :
    ∀ (n : Nat) (c : Int) (s0 : Sg), 0 ≤ c → c + n = 8 → Fm u s s0 → s0 122 u = s 122 v → s0 123 u = s 123 v → (∀ o k, 124 ≤ o → o ≤ 128 → 0 ≤ k → k < c → s0 o (8 * u + k) = s o (8 * v + k)) → P_X13_copies_26 g e Q s0 u v c := by
  intro n
  induction n with
  | zero =>
    intro c s0 c0 hc hf h22 h23 hk
    refine S_X13_copies_26 ⟨fun _ => ⟨⟨v0, v1⟩, ⟨u0, u1⟩, fun s1 e1 => ?_⟩, fun q => absurd (by omega) q⟩
    rw [hf.2.2.1 129 v (by omega) (by omega)] at e1
    have f1 : Fm u s0 s1 := by rw [e1]; exact Fm.up (by omega)
    have a1 : ∀ o, o ≠ 129 → s1 o = s0 o := fun o ho => by rw [e1, ups_at _ ho]
    have b1 : s1 129 u = s 129 v := by rw [e1, ups_eq]
    refine kept_loop (s := s1) (m := s 129 v) u0 u1 v0 v1 hne h9.1 h9.2 ?_ (fun s' f' ho hj => hQ s' ((hf.tr f1).tr f') ?_ ?_ ?_ (fun o k o1 o2 k0 k1 => ?_) (fun j j0 j1 => ?_)) (4 * s 129 v).toNat 0 s1 (by decide) (by omega) Fm.rf (fun _ _ => rfl) (fun j j0 j1 => by omega)
    · rw [e1, ups_k _ (by omega), hf.2.2.1 129 v (by omega) (by omega)]
    · rw [ho 122 (by decide), a1 122 (by decide)]; exact h22
    · rw [ho 123 (by decide), a1 123 (by decide)]; exact h23
    · rw [ho 129 (by decide)]; exact b1
    · rw [ho o (by omega), a1 o (by omega)]; exact hk o k o1 o2 k0 (by omega)
    · rw [hj j j0 j1, a1 130 (by decide), hf.2.2.2.2 _ (by omega)]
  | succ n ih =>
    intro c s0 c0 hc hf h22 h23 hk
    refine S_X13_copies_26 ?_
    rw [w32_of (show _ ≤ 8 * v by omega) (by omega), w32_of (show _ ≤ 8 * u by omega) (by omega), w32_of (show _ ≤ 8 * v + c by omega) (by omega), w32_of (show _ ≤ 8 * u + c by omega) (by omega), w32_of (show _ ≤ c + 1 by omega) (by omega)]
    refine ⟨fun q => by omega, fun _ => ⟨⟨by omega, by omega⟩, ⟨by omega, by omega⟩, fun s2 e2 => ⟨⟨by omega, by omega⟩, ⟨by omega, by omega⟩, fun s3 e3 => ⟨⟨by omega, by omega⟩, ⟨by omega, by omega⟩, fun s4 e4 => ⟨⟨by omega, by omega⟩, ⟨by omega, by omega⟩, fun s5 e5 => ⟨⟨by omega, by omega⟩, ⟨by omega, by omega⟩, fun s6 e6 => ?_⟩⟩⟩⟩⟩⟩
    have r : ∀ o, 124 ≤ o → o ≤ 128 → s0 o (8 * v + c) = s o (8 * v + c) := fun o o1 o2 => hf.2.2.2.1 o _ o1 o2 (by omega)
    rw [r 124 (by decide) (by decide)] at e2
    have q3 : s2 125 (8 * v + c) = s 125 (8 * v + c) := by rw [e2, ups_o _ (by decide)]; exact r 125 (by decide) (by decide)
    rw [q3] at e3
    have q4 : s3 126 (8 * v + c) = s 126 (8 * v + c) := by rw [e3, ups_o _ (by decide), e2, ups_o _ (by decide)]; exact r 126 (by decide) (by decide)
    rw [q4] at e4
    have q5 : s4 127 (8 * v + c) = s 127 (8 * v + c) := by rw [e4, ups_o _ (by decide), e3, ups_o _ (by decide), e2, ups_o _ (by decide)]; exact r 127 (by decide) (by decide)
    rw [q5] at e5
    have q6 : s5 128 (8 * v + c) = s 128 (8 * v + c) := by rw [e5, ups_o _ (by decide), e4, ups_o _ (by decide), e3, ups_o _ (by decide), e2, ups_o _ (by decide)]; exact r 128 (by decide) (by decide)
    rw [q6] at e6
    have f6 : Fm u s0 s6 := by rw [e6, e5, e4, e3, e2]; exact ((((Fm.up (by omega)).tr (Fm.up (by omega))).tr (Fm.up (by omega))).tr (Fm.up (by omega))).tr (Fm.up (by omega))
    have a6 : ∀ o, ¬ (124 ≤ o ∧ o ≤ 128) → s6 o = s0 o := fun o ho => by rw [e6, ups_at _ (by omega), e5, ups_at _ (by omega), e4, ups_at _ (by omega), e3, ups_at _ (by omega), e2, ups_at _ (by omega)]
    have p6 : ∀ o i, i ≠ 8 * u + c → s6 o i = s0 o i := fun o i hi => by rw [e6, ups_k _ hi, e5, ups_k _ hi, e4, ups_k _ hi, e3, ups_k _ hi, e2, ups_k _ hi]
    refine ih (c + 1) s6 (by omega) (by omega) (hf.tr f6) (by rw [a6 122 (by omega)]; exact h22) (by rw [a6 123 (by omega)]; exact h23) (fun o k o1 o2 k0 k1 => ?_)
    by_cases z : k = c
    · rw [z]
      rcases (show o = 124 ∨ o = 125 ∨ o = 126 ∨ o = 127 ∨ o = 128 by omega) with y | y | y | y | y
      · rw [y, e6, ups_o _ (by decide), e5, ups_o _ (by decide), e4, ups_o _ (by decide), e3, ups_o _ (by decide), e2, ups_eq]
      · rw [y, e6, ups_o _ (by decide), e5, ups_o _ (by decide), e4, ups_o _ (by decide), e3, ups_eq]
      · rw [y, e6, ups_o _ (by decide), e5, ups_o _ (by decide), e4, ups_eq]
      · rw [y, e6, ups_o _ (by decide), e5, ups_eq]
      · rw [y, e6, ups_eq]
    · rw [p6 o _ (by omega)]; exact hk o k o1 o2 k0 (by omega)
theorem R_copies (h : RZ K s v b T A) (u0 : 0 ≤ u) (u1 : u < 23) (hne : u ≠ v) (h60 : K → A 0 9 ≤ 60) : Mw g (e + 1) M_X13_copies [(21, 92), (0, u), (0, v)] s (fun _ s' => RZ K s' u b T A ∧ Fm u s s') := by
  have hv := h.1.2.1
  have b8 := h.1.ok.2.1
  refine S_X13_copies (fun _ _ => ⟨⟨hv.1, hv.2⟩, ⟨u0, u1⟩, fun s1 e1 => ⟨⟨hv.1, hv.2⟩, ⟨u0, u1⟩, fun s2 e2 => ?_⟩⟩)
  have q2 : s1 123 v = s 123 v := by rw [e1, ups_o _ (by decide)]
  rw [q2] at e2
  have hfin : ∀ s' : Sg, Fm u s s' → s' 122 u = s 122 v → s' 123 u = s 123 v → s' 129 u = s 129 v → (∀ o k, 124 ≤ o → o ≤ 128 → 0 ≤ k → k < 8 → s' o (8 * u + k) = s o (8 * v + k)) → (∀ j, 0 ≤ j → j < 4 * s 129 v → s' 130 (240 * u + j) = s 130 (240 * v + j)) → RZ K s' u b T A ∧ Fm u s s' := by
    intro s' f' h22 h23 h29 hk hj
    refine ⟨⟨⟨h.1.1.fv f', ⟨u0, u1⟩, ?_, ?_, ?_, fun c c0 c1 => ?_⟩, fun k => ?_⟩, f'⟩
    · rw [h22]; exact h.1.2.2.1
    · rw [h23]; exact h.1.2.2.2.1
    · rw [h29]; exact h.1.2.2.2.2.1
    · rw [hk 124 c (by decide) (by decide) c0 (by omega), hk 125 c (by decide) (by decide) c0 (by omega), hk 126 c (by decide) (by decide) c0 (by omega), hk 127 c (by decide) (by decide) c0 (by omega), hk 128 c (by decide) (by decide) c0 (by omega)]
      exact h.1.c c0 c1
    · obtain ⟨r1, r2⟩ := h.2 k
      have h60 := h60 k
      refine ⟨by rw [h29]; exact r1, fun j j0 j1 => ?_⟩
      have := r2 j j0 j1
      rw [show 240 * u + 4 * j + 1 = 240 * u + (4 * j + 1) by omega, show 240 * u + 4 * j + 2 = 240 * u + (4 * j + 2) by omega, show 240 * u + 4 * j + 3 = 240 * u + (4 * j + 3) by omega, hj _ (by omega) (by omega), hj _ (by omega) (by omega), hj _ (by omega) (by omega), hj _ (by omega) (by omega)]
      rw [show 240 * v + 4 * j + 1 = 240 * v + (4 * j + 1) by omega, show 240 * v + 4 * j + 2 = 240 * v + (4 * j + 2) by omega, show 240 * v + 4 * j + 3 = 240 * v + (4 * j + 3) by omega] at this
      exact this
  exact copy_loop (s := s) u0 u1 hv.1 hv.2 hne h.1.2.2.2.2.1 hfin 8 0 s2 (by decide) (by decide) (by rw [e2, e1]; exact (Fm.up (by omega)).tr (Fm.up (by omega))) (by rw [e2, ups_o _ (by decide), e1, ups_eq]) (by rw [e2, ups_eq]) (fun o k _ _ k0 k1 => by omega)
/-- to the world for trying -/
theorem R_try (h : RX s 0 b T A) : Mw g (e + 1) M_X13_copies [(21, 92), (0, 1), (0, 0)] s (fun _ s' => RZ False s' 1 b T A ∧ Fm 1 s s') :=
  R_copies (K := False) ⟨h, fun k => k.elim⟩ (by decide) (by decide) (by decide) (fun k => k.elim)
end RCOPY
