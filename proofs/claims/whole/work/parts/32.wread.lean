/-! the class: what a world answers (reading alone) -/
/-- the world th of the town tw is A, T -/
def CX (s : Sg) (th tw : Int) (T : Tn) (A : Wd) : Prop := isW th ∧ isT tw ∧ s th 0 = tw ∧ CT s tw T ∧ CW s th A ∧ TOK T ∧ WN T A
section CXS
variable {s : Sg} {th tw : Int} {T : Tn} {A : Wd}
theorem CX.tp (h : CX s th tw T A) : s th 0 = tw := h.2.2.1
theorem CX.t0 (h : CX s th tw T A) : s tw = T 0 := h.2.2.2.1.1
theorem CX.t1 (h : CX s th tw T A) : s (tw + 1) = T 1 := h.2.2.2.1.2 1 (by decide) (by decide) (by decide)
theorem CX.t2 (h : CX s th tw T A) : s (tw + 2) = T 2 := h.2.2.2.1.2 2 (by decide) (by decide) (by decide)
theorem CX.t3 (h : CX s th tw T A) : s (tw + 3) = T 3 := h.2.2.2.1.2 3 (by decide) (by decide) (by decide)
theorem CX.t4 (h : CX s th tw T A) : s (tw + 4) = T 4 := h.2.2.2.1.2 4 (by decide) (by decide) (by decide)
theorem CX.t5 (h : CX s th tw T A) : s (tw + 5) = T 5 := h.2.2.2.1.2 5 (by decide) (by decide) (by decide)
theorem CX.t6 (h : CX s th tw T A) : s (tw + 6) = T 6 := h.2.2.2.1.2 6 (by decide) (by decide) (by decide)
theorem CX.t7 (h : CX s th tw T A) : s (tw + 7) = T 7 := h.2.2.2.1.2 7 (by decide) (by decide) (by decide)
theorem CX.t8 (h : CX s th tw T A) : s (tw + 8) = T 8 := h.2.2.2.1.2 8 (by decide) (by decide) (by decide)
theorem CX.t9 (h : CX s th tw T A) : s (tw + 9) = T 9 := h.2.2.2.1.2 9 (by decide) (by decide) (by decide)
theorem CX.t10 (h : CX s th tw T A) : s (tw + 10) = T 10 := h.2.2.2.1.2 10 (by decide) (by decide) (by decide)
theorem CX.t11 (h : CX s th tw T A) : s (tw + 11) = T 11 := h.2.2.2.1.2 11 (by decide) (by decide) (by decide)
theorem CX.t12 (h : CX s th tw T A) : s (tw + 12) = T 12 := h.2.2.2.1.2 12 (by decide) (by decide) (by decide)
theorem CX.t13 (h : CX s th tw T A) : s (tw + 13) = T 13 := h.2.2.2.1.2 13 (by decide) (by decide) (by decide)
theorem CX.t14 (h : CX s th tw T A) : s (tw + 14) = T 14 := h.2.2.2.1.2 14 (by decide) (by decide) (by decide)
theorem CX.t15 (h : CX s th tw T A) : s (tw + 15) = T 15 := h.2.2.2.1.2 15 (by decide) (by decide) (by decide)
theorem CX.t17 (h : CX s th tw T A) : s (tw + 17) = T 17 := h.2.2.2.1.2 17 (by decide) (by decide) (by decide)
theorem CX.t18 (h : CX s th tw T A) : s (tw + 18) = T 18 := h.2.2.2.1.2 18 (by decide) (by decide) (by decide)
theorem CX.y (h : CX s th tw T A) : s th 1 = A 0 1 := h.2.2.2.2.1.1
theorem CX.en (h : CX s th tw T A) : s th 2 = A 0 2 := h.2.2.2.2.1.2.1
theorem CX.kc (h : CX s th tw T A) : s th 9 = A 0 9 := h.2.2.2.2.1.2.2.1
theorem CX.w1 (h : CX s th tw T A) : s (th + 1) = A 1 := h.2.2.2.2.1.2.2.2 1 (by decide) (by decide)
theorem CX.w2 (h : CX s th tw T A) : s (th + 2) = A 2 := h.2.2.2.2.1.2.2.2 2 (by decide) (by decide)
theorem CX.w3 (h : CX s th tw T A) : s (th + 3) = A 3 := h.2.2.2.2.1.2.2.2 3 (by decide) (by decide)
theorem CX.w4 (h : CX s th tw T A) : s (th + 4) = A 4 := h.2.2.2.2.1.2.2.2 4 (by decide) (by decide)
theorem CX.w5 (h : CX s th tw T A) : s (th + 5) = A 5 := h.2.2.2.2.1.2.2.2 5 (by decide) (by decide)
theorem CX.w6 (h : CX s th tw T A) : s (th + 6) = A 6 := h.2.2.2.2.1.2.2.2 6 (by decide) (by decide)
theorem CX.ok (h : CX s th tw T A) : TOK T := h.2.2.2.2.2.1
theorem CX.n (h : CX s th tw T A) : WN T A := h.2.2.2.2.2.2
theorem CX.dis (h : CX s th tw T A) : (th = 48 ∨ th = 58) ∧ (tw = 4 ∨ tw = 25) := ⟨h.1, h.2.1⟩
/-- what a working of formulas leaves -/
theorem CX.jk {s2 : Sg} (h : CX s th tw T A) (hf : Fr Jk s s2) : CX s2 th tw T A := by
  obtain ⟨h1, h2, h3, h4, h5, h6, h7⟩ := h
  refine ⟨h1, h2, ?_, h4.fr hf ?_, h5.fr hf ?_, h6, h7⟩
  · rw [hf th (by unfold Jk; unfold isW at h1; omega)]; exact h3
  · intro o o1 o2 o3; unfold Jk; unfold isT at h2; omega
  · intro o o1 o2; unfold Jk; unfold isW at h1; omega
/-- a place of the world is written -/
theorem CX.up {a i v : Int} (h : CX s th tw T A) (h1 : 1 ≤ a) (h2 : a ≤ 6) (hn : WN T (ups A a i v)) : CX (ups s (th + a) i v) th tw T (ups A a i v) := by
  obtain ⟨q1, q2, q3, q4, q5, q6, q7⟩ := h
  refine ⟨q1, q2, ?_, q4.fr (J := fun o => o = th + a) (Fr.up rfl) ?_, q5.up h1 h2, q6, hn⟩
  · rw [ups_o s (by omega)]; exact q3
  · intro o o1 o2 o3; unfold isT at q2; unfold isW at q1; omega
theorem CX.up0 {i v : Int} (h : CX s th tw T A) (h1 : i ≠ 0) (hn : WN T (ups A 0 i v)) : CX (ups s th i v) th tw T (ups A 0 i v) := by
  obtain ⟨q1, q2, q3, q4, q5, q6, q7⟩ := h
  refine ⟨q1, q2, ?_, q4.fr (J := fun o => o = th) (Fr.up rfl) ?_, q5.up0, q6, hn⟩
  · rw [ups_k s (by omega)]; exact q3
  · intro o o1 o2 o3; unfold isT at q2; unfold isW at q1; omega
theorem CX.skip {i v : Int} (h : CX s th tw T A) (h0 : i ≠ 0) (h1 : i ≠ 1) (h2 : i ≠ 2) (h9 : i ≠ 9) : CX (ups s th i v) th tw T A := by
  obtain ⟨q1, q2, q3, q4, q5, q6, q7⟩ := h
  refine ⟨q1, q2, ?_, q4.fr (J := fun o => o = th) (Fr.up rfl) ?_, q5.skip h1 h2 h9, q6, q7⟩
  · rw [ups_k s (by omega)]; exact q3
  · intro o o1 o2 o3; unfold isT at q2; unfold isW at q1; omega
end CXS
section WREAD
variable {g : GT} {e : Nat} {s : Sg} {th tw : Int} {T : Tn} {A : Wd}
theorem C_childCount (hx : CX s th tw T A) : Mw g (e + 1) M_X9_childCount [(18, tw)] s (Ex (T 1 1) s) := S_X9_childCount (fun _ => ⟨by rw [hx.t1], rfl⟩)
theorem C_homeCount (hx : CX s th tw T A) : Mw g (e + 1) M_X9_homeCount [(18, tw)] s (Ex (T 1 0) s) := S_X9_homeCount (fun _ => ⟨by rw [hx.t1], rfl⟩)
theorem C_wallCount (hx : CX s th tw T A) : Mw g (e + 1) M_X9_wallCount [(18, tw)] s (Ex (T 1 2) s) := S_X9_wallCount (fun _ => ⟨by rw [hx.t1], rfl⟩)
theorem C_wallAt {s : Sg} {p : Int} (h0 : 0 ≤ p) : Mw g (e + 1) M_X11_wallAt [(0, p)] s (Ex (p / 16) s) := S_X11_wallAt (fun hr => ⟨by rw [td_of h0, w32_of (by omega) (by unfold inR at hr; omega)], rfl⟩)
theorem C_age {c : Int} (hx : CX s th tw T A) (h0 : 0 ≤ c) (h8 : c < 8) : Mw g (e + 1) M_X11_age [(19, th), (0, c)] s (Ex (ageS T A c) s) := by
  refine S_X11_age (fun _ _ => ⟨⟨h0, h8⟩, ?_, rfl⟩)
  have b1 := hx.n.1
  have b2 := (hx.ok.2.2.2.2.2.1 c h0 h8).2.1
  rw [hx.tp, hx.t9, hx.y, w32_of (by omega) (by omega)]
  rfl
theorem age_le {c : Int} (hx : CX s th tw T A) (h0 : 0 ≤ c) (h8 : c < 8) : -99 ≤ ageS T A c ∧ ageS T A c ≤ 1000 := by
  have b1 := hx.n.1
  have b2 := (hx.ok.2.2.2.2.2.1 c h0 h8).2.1
  unfold ageS
  omega
theorem C_isDone {c : Int} (hx : CX s th tw T A) (h0 : 0 ≤ c) (h8 : c < 8) : Mw g (e + 2) M_X11_isDone [(19, th), (0, c)] s (Ex (if T 0 15 ≤ ageS T A c then 1 else 0) s) := by
  refine S_X11_isDone (fun _ _ => Mw.ex (C_age hx h0 h8) ?_)
  rw [hx.tp, hx.t0]
  refine ⟨fun h => ⟨?_, rfl⟩, fun h => ⟨?_, rfl⟩⟩
  · rw [if_neg (by omega)]
  · rw [if_pos (by omega)]
theorem C_where {c : Int} (hx : CX s th tw T A) (h0 : 0 ≤ c) (h8 : c < 8) : Mw g (e + 3) M_X11_where [(19, th), (0, c)] s (Ex (whS T A c) s) := by
  refine S_X11_where (fun _ _ => ⟨⟨h0, h8⟩, ?_⟩)
  rw [hx.w3]
  unfold whS
  refine ⟨fun hp => Mw.ex (C_isDone hx h0 h8) ⟨fun hd => Mw.ex (C_age hx h0 h8) ?_, fun hd => ⟨?_, rfl⟩⟩, fun hp => ⟨?_, rfl⟩⟩
  · have hd2 : ¬ T 0 15 ≤ ageS T A c := fun q => by rw [if_pos q] at hd; omega
    rw [hx.tp, hx.t0, if_pos hp, if_neg hd2]
    refine ⟨fun h => ⟨?_, rfl⟩, fun h => ⟨?_, rfl⟩⟩
    · rw [if_neg (by omega)]
    · rw [if_pos (by omega)]
  · have hd2 : T 0 15 ≤ ageS T A c := Classical.byContradiction (fun q => hd (by rw [if_neg q]))
    rw [if_pos hp, if_pos hd2]
  · rw [if_neg hp]
theorem bears_le {c l : Int} (hx : CX s th tw T A) (h0 : 0 ≤ c) (h8 : c < 8) (hl : 0 ≤ l) : 0 ≤ beaS T A c l ∧ beaS T A c l ≤ 999 := by
  have b := (hx.n.2.2.2.1 c h0 h8).2
  unfold beaS
  split <;> omega
theorem C_bears {c l : Int} (hx : CX s th tw T A) (hI : WI0 A) (h0 : 0 ≤ c) (h8 : c < 8) (hl : 0 ≤ l) (hl2 : l ≤ 99) (hp : A 3 c ≠ -1) : Mw g (e + 2) M_X11_bears [(19, th), (0, c), (0, l)] s (Ex (beaS T A c l) s) := by
  refine S_X11_bears (fun _ _ _ => ⟨⟨h0, h8⟩, ⟨h0, h8⟩, ?_⟩)
  have b := (hx.n.2.2.2.1 c h0 h8).2
  have bt := (hx.ok.2.2.2.2.2.1 c h0 h8).2.2
  have b1 := hx.ok.2.1
  rw [hx.tp, hx.t10, hx.w2, hx.w3, w32_of (by omega) (by omega)]
  unfold beaS nearS
  have hc := (hI.1 c h0 h8).resolve_left hp
  refine ⟨fun h1 => ⟨⟨by omega, by omega⟩, fun h2 => ?_, fun h2 => ⟨⟨by omega, by omega⟩, ?_⟩⟩, fun h1 => ⟨?_, rfl⟩⟩
  · refine S_X11_bears_69 (S_X11_bears_70 ⟨fun _ => ⟨?_, rfl⟩, fun q => absurd rfl q⟩)
    rw [td_of (by omega), w32_of (by omega) (by omega)]
    simp [h1, h2]
  · have ht := (hI.1 (T 10 c) (by omega) (by omega)).resolve_left h2
    refine Mw.ex (C_wallAt ht.1) ⟨⟨h0, h8⟩, Mw.ex (C_wallAt (by rw [hx.w3]; exact hc.1)) ?_⟩
    rw [hx.w3]
    refine ⟨fun h3 => S_X11_bears_69 (S_X11_bears_70 ⟨fun _ => ⟨?_, rfl⟩, fun q => absurd rfl q⟩), fun h3 => S_X11_bears_70 ⟨fun q => by omega, fun _ => ⟨?_, rfl⟩⟩⟩
    · rw [td_of (by omega), w32_of (by omega) (by omega)]
      simp [h1, h2, h3]
    · simp [h1, h2, h3]
  · simp [h1]
theorem C_loadAt {p : Int} (hx : CX s th tw T A) (hH : WH T A) (h0 : 0 ≤ p) (h8 : p < 64) : Mw g (e + 1) M_X11_loadAt [(19, th), (0, p)] s (Ex (loaS T A p) s) := by
  refine S_X11_loadAt (fun _ _ => ?_)
  have b := hH.1 (p / 4) (by omega) (by omega)
  have bw := hx.ok.2.2.2.2.2.2.2.2.2.2.1
  rw [td_of h0, tm_of h0, w32_of (show -2147483648 ≤ p / 4 by omega) (by omega), hx.w5, hx.tp, hx.t0, w32_of (show -2147483648 ≤ A 5 (p / 4) - 1 by omega) (by omega), w32_of (show -2147483648 ≤ A 5 (p / 4) - 1 - p % 4 by omega) (by omega)]
  refine ⟨⟨by omega, by omega⟩, ?_, rfl⟩
  unfold loaS
  refine w32_of ?_ ?_
  · have := Int.mul_le_mul_of_nonneg_right (show (-4 : Int) ≤ A 5 (p / 4) - 1 - p % 4 by omega) bw.1
    omega
  · have := Int.mul_le_mul_of_nonneg_right (show A 5 (p / 4) - 1 - p % 4 ≤ 4 by omega) bw.1
    omega
theorem weak_loop (hx : CX s th tw T A) (hI : WI0 A) (hH : WH T A) {w : Int} (hw : 0 ≤ w) (hw4 : w < 4) : ∀ (n : Nat) (k : Int), k + n = 16 * w + 16 → 16 * w ≤ k → ∀ {Q : Int → Sg → Prop}, Q (scanF n k (weakP T A)) s → P_X11_weakSpot_7 g (e + 2) Q s th (16 * w) k := by
  intro n
  induction n with
  | zero =>
    intro k hk h1 Q hQ
    refine S_X11_weakSpot_7 ⟨fun _ => hQ, fun q => absurd ?_ q⟩
    rw [w32_of (by omega) (by omega)]; omega
  | succ n ih =>
    intro k hk h1 Q hQ
    refine S_X11_weakSpot_7 ⟨fun q => absurd q ?_, fun _ => ⟨⟨by omega, by omega⟩, ?_⟩⟩
    · rw [w32_of (by omega) (by omega)]; omega
    rw [hx.w4, w32_of (show -2147483648 ≤ k + 1 by omega) (by omega)]
    unfold scanF at hQ
    have hl := hI.2 k (by omega) (by omega)
    refine ⟨fun h2 => ih (k + 1) (by omega) (by omega) ?_, fun h2 => ?_⟩
    · have : weakP T A k = false := by unfold weakP; simp [h2]
      rw [this] at hQ
      exact hQ
    · have hc := hl.resolve_left h2
      refine Mw.ex (C_bears hx hI hc.1 hc.2.1 (Int.le_refl 0) (by omega) (by rw [hc.2.2]; omega)) (Mw.ex (C_loadAt hx hH (by omega) (by omega)) ⟨fun h3 => ih (k + 1) (by omega) (by omega) ?_, fun h3 => ?_⟩)
      · have : weakP T A k = false := by unfold weakP; simp [h2]; omega
        rw [this] at hQ
        exact hQ
      · have : weakP T A k = true := by unfold weakP; simp [h2]; omega
        rw [this] at hQ
        exact hQ
theorem C_weakSpot (hx : CX s th tw T A) (hI : WI0 A) (hH : WH T A) {w : Int} (hw : 0 ≤ w) (hw4 : w < 4) : Mw g (e + 3) M_X11_weakSpot [(19, th), (0, w)] s (Ex (weaS T A w) s) := by
  refine S_X11_weakSpot (fun _ _ => ?_)
  rw [w32_of (by omega) (by omega), Int.mul_comm w 16]
  exact weak_loop hx hI hH hw hw4 16 (16 * w) (by omega) (by omega) ⟨rfl, rfl⟩
end WREAD
