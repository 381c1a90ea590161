/-! the class: clearWalls, clearCounts, copy, begin -/
def vwW (s : Sg) (th : Int) : Wd := fun a => s (th + a)
theorem vwW_cw (s : Sg) (th : Int) : CW s th (vwW s th) := ⟨by show _ = s (th + 0) 1; rw [Int.add_zero], by show _ = s (th + 0) 2; rw [Int.add_zero], by show _ = s (th + 0) 9; rw [Int.add_zero], fun _ _ _ => rfl⟩
/-- the same world, but for what is kept -/
def WEq (A B : Wd) : Prop := B 0 1 = A 0 1 ∧ B 0 2 = A 0 2 ∧ (∀ k, 0 ≤ k → k < 8 → B 1 k = A 1 k ∧ B 2 k = A 2 k ∧ B 3 k = A 3 k) ∧ (∀ k, 0 ≤ k → k < 64 → B 4 k = A 4 k) ∧ (∀ k, 0 ≤ k → k < 16 → B 5 k = A 5 k)
/-- a world at its beginning -/
def BEG (T : Tn) (A : Wd) : Prop := A 0 1 = 0 ∧ A 0 2 = 0 ∧ A 0 9 = 0 ∧ (∀ k, 0 ≤ k → k < 8 → A 1 k = T 8 k ∧ A 2 k = 0 ∧ A 3 k = -1) ∧ (∀ k, 0 ≤ k → k < 64 → A 4 k = -1) ∧ (∀ k, 0 ≤ k → k < 16 → A 5 k = 0)
section COPY
variable {g : GT} {e : Nat} {s : Sg} {th tw : Int} {T : Tn} {A : Wd}
theorem WN.weq {B : Wd} (h : WN T A) (q : WEq A B) (h9 : 0 ≤ B 0 9 ∧ B 0 9 ≤ 60) (h8 : T 1 1 ≤ 8) : WN T B := by
  obtain ⟨n1, n2, n3, n4, n5⟩ := h
  obtain ⟨q1, q2, q3, q4, q5⟩ := q
  refine ⟨by rw [q1]; exact n1, by rw [q2]; exact n2, h9, fun c c0 c8 => ?_, fun c c0 c1 => ?_⟩
  · obtain ⟨a1, a2, a3⟩ := q3 c c0 c8
    rw [a1, a2]; exact n4 c c0 c8
  · rw [(q3 c c0 (by omega)).1]; exact n5 c c0 c1
theorem WOK.weq {B : Wd} (h : WOK T A) (q : WEq A B) (h9 : 0 ≤ B 0 9 ∧ B 0 9 ≤ 60) (h8 : T 1 1 ≤ 8) : WOK T B := by
  obtain ⟨hN, hI, hH⟩ := h
  obtain ⟨q1, q2, q3, q4, q5⟩ := id q
  refine ⟨hN.weq q h9 h8, ⟨fun c c0 c8 => ?_, fun p p0 p1 => ?_⟩, fun k k0 k1 => ?_, fun c c0 c8 hc => ?_⟩
  · rw [(q3 c c0 c8).2.2]
    rcases hI.1 c c0 c8 with z | ⟨z1, z2, z3⟩
    · left; exact z
    · right; exact ⟨z1, z2, by rw [q4 _ z1 z2]; exact z3⟩
  · rw [q4 p p0 p1]
    rcases hI.2 p p0 p1 with z | ⟨z1, z2, z3⟩
    · left; exact z
    · right; exact ⟨z1, z2, by rw [(q3 _ z1 z2).2.2]; exact z3⟩
  · rw [q5 k k0 k1]
    obtain ⟨z1, z2, z3⟩ := hH.1 k k0 k1
    exact ⟨z1, z2, fun j j0 j1 => by rw [q4 _ (by omega) (by omega)]; exact z3 j j0 j1⟩
  · rw [(q3 c c0 c8).2.2] at hc ⊢
    rw [ageS_eq q1]
    exact hH.2 c c0 c8 hc
theorem BEG.ok (hT : TOK T) (h : BEG T A) : WOK T A := by
  obtain ⟨b1, b2, b3, b4, b5, b6⟩ := h
  have h8 := hT.2.1
  refine ⟨⟨by omega, by omega, by omega, fun c c0 c8 => ?_, fun c c0 c1 => ?_⟩, ⟨fun c c0 c8 => Or.inl (b4 c c0 c8).2.2, fun p p0 p1 => Or.inl (b5 p p0 p1)⟩, fun k k0 k1 => ?_, fun c c0 c8 hc => absurd (b4 c c0 c8).2.2 hc⟩
  · have := b4 c c0 c8
    have t := (hT.2.2.2.2.2.1 c c0 c8).1
    omega
  · rw [(b4 c c0 (by omega)).1]
    exact hT.2.2.2.2.2.2.1 c c0 c1
  · rw [b6 k k0 k1]
    refine ⟨by omega, by omega, fun j j0 j1 => ?_⟩
    rw [b5 _ (by omega) (by omega)]
    exact ⟨fun _ => j0, fun _ => rfl⟩
def cntS (s : Sg) (th : Int) : Sg := ups (ups (ups (ups s th 9 0) th 10 0) th 11 0) th 12 0
theorem cntS_at (s : Sg) {th o : Int} (h : o ≠ th) : cntS s th o = s o := by unfold cntS; rw [ups_at _ h, ups_at _ h, ups_at _ h, ups_at _ h]
theorem cntS_k (s : Sg) {th k : Int} (h : k < 9) : cntS s th th k = s th k := by unfold cntS; rw [ups_k _ (by omega), ups_k _ (by omega), ups_k _ (by omega), ups_k _ (by omega)]
theorem C_clearCounts : Mw g (e + 1) M_X11_clearCounts [(19, th)] s (Ex 0 (cntS s th)) := by
  refine S_X11_clearCounts (fun _ s1 e1 s2 e2 s3 e3 s4 e4 => ⟨rfl, ?_⟩)
  rw [e4, e3, e2, e1]; rfl
def clrS (s : Sg) (th : Int) : Sg := fil (fil (fil s (th + 3) 8 (-1)) (th + 4) 64 (-1)) (th + 5) 16 0
theorem C_clearWalls : Mw g (e + 2) M_X11_clearWalls [(19, th)] s (Ex 0 (clrS s th)) :=
  S_X11_clearWalls (fun _ => Mw.ex C_fill33 (Mw.ex C_fill39 (Mw.ex C_fill40 ⟨rfl, rfl⟩)))
theorem clrS_at (s : Sg) {th o : Int} (h3 : o ≠ th + 3) (h4 : o ≠ th + 4) (h5 : o ≠ th + 5) : clrS s th o = s o := by unfold clrS; rw [fil_at _ h5, fil_at _ h4, fil_at _ h3]
theorem cpy_in (s : Sg) {a b n k : Int} (h0 : 0 ≤ k) (h1 : k < n) : cpy s a 0 b 0 n b k = s a k := by
  unfold cpy
  rw [if_pos ⟨rfl, by omega, by omega⟩, show 0 + (k - 0) = k by omega]
theorem C_copy {v : Int} (hx : CX s v tw T A) (ht : isW th) (hne : th ≠ v) : Mw g (e + 2) M_X11_copy [(19, th), (19, v)] s (fun _ s' => ∃ B, CZ s' th tw T (B, 0, 0) 0 ∧ WEq A B ∧ B 0 9 = 0 ∧ Fr (fun o => th ≤ o ∧ o ≤ th + 6) s s') := by
  have hv := hx.1
  refine S_X11_copy (fun _ _ s1 e1 s2 e2 s3 e3 s4 e4 s5 e5 s6 e6 s7 e7 s8 e8 => Mw.ex C_clearCounts ?_)
  unfold isW at ht hv
  have fr : Fr (fun o => th ≤ o ∧ o ≤ th + 6) s (cntS s8 th) := by
    intro o ho
    have ne : ∀ a, 0 ≤ a → a ≤ 6 → o ≠ th + a := fun a a0 a6 q => ho ⟨by omega, by omega⟩
    rw [cntS_at _ (by have := ne 0 (by decide) (by decide); omega), e8, cpy_at _ (ne 5 (by decide) (by decide)), e7, cpy_at _ (ne 4 (by decide) (by decide)), e6, cpy_at _ (ne 3 (by decide) (by decide)), e5, cpy_at _ (ne 2 (by decide) (by decide)), e4, cpy_at _ (ne 1 (by decide) (by decide))]
    rw [e3, ups_at _ (by have := ne 0 (by decide) (by decide); omega), e2, ups_at _ (by have := ne 0 (by decide) (by decide); omega), e1, ups_at _ (by have := ne 0 (by decide) (by decide); omega)]
  have vo : ∀ a, 0 ≤ a → a ≤ 6 → s3 (v + a) = s (v + a) := fun a a0 a6 => by rw [e3, ups_at _ (by omega), e2, ups_at _ (by omega), e1, ups_at _ (by omega)]
  have v1 : ∀ k, 0 ≤ k → k < 8 → cntS s8 th (th + 1) k = A 1 k := fun k k0 k1 => by
    rw [cntS_at _ (by omega), e8, cpy_at _ (by omega), e7, cpy_at _ (by omega), e6, cpy_at _ (by omega), e5, cpy_at _ (by omega), e4, cpy_in _ k0 k1, vo 1 (by decide) (by decide), hx.w1]
  have v2 : ∀ k, 0 ≤ k → k < 8 → cntS s8 th (th + 2) k = A 2 k := fun k k0 k1 => by
    rw [cntS_at _ (by omega), e8, cpy_at _ (by omega), e7, cpy_at _ (by omega), e6, cpy_at _ (by omega), e5, cpy_in _ k0 k1, e4, cpy_at _ (by omega), vo 2 (by decide) (by decide), hx.w2]
  have v3 : ∀ k, 0 ≤ k → k < 8 → cntS s8 th (th + 3) k = A 3 k := fun k k0 k1 => by
    rw [cntS_at _ (by omega), e8, cpy_at _ (by omega), e7, cpy_at _ (by omega), e6, cpy_in _ k0 k1, e5, cpy_at _ (by omega), e4, cpy_at _ (by omega), vo 3 (by decide) (by decide), hx.w3]
  have v4 : ∀ k, 0 ≤ k → k < 64 → cntS s8 th (th + 4) k = A 4 k := fun k k0 k1 => by
    rw [cntS_at _ (by omega), e8, cpy_at _ (by omega), e7, cpy_in _ k0 k1, e6, cpy_at _ (by omega), e5, cpy_at _ (by omega), e4, cpy_at _ (by omega), vo 4 (by decide) (by decide), hx.w4]
  have v5 : ∀ k, 0 ≤ k → k < 16 → cntS s8 th (th + 5) k = A 5 k := fun k k0 k1 => by
    rw [cntS_at _ (by omega), e8, cpy_in _ k0 k1, e7, cpy_at _ (by omega), e6, cpy_at _ (by omega), e5, cpy_at _ (by omega), e4, cpy_at _ (by omega), vo 5 (by decide) (by decide), hx.w5]
  have t8 : s8 th = s3 th := by rw [e8, cpy_at _ (by omega), e7, cpy_at _ (by omega), e6, cpy_at _ (by omega), e5, cpy_at _ (by omega), e4, cpy_at _ (by omega)]
  have u0 : cntS s8 th th 0 = tw := by rw [cntS_k _ (by decide), t8, e3, ups_k _ (by decide), e2, ups_k _ (by decide), e1, ups_eq, hx.tp]
  have u1 : cntS s8 th th 1 = A 0 1 := by rw [cntS_k _ (by decide), t8, e3, ups_k _ (by decide), e2, ups_eq, e1, ups_at _ (by omega), hx.y]
  have u2 : cntS s8 th th 2 = A 0 2 := by rw [cntS_k _ (by decide), t8, e3, ups_eq, e2, ups_at _ (by omega), e1, ups_at _ (by omega), hx.en]
  have u9 : cntS s8 th th 9 = 0 := by unfold cntS; rw [ups_k _ (by decide), ups_k _ (by decide), ups_k _ (by decide), ups_eq]
  have u10 : cntS s8 th th 10 = 0 := by unfold cntS; rw [ups_k _ (by decide), ups_k _ (by decide), ups_eq]
  have u11 : cntS s8 th th 11 = 0 := by unfold cntS; rw [ups_k _ (by decide), ups_eq]
  have u12 : cntS s8 th th 12 = 0 := by unfold cntS; rw [ups_eq]
  have e0 : vwW (cntS s8 th) th 0 = cntS s8 th th := by show cntS s8 th (th + 0) = _; rw [Int.add_zero]
  have hq : WEq A (vwW (cntS s8 th) th) := ⟨by rw [e0]; exact u1, by rw [e0]; exact u2, fun k k0 k1 => ⟨v1 k k0 k1, v2 k k0 k1, v3 k k0 k1⟩, v4, v5⟩
  have h9 : vwW (cntS s8 th) th 0 9 = 0 := by rw [e0]; exact u9
  refine ⟨vwW (cntS s8 th) th, ⟨⟨?_, hx.2.1, u0, ?_, vwW_cw _ _, hx.ok, ?_⟩, u10, u11, u12⟩, hq, h9, fr⟩
  · unfold isW; exact ht
  · refine hx.2.2.2.1.fr fr (fun o o1 o2 o3 => ?_)
    have := hx.2.1
    unfold isT at this
    omega
  · exact hx.n.weq (B := vwW (cntS s8 th) th) hq (by omega) hx.ok.2.1.2
theorem C_begin (hT : TOK T) (hx : CT s tw T) (ht : isW th) (hw : isT tw) : Mw g (e + 3) M_X11_begin [(19, th), (18, tw)] s (fun _ s' => ∃ B, CZ s' th tw T (B, 0, 0) 0 ∧ BEG T B ∧ Fr (fun o => th ≤ o ∧ o ≤ th + 6) s s') := by
  refine S_X11_begin (fun _ _ s1 e1 s2 e2 s3 e3 s4 e4 => Mw.ex C_fill33 (Mw.ex C_clearWalls (Mw.ex C_clearCounts ?_)))
  have ht' := ht
  have hw' := hw
  unfold isW at ht
  unfold isT at hw
  generalize hs : cntS (clrS (fil s4 (th + 2) 8 0) th) th = s9
  have at9 : ∀ o, o ≠ th → s9 o = clrS (fil s4 (th + 2) 8 0) th o := fun o ho => by rw [← hs, cntS_at _ ho]
  have fr : Fr (fun o => th ≤ o ∧ o ≤ th + 6) s s9 := by
    intro o ho
    have ne : ∀ a, 0 ≤ a → a ≤ 6 → o ≠ th + a := fun a a0 a6 q => ho ⟨by omega, by omega⟩
    have ne0 : o ≠ th := by have := ne 0 (by decide) (by decide); omega
    rw [at9 o ne0, clrS_at _ (ne 3 (by decide) (by decide)) (ne 4 (by decide) (by decide)) (ne 5 (by decide) (by decide)), fil_at _ (ne 2 (by decide) (by decide)), e4, cpy_at _ (ne 1 (by decide) (by decide)), e3, ups_at _ ne0, e2, ups_at _ ne0, e1, ups_at _ ne0]
  have v1 : ∀ k, 0 ≤ k → k < 8 → s9 (th + 1) k = T 8 k := fun k k0 k1 => by
    rw [at9 _ (by omega), clrS_at _ (by omega) (by omega) (by omega), fil_at _ (by omega), e4, cpy_in _ k0 k1, e3, ups_at _ (by omega), e2, ups_at _ (by omega), e1, ups_at _ (by omega), hx.2 8 (by decide) (by decide) (by decide)]
  have v2 : ∀ k, 0 ≤ k → k < 8 → s9 (th + 2) k = 0 := fun k k0 k1 => by
    rw [at9 _ (by omega), clrS_at _ (by omega) (by omega) (by omega), fil_in _ k0 k1]
  have v3 : ∀ k, 0 ≤ k → k < 8 → s9 (th + 3) k = -1 := fun k k0 k1 => by
    rw [at9 _ (by omega)]; unfold clrS; rw [fil_at _ (by omega), fil_at _ (by omega), fil_in _ k0 k1]
  have v4 : ∀ k, 0 ≤ k → k < 64 → s9 (th + 4) k = -1 := fun k k0 k1 => by
    rw [at9 _ (by omega)]; unfold clrS; rw [fil_at _ (by omega), fil_in _ k0 k1]
  have v5 : ∀ k, 0 ≤ k → k < 16 → s9 (th + 5) k = 0 := fun k k0 k1 => by
    rw [at9 _ (by omega)]; unfold clrS; rw [fil_in _ k0 k1]
  have tk : ∀ k, k < 9 → s9 th k = s3 th k := fun k hk => by
    rw [← hs, cntS_k _ hk, clrS_at _ (by omega) (by omega) (by omega), fil_at _ (by omega), e4, cpy_at _ (by omega)]
  have u0 : s9 th 0 = tw := by rw [tk 0 (by decide), e3, ups_k _ (by decide), e2, ups_k _ (by decide), e1, ups_eq]
  have u1 : s9 th 1 = 0 := by rw [tk 1 (by decide), e3, ups_k _ (by decide), e2, ups_eq]
  have u2 : s9 th 2 = 0 := by rw [tk 2 (by decide), e3, ups_eq]
  have u9 : s9 th 9 = 0 := by rw [← hs]; unfold cntS; rw [ups_k _ (by decide), ups_k _ (by decide), ups_k _ (by decide), ups_eq]
  have u10 : s9 th 10 = 0 := by rw [← hs]; unfold cntS; rw [ups_k _ (by decide), ups_k _ (by decide), ups_eq]
  have u11 : s9 th 11 = 0 := by rw [← hs]; unfold cntS; rw [ups_k _ (by decide), ups_eq]
  have u12 : s9 th 12 = 0 := by rw [← hs]; unfold cntS; rw [ups_eq]
  have e0 : vwW s9 th 0 = s9 th := by show s9 (th + 0) = _; rw [Int.add_zero]
  have hb : BEG T (vwW s9 th) := ⟨by rw [e0]; exact u1, by rw [e0]; exact u2, by rw [e0]; exact u9, fun k k0 k1 => ⟨v1 k k0 k1, v2 k k0 k1, v3 k k0 k1⟩, v4, v5⟩
  refine ⟨vwW s9 th, ⟨⟨ht', hw', u0, ?_, vwW_cw _ _, hT, (hb.ok hT).1⟩, u10, u11, u12⟩, hb, fr⟩
  exact hx.fr fr (fun o o1 o2 o3 => by omega)
end COPY
