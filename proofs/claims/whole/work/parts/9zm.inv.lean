/-! what holds between both programs -/
def zTp (s : Sg) : Prop := ∃ n B, CTp s n B ∧ RTp s n B
def zSm (s : Sg) (T : Tn) : Prop := ∃ bo m Y Z, RM s T bo m Y Z ∧ s 87 0 = hmS T bo m Y Z ∧ s 87 1 = bo
def zIm (s : Sg) : Prop := ∃ P : Im, CI s P ∧ RI s P ∧ P.1 ≤ 61
def zMc (s : Sg) : Prop := s 1 10 = s 92 10 ∧ s 1 11 = s 92 11 ∧ s 1 12 = s 92 60 ∧ (0 ≤ s 1 12 ∧ s 1 12 ≤ 2147483647) ∧ ∀ w, 0 ≤ w → w ≤ 5 → s 91 w = s 121 w
def zDr (s : Sg) (tw : Int) : Prop := s 1 9 = 29 - tw ∧ ∃ T0, CT s (29 - tw) T0 ∧ zRg T0
def zWo (s : Sg) (tw b : Int) (T : Tn) (A : Wd) (u : Int) (U : Int → Wd) : Prop := CS s tw T A u U ∧ RS s b T A u U
def zIV (s : Sg) : Prop := ∃ tw b T, (∃ A u U, zWo s tw b T A u U) ∧ NT s b T ∧ zDr s tw ∧ zSm s T ∧ zIm s ∧ zTp s ∧ zMc s
/-- what a question may change: in the class -/
def zQc (o : Int) : Prop := Jk o ∨ (55 ≤ o ∧ o ≤ 64) ∨ o = 88
/-- and in the reference -/
def zQr (s s2 : Sg) : Prop := (∀ o, 93 ≤ o → (o < 122 ∨ o = 136 ∨ o = 137 ∨ o = 141) → s2 o = s o) ∧ (∀ k, k ≠ 63 → k ≠ 64 → s2 92 k = s 92 k) ∧
  (∀ o i, (o = 122 ∨ o = 123 ∨ o = 129) → i ≠ 1 → s2 o i = s o i) ∧ (∀ o i, 124 ≤ o → o ≤ 128 → (i < 8 ∨ 16 ≤ i) → s2 o i = s o i) ∧ (∀ i, (i < 240 ∨ 480 ≤ i) → s2 130 i = s 130 i)
section INV
variable {g : GT} {e : Nat} {s s1 s2 : Sg} {u v b tw : Int} {T : Tn} {A : Wd} {U : Int → Wd} {K : Prop}
theorem zQr.rf : zQr s s := ⟨fun _ _ _ => rfl, fun _ _ _ => rfl, fun _ _ _ _ => rfl, fun _ _ _ _ _ => rfl, fun _ _ => rfl⟩
theorem Fp.zq (h : Fp 1 s s2) : zQr s s2 := ⟨fun o p q => h.1 o (by omega) (by omega), h.2.1, h.2.2.1, fun o i p1 p2 q => h.2.2.2.1 o i p1 p2 (by omega), fun i q => h.2.2.2.2 i (by omega)⟩
theorem zQ_jn (h : Fr Jn s s2) : zQr s s2 := by
  have f : ∀ o, o ≠ 131 → o ≠ 132 → o ≠ 138 → s2 o = s o := fun o p1 p2 p3 => h o (by unfold Jn Jm; omega)
  exact ⟨fun o p q => f o (by omega) (by omega) (by omega), fun k _ _ => by rw [f 92 (by decide) (by decide) (by decide)], fun o i p _ => by rw [f o (by omega) (by omega) (by omega)], fun o i p1 p2 _ => by rw [f o (by omega) (by omega) (by omega)], fun i _ => by rw [f 130 (by decide) (by decide) (by decide)]⟩
theorem zQ_jm (h : Fr Jm s s2) : zQr s s2 := zQ_jn (h.wk (fun o q => Or.inl q))
theorem Fl.zq (h : Fl s s2) : zQr s s2 := ⟨fun o p q => h.1 o (by omega) (by omega) (by omega) (by omega), fun k _ _ => by rw [h.2.1], h.2.2.1, h.2.2.2.1, h.2.2.2.2⟩
theorem Fq.zq (h : Fq s s2) : zQr s s2 := ⟨fun o p q => h.1 o (by omega) (by omega) (by omega) (by omega) (by omega), fun k _ _ => by rw [h.2.1], h.2.2.1, h.2.2.2.1, h.2.2.2.2⟩
theorem RB.zq (h : RB s b T) (hf : zQr s s2) : RB s2 b T := by
  refine ⟨by rw [hf.2.1 13 (by decide) (by decide)]; exact h.1, h.2.1, h.2.2.1.fr (J := fun o => 112 ≤ o ∨ o ≤ 93) (fun o ho => hf.1 o (by omega) (by omega)) (fun o o1 o2 => by omega), h.2.2.2⟩
theorem RZ.zq (h : RZ K s u b T A) (hf : zQr s s2) (hne : u ≠ 1) (h60 : K → A 0 9 ≤ 60) : RZ K s2 u b T A := by
  obtain ⟨⟨h1, h2, h3, h4, h5, h6⟩, hk⟩ := h
  have b8 := h1.2.2.2.1.2.1
  refine ⟨⟨h1.zq hf, h2, ?_, ?_, ?_, fun c c0 c1 => ?_⟩, fun k => ?_⟩
  · rw [hf.2.2.1 122 u (by omega) hne]; exact h3
  · rw [hf.2.2.1 123 u (by omega) hne]; exact h4
  · rw [hf.2.2.1 129 u (by omega) hne]; exact h5
  · have := h6 c c0 c1
    rw [hf.2.2.2.1 124 _ (by decide) (by decide) (by omega), hf.2.2.2.1 125 _ (by decide) (by decide) (by omega), hf.2.2.2.1 126 _ (by decide) (by decide) (by omega), hf.2.2.2.1 127 _ (by decide) (by decide) (by omega), hf.2.2.2.1 128 _ (by decide) (by decide) (by omega)]
    exact this
  · have hr := hk k
    have h60 := h60 k
    refine ⟨by rw [hf.2.2.1 129 u (by omega) hne]; exact hr.1, fun j j0 j1 => ?_⟩
    rw [hf.2.2.2.2 _ (by omega), hf.2.2.2.2 _ (by omega), hf.2.2.2.2 _ (by omega), hf.2.2.2.2 _ (by omega)]
    exact hr.2 j j0 j1
theorem RS.zq (h : RS s b T A u U) (hf : zQr s s2) : RS s2 b T A u U := by
  obtain ⟨h1, h2, h3, ⟨u1, u2, u3, u4⟩, h5⟩ := h
  have e58 : s2 92 58 = s 92 58 := hf.2.1 58 (by decide) (by decide)
  refine ⟨h1.zq hf (by decide) (fun _ => h2.1.2.2.1.2), h2, h3, ⟨by rw [hf.2.1 59 (by decide) (by decide)]; exact u1, u2, by rw [e58]; exact u3, fun i i0 i1 => ?_⟩, h5⟩
  rw [e58]
  exact (u4 i i0 i1).zq hf (by omega) (fun _ => (h5 i i0 i1).1.1.2.2.1.2)
theorem CS.fr {J : Int → Prop} (h : CS s tw T A u U) (hf : Fr J s s2) (h1 : s2 1 8 = s 1 8) (h48 : ∀ o, 48 ≤ o → o ≤ 54 → ¬ J o) (h65 : ∀ o, 65 ≤ o → o ≤ 86 → ¬ J o) (hT : ∀ o, 4 ≤ o → o ≤ 45 → J o → Jk o) : CS s2 tw T A u U := by
  obtain ⟨q1, q2, q3, q4, q5, q6, q7⟩ := h
  exact ⟨by rw [h1]; exact q1, q2.fr hf h48 hT, q3, q4, q5, q6.fr hf h65, q7⟩
/-- the reference where nothing of it has changed -/
theorem zQr.hi (hf : ∀ o, 92 ≤ o → s2 o = s o) : zQr s s2 := ⟨fun o p q => hf o (by omega), fun k _ _ => by rw [hf 92 (by decide)], fun o i p _ => by rw [hf o (by omega)], fun o i p1 p2 _ => by rw [hf o (by omega)], fun i _ => by rw [hf 130 (by decide)]⟩
theorem RS.sm (h : RS s b T A u U) (hf : ∀ o, 92 ≤ o → s2 o = s o) : RS s2 b T A u U := h.zq (zQr.hi hf)
theorem RS.up1 {k : Int} (h : RS s b T A u U) (hk : k = 1 ∨ k = 10 ∨ k = 11 ∨ k = 60 ∨ k = 76 ∨ k = 68 ∨ k = 69) {x : Int} : RS (ups s 92 k x) b T A u U := ⟨h.1.fld (by omega), h.2.1, h.2.2.1, h.2.2.2.1.fld (by omega) (by omega) (by omega), h.2.2.2.2⟩
theorem RS.upo {o i x : Int} (h : RS s b T A u U) (ho : o ≠ 92) (h1 : o < 94 ∨ (111 < o ∧ o < 122) ∨ 130 < o) : RS (ups s o i x) b T A u U := ⟨h.1.oth ho h1, h.2.1, h.2.2.1, h.2.2.2.1.oth ho h1, h.2.2.2.2⟩
theorem zTp.sm (h : zTp s) (e1 : s2 2 1 = s 2 1) (e2 : s2 3 = s 3) (e3 : s2 92 1 = s 92 1) (e4 : s2 93 = s 93) : zTp s2 := by
  obtain ⟨n, B, c, r⟩ := h
  exact ⟨n, B, ⟨by rw [e1]; exact c.1, c.2.1, by rw [e2]; exact c.2.2⟩, ⟨by rw [e3]; exact r.1, r.2.1, by rw [e4]; exact r.2.2⟩⟩
theorem zSm.sm (h : zSm s T) (e1 : s2 87 0 = s 87 0) (e2 : s2 87 1 = s 87 1) (e3 : s2 92 68 = s 92 68) (e4 : s2 92 69 = s 92 69) (e5 : s2 136 = s 136) (e6 : s2 137 = s 137) : zSm s2 T := by
  obtain ⟨bo, m, Y, Z, r, c, d⟩ := h
  obtain ⟨r1, r2, r3, r4, r5, r6⟩ := r
  exact ⟨bo, m, Y, Z, ⟨by rw [e3]; exact r1, by rw [e4]; exact r2, r3, r4, by rw [e5, e6]; exact r5, r6⟩, by rw [e1]; exact c, by rw [e2]; exact d⟩
theorem zIm.sm (h : zIm s) (e1 : s2 89 1 = s 89 1) (e2 : s2 90 = s 90) (e3 : s2 92 76 = s 92 76) (e4 : s2 141 = s 141) : zIm s2 := by
  obtain ⟨P, c, r, d⟩ := h
  exact ⟨P, ⟨by rw [e1]; exact c.1, c.2.1, by rw [e2]; exact c.2.2⟩, ⟨by rw [e3]; exact r.1, r.2.1, by rw [e4]; exact r.2.2⟩, d⟩
theorem zMc.sm (h : zMc s) (e1 : s2 1 10 = s 1 10) (e2 : s2 1 11 = s 1 11) (e3 : s2 1 12 = s 1 12) (e4 : s2 92 10 = s 92 10) (e5 : s2 92 11 = s 92 11) (e6 : s2 92 60 = s 92 60) (e7 : s2 91 = s 91) (e8 : s2 121 = s 121) : zMc s2 := by
  obtain ⟨h1, h2, h3, h4, h5⟩ := h
  exact ⟨by rw [e1, e4]; exact h1, by rw [e2, e5]; exact h2, by rw [e3, e6]; exact h3, by rw [e3]; exact h4, by rw [e7, e8]; exact h5⟩
theorem zDr.fr {J : Int → Prop} (h : zDr s tw) (hw : isT tw) (hf : Fr J s s2) (h1 : s2 1 9 = s 1 9) (hT : ∀ o, 4 ≤ o → o ≤ 45 → J o → Jk o) : zDr s2 tw := by
  obtain ⟨h9, T0, c, r⟩ := h
  unfold isT at hw
  refine ⟨by rw [h1]; exact h9, T0, c.fr hf (fun o o1 o2 o3 q => ?_), r⟩
  have := hT o (by omega) (by omega) q
  unfold Jk at this
  omega
theorem CS.it (h : CS s tw T A u U) : isT tw := h.2.1.2.1
/-- a question leaves all as it is -/
theorem zIV.q (h : zIV s) (f1 : Fr zQc s s1) (f2 : zQr s1 s2) (lo : ∀ o, o < 92 → s2 o = s1 o) : zIV s2 := by
  obtain ⟨tw, b, T, ⟨A, u, U, hc, hr⟩, hN, hD, hS, hI, hP, hM⟩ := h
  have qn : ∀ o, (o < 4 ∨ (45 < o ∧ o < 55) ∨ (64 < o ∧ o ≠ 88)) → ¬ zQc o := fun o q u => by unfold zQc Jk at u; omega
  have hi : ∀ o, 92 ≤ o → s1 o = s o := fun o q => f1 o (qn o (by omega))
  have F : ∀ o, (o < 4 ∨ (45 < o ∧ o < 55) ∨ (64 < o ∧ o ≠ 88)) → o < 92 → s2 o = s o := fun o q p => (lo o p).trans (f1 o (qn o q))
  have G : Fr (fun o => zQc o ∨ 92 ≤ o) s s2 := fun o q => (lo o (by omega)).trans (f1 o (fun u => q (Or.inl u)))
  have M : ∀ k, k ≠ 63 → k ≠ 64 → s2 92 k = s 92 k := fun k p q => (f2.2.1 k p q).trans (by rw [hi 92 (by decide)])
  have N : ∀ o, 93 ≤ o → (o < 122 ∨ o = 136 ∨ o = 137 ∨ o = 141) → s2 o = s o := fun o p q => (f2.1 o p q).trans (hi o (by omega))
  have T4 : ∀ o, 4 ≤ o → o ≤ 45 → (zQc o ∨ 92 ≤ o) → Jk o := fun o p q r => by
    rcases r with r | r
    · rcases r with r | r | r
      · exact r
      · omega
      · omega
    · omega
  have e1 := F 1 (by decide) (by decide)
  refine ⟨tw, b, T, ⟨A, u, U, hc.fr G (by rw [e1]) (fun o p q r => ?_) (fun o p q r => ?_) T4, (hr.sm hi).zq f2⟩, hN.same (N 112 (by decide) (by decide)) (N 113 (by decide) (by decide)) (N 114 (by decide) (by decide)), hD.fr hc.it G (by rw [e1]) T4, hS.sm ?_ ?_ ?_ ?_ ?_ ?_, hI.sm ?_ ?_ ?_ ?_, hP.sm ?_ ?_ ?_ ?_, hM.sm ?_ ?_ ?_ ?_ ?_ ?_ ?_ ?_⟩
  · rcases r with r | r
    · exact qn o (by omega) r
    · omega
  · rcases r with r | r
    · exact qn o (by omega) r
    · omega
  · rw [F 87 (by decide) (by decide)]
  · rw [F 87 (by decide) (by decide)]
  · exact M 68 (by decide) (by decide)
  · exact M 69 (by decide) (by decide)
  · exact N 136 (by decide) (by decide)
  · exact N 137 (by decide) (by decide)
  · rw [F 89 (by decide) (by decide)]
  · exact F 90 (by decide) (by decide)
  · exact M 76 (by decide) (by decide)
  · exact N 141 (by decide) (by decide)
  · rw [F 2 (by decide) (by decide)]
  · exact F 3 (by decide) (by decide)
  · exact M 1 (by decide) (by decide)
  · exact N 93 (by decide) (by decide)
  · rw [e1]
  · rw [e1]
  · rw [e1]
  · exact M 10 (by decide) (by decide)
  · exact M 11 (by decide) (by decide)
  · exact M 60 (by decide) (by decide)
  · exact F 91 (by decide) (by decide)
  · exact N 121 (by decide) (by decide)
end INV
