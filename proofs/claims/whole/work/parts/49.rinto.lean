/-! the reference: tells, raised, goesInto, isBuilt -/
section RINTO
variable {g : GT} {e : Nat} {s : Sg} {v b : Int} {T : Tn} {A : Wd} {K : Prop}
theorem R_tells {h a st y : Int} (hb : RB s b T) (h0 : 0 ≤ h) (h1 : h < T 1 0) : Mw g (e + 1) M_X13_tells [(21, 92), (0, h), (0, a), (0, st), (0, y)] s (fun _ s' => (∀ i, 0 ≤ i → i < 5 → s' 132 (i + 1) = facS T h a st y 0 0 0 i) ∧ Fr (fun o => o = 132) s s') := by
  have b2 := hb.2.1
  have b6 := hb.2.2.2.1.1
  have ht := hb.2.2.1.2.1 h h0 h1
  refine S_X13_tells (fun _ _ _ _ => ?_)
  rw [hb.1, w32_of (show _ ≤ 6 * b by omega) (by omega), w32_of (show _ ≤ 6 * b + h by omega) (by omega), ht.1]
  refine ⟨⟨by omega, by omega⟩, fun s1 e1 => ?_⟩
  have e92 : s1 92 13 = b := by rw [e1, ups_at _ (by decide)]; exact hb.1
  have e96 : s1 96 (6 * b + h) = T 7 h := by rw [e1, ups_at _ (by decide)]; exact ht.2
  rw [e92, w32_of (show _ ≤ 6 * b by omega) (by omega), w32_of (show _ ≤ 6 * b + h by omega) (by omega), e96]
  refine ⟨⟨by omega, by omega⟩, fun s2 e2 s3 e3 s4 e4 s5 e5 => ⟨fun i i0 i1 => ?_, ?_⟩⟩
  · rw [e5, e4, e3, e2, e1]
    unfold facS ups
    rcases (show i = 0 ∨ i = 1 ∨ i = 2 ∨ i = 3 ∨ i = 4 by omega) with c | c | c | c | c <;> rw [c] <;> simp
  · rw [e5, e4, e3, e2, e1]
    refine Fr.tr (Fr.tr (Fr.tr (Fr.tr (Fr.up ?_) (Fr.up ?_)) (Fr.up ?_)) (Fr.up ?_)) (Fr.up ?_) <;> rfl
theorem RF.fr {w n : Int} {P : Int → Int} {s2 : Sg} (h : RF s b w P n) (h8 : s2 108 = s 108) (h9 : s2 109 = s 109) (h10 : s2 110 = s 110) (h11 : s2 111 = s 111) : RF s2 b w P n := by
  unfold RF
  rw [h8, h9, h10, h11]
  exact h
theorem R_raised {h a st y : Int} (hb : RB s b T) (h0 : 0 ≤ h) (h1 : h < T 1 0) (ha : -99 ≤ a ∧ a ≤ 1000) (hs : 0 ≤ st ∧ st ≤ 999) (hy : 0 ≤ y ∧ y ≤ 1200) : Mw g (e + 4) M_X13_raised [(21, 92), (0, h), (0, a), (0, st), (0, y)] s (fun r s' => r = groS T h a st y ∧ Fr Jm s s') := by
  have hT := hb.2.2.2.1
  have b6 := hT.1
  have bt := hT.2.2.2.2.1 h h0 (by omega)
  have h62 : ∀ (s1 : Sg) (x : Int), 0 ≤ x → x ≤ 99 → x = max 0 (min 99 (gainS T h a st y)) → Fr Jm s s1 → P_X13_raised_62 g (e + 3) (fun r s' => r = groS T h a st y ∧ Fr Jm s s') s1 st x := by
    intro s1 x x0 x9 hx hf
    refine S_X13_raised_62 ?_
    rw [w64_of (by omega) (by omega), w32_of (show _ ≤ x by omega) (by omega), w32_of (by omega) (by omega), lCmp_le]
    unfold groS
    rw [← hx]
    exact ⟨fun q => ⟨by omega, hf⟩, fun q => ⟨by omega, hf⟩⟩
  have h32 : ∀ (s1 : Sg) (x : Int), x = gainS T h a st y → Fr Jm s s1 → P_X13_raised_32 g (e + 3) (fun r s' => r = groS T h a st y ∧ Fr Jm s s') s1 st x := by
    intro s1 x hx hf
    refine S_X13_raised_32 ?_
    rw [lCmp_nn, lCmp_le]
    exact ⟨fun q => ⟨fun q2 => h62 s1 x q q2 (by omega) hf, fun q2 => h62 s1 99 (by decide) (by decide) (by omega) hf⟩, fun q => h62 s1 0 (by decide) (by decide) (by omega) hf⟩
  refine S_X13_raised (fun _ _ _ _ => (R_tells hb h0 h1).imp (fun _ s2 h2 => ?_))
  have f2 : Fr Jm s s2 := h2.2.wk (fun o ho => Or.inr ho)
  have hb2 := hb.jm f2
  have rf := hb2.2.2.1.2.2.2.2.2.2.1
  refine Mw.ex (R_isTold hb2 (Or.inl rfl) rf) ⟨fun q => h32 s2 _ ?_ f2, fun q => ?_⟩
  · have hz : T 14 2 = 0 := Classical.byContradiction (fun z => by rw [if_neg z] at q; omega)
    have := h2.1 0 (by decide) (by decide)
    rw [Int.zero_add] at this
    rw [this]
    unfold gainS
    rw [if_pos (by omega)]
    rfl
  · have hz : T 14 2 ≠ 0 := fun z => by rw [if_pos z] at q; omega
    have wf := hb.2.2.2.2.1
    have hbd : Fbd (facS T h a st y 0 0 0) 25 := facS_bd hT h0 (by omega) ha hs hy (by omega) (by omega) (by omega)
    refine (R_reckons hb2.1 wf (by decide) hbd (by have := wf.1; omega) hb2.2.1 (Or.inl rfl) rf (fun i i0 i1 => h2.1 i i0 (by omega))).imp (fun r s6 h6 => h32 s6 r ?_ (f2.tr (h6.2.wk (fun o ho => Or.inl ho))))
    rw [h6.1]
    unfold gainS
    rw [if_neg (by have := wf.1; omega)]
theorem height_le (hW : WOK T A) (hT : TOK T) {q : Int} (q0 : 0 ≤ q) (q1 : q < 16) (hn : 0 < A 5 q) : A 5 q ≤ T 12 (q / 4) := by
  have hh := hW.2.2.1 q q0 q1
  have hne : A 4 (4 * q + (A 5 q - 1)) ≠ -1 := fun z => by
    have := (hh.2.2 (A 5 q - 1) (by omega) (by omega)).mp z
    omega
  obtain ⟨c0, c8, cp⟩ := (hW.2.1.2 (4 * q + (A 5 q - 1)) (by omega) (by omega)).resolve_left hne
  have := hW.2.2.2 _ c0 c8 (by rw [cp]; omega)
  rw [cp] at this
  have h4 := this.2.2.2.1
  rw [show (4 * q + (A 5 q - 1)) / 16 = q / 4 by omega] at h4
  omega
theorem RX.put {c p : Int} {s2 : Sg} (h : RX s v b T A) (c0 : 0 ≤ c) (c1 : c < T 1 1) (p0 : p ≠ -1) (e6 : s2 126 = fun i => if i = 8 * v + c then p / 16 else s 126 i) (e7 : s2 127 = fun i => if i = 8 * v + c then p / 4 % 4 else s 127 i) (e8 : s2 128 = fun i => if i = 8 * v + c then p % 4 else s 128 i) (ho : ∀ o, o ≠ 126 → o ≠ 127 → o ≠ 128 → s2 o = s o) : RX s2 v b T (putA A c p) := by
  refine ⟨⟨by rw [ho 92 (by decide) (by decide) (by decide)]; exact h.1.1, h.b2, h.rt.fr (J := fun o => o = 126 ∨ o = 127 ∨ o = 128) (fun o q => ho o (fun z => q (Or.inl z)) (fun z => q (Or.inr (Or.inl z))) (fun z => q (Or.inr (Or.inr z)))) (fun o o1 o2 => by omega), h.1.2.2.2⟩, h.2.1, ?_, ?_, ?_, fun k k0 k1 => ?_⟩
  · rw [ho 122 (by decide) (by decide) (by decide), putA_0]; exact h.2.2.1
  · rw [ho 123 (by decide) (by decide) (by decide), putA_0]; exact h.2.2.2.1
  · rw [ho 129 (by decide) (by decide) (by decide)]; exact h.2.2.2.2.1
  · obtain ⟨x1, x2, x3, x4, x5⟩ := h.c k0 k1
    rw [ho 124 (by decide) (by decide) (by decide), ho 125 (by decide) (by decide) (by decide), putA_1, putA_2, putA_3, e6, e7, e8]
    refine ⟨x1, x2, ?_⟩
    by_cases z : k = c
    · rw [if_pos z]
      simp only [show 8 * v + k = 8 * v + c by omega, if_true]
      unfold waP coP cuP
      rw [if_neg p0, if_neg p0, if_neg p0]
      exact ⟨rfl, rfl, rfl⟩
    · rw [if_neg z]
      simp only [show ¬ (8 * v + k = 8 * v + c) by omega, if_false]
      exact ⟨x3, x4, x5⟩
theorem ups_fn (s : Sg) (o i x : Int) : ups s o i x o = fun k => if k = i then x else s o k := by
  funext k
  unfold ups
  by_cases z : k = i
  · rw [if_pos ⟨rfl, z⟩, if_pos z]
  · rw [if_neg (fun y => z y.2), if_neg z]
theorem into_end {c w : Int} (h : RZ K s v b T A) (hW : WOK T A) (c0 : 0 ≤ c) (c1 : c < T 1 1) (h3 : A 3 c = -1) (hd : T 0 15 ≤ ageS T A c) (w0 : 0 ≤ w) (w1 : w < T 1 2) (hf : freS T A w ≠ -1) (hp : peaS T A c (freS T A w) = true) (hm : mayS T A c (freS T A w) = true) (s0 : Sg) (hf0 : Fr Jm s s0) :
    P_X13_goesInto_255 g (e + 5) (fun r s' => r = (if tryS T A c w then 1 else 0) ∧ RZ K s' v b T (if tryS T A c w then putA A c (freS T A w) else A) ∧ Fm v s s') s0 v c w (freS T A w / 4 % 4) (freS T A w % 4) := by
  have b8 := h.1.ok.2.1
  have b4 := h.1.ok.2.2.1
  have hv := h.1.2.1
  have h0 := h.1.jm hf0
  obtain ⟨f1, f2, f3, f4, f5, f6⟩ := freS_ok h.1.ok hW.2.2 w0 w1 hf
  have hP := put_ok (X := (A, 0, 0)) h.1.ok hW c0 c1 h3 hd w0 w1 hf
  dsimp only at hP
  have ek : ∀ o, o = 129 ∨ o = 130 → s0 o = s o := fun o ho => hf0 o (by unfold Jm; omega)
  refine S_X13_goesInto_255 ?_
  rw [w32_of (show _ ≤ 8 * v by omega) (by omega), w32_of (show _ ≤ 8 * v + c by omega) (by omega)]
  refine ⟨⟨by omega, by omega⟩, fun s1 e1 => ⟨⟨by omega, by omega⟩, fun s2 e2 => ⟨⟨by omega, by omega⟩, fun s3 e3 => ?_⟩⟩⟩
  have a6 : s3 126 = fun i => if i = 8 * v + c then freS T A w / 16 else s0 126 i := by rw [e3, ups_at _ (by decide), e2, ups_at _ (by decide), e1, ups_fn, f2]
  have a7 : s3 127 = fun i => if i = 8 * v + c then freS T A w / 4 % 4 else s0 127 i := by rw [e3, ups_at _ (by decide), e2, ups_fn, e1, ups_at _ (by decide)]
  have a8 : s3 128 = fun i => if i = 8 * v + c then freS T A w % 4 else s0 128 i := by rw [e3, ups_fn, e2, ups_at _ (by decide), e1, ups_at _ (by decide)]
  have ao : ∀ o, o ≠ 126 → o ≠ 127 → o ≠ 128 → s3 o = s0 o := fun o o1 o2 o3 => by rw [e3, ups_at _ o3, e2, ups_at _ o2, e1, ups_at _ o1]
  have x3 := h0.put c0 c1 hf a6 a7 a8 ao
  have m3 : Fm v s s3 := by rw [e3, e2, e1]; exact (Fm.jm hf0).tr (((Fm.up (by omega)).tr (Fm.up (by omega))).tr (Fm.up (by omega)))
  refine Mw.ex (R_allHold x3 hP w0 (by omega)) ⟨fun q => ⟨⟨by omega, by omega⟩, fun s6 e6 => ⟨⟨by omega, by omega⟩, fun s7 e7 => ⟨⟨by omega, by omega⟩, fun s8 e8 => ?_⟩⟩⟩, fun q => ?_⟩
  · have hw : ¬ weaS T (putA A c (freS T A w)) w = -1 := fun z => by rw [if_pos z] at q; omega
    have ht : tryS T A c w = false := by unfold tryS; simp [hw]
    rw [ht]
    have bo : ∀ o, o ≠ 126 → o ≠ 127 → o ≠ 128 → s8 o = s0 o := fun o o1 o2 o3 => by rw [e8, ups_at _ o3, e7, ups_at _ o2, e6, ups_at _ o1]; exact ao o o1 o2 o3
    have m8 : Fm v s s8 := by rw [e8, e7, e6]; exact m3.tr (((Fm.up (by omega)).tr (Fm.up (by omega))).tr (Fm.up (by omega)))
    refine ⟨rfl, ⟨⟨h.1.1.fv m8, hv, ?_, ?_, ?_, fun k k0 k1 => ?_⟩, fun k => ?_⟩, m8⟩
    · rw [bo 122 (by decide) (by decide) (by decide)]; exact h0.2.2.1
    · rw [bo 123 (by decide) (by decide) (by decide)]; exact h0.2.2.2.1
    · rw [bo 129 (by decide) (by decide) (by decide)]; exact h0.2.2.2.2.1
    · obtain ⟨x1, x2, x3', x4, x5⟩ := h0.c k0 k1
      rw [bo 124 (by decide) (by decide) (by decide), bo 125 (by decide) (by decide) (by decide)]
      refine ⟨x1, x2, ?_⟩
      by_cases z : k = c
      · rw [z]
        have n6 : s8 126 (8 * v + c) = -1 := by rw [e8, ups_o _ (by decide), e7, ups_o _ (by decide), e6, ups_eq]
        have n7 : s8 127 (8 * v + c) = 0 := by rw [e8, ups_o _ (by decide), e7, ups_eq]
        have n8 : s8 128 (8 * v + c) = 0 := by rw [e8, ups_eq]
        rw [n6, n7, n8, if_neg (by decide), h3]
        exact ⟨rfl, rfl, rfl⟩
      · have n6 : s8 126 (8 * v + k) = s0 126 (8 * v + k) := by rw [e8, ups_o _ (by decide), e7, ups_o _ (by decide), e6, ups_k _ (by omega), a6]; simp only [show ¬ (8 * v + k = 8 * v + c) by omega, if_false]
        have n7 : s8 127 (8 * v + k) = s0 127 (8 * v + k) := by rw [e8, ups_o _ (by decide), e7, ups_k _ (by omega), e6, ups_o _ (by decide), a7]; simp only [show ¬ (8 * v + k = 8 * v + c) by omega, if_false]
        have n8 : s8 128 (8 * v + k) = s0 128 (8 * v + k) := by rw [e8, ups_k _ (by omega), e7, ups_o _ (by decide), e6, ups_o _ (by decide), a8]; simp only [show ¬ (8 * v + k = 8 * v + c) by omega, if_false]
        rw [n6, n7, n8]
        exact ⟨x3', x4, x5⟩
    · have hr := h.2 k
      unfold RK at hr ⊢
      rw [bo 129 (by decide) (by decide) (by decide), bo 130 (by decide) (by decide) (by decide), ek 129 (by omega), ek 130 (by omega)]
      exact hr
  · have hw : weaS T (putA A c (freS T A w)) w = -1 := Classical.byContradiction (fun z => by rw [if_neg z] at q; omega)
    have ht : tryS T A c w = true := by unfold tryS; simp [hw, hf, hp, hm]
    rw [ht]
    refine ⟨rfl, ⟨x3, fun k => ?_⟩, m3⟩
    have hr := (h.2 k).eq (B := putA A c (freS T A w)) (by rw [putA_0]) (by rw [putA_6])
    unfold RK at hr ⊢
    rw [ao 129 (by decide) (by decide) (by decide), ao 130 (by decide) (by decide) (by decide), ek 129 (by omega), ek 130 (by omega)]
    exact hr
end RINTO
