/-! the class's acts: years, go, pull, peace, undo -/
def aheB (T : Tn) : Nat → Wd → Int
  | 0, _ => 0
  | n + 1, A => (pasR T 0 A).2 + aheB T n (pasR T 0 A).1
/-- the class: its town, its world, its undo rows -/
def CS (s : Sg) (tw : Int) (T : Tn) (A : Wd) (u : Int) (U : Int → Wd) : Prop := s 1 8 = tw ∧ CX s 48 tw T A ∧ WOK T A ∧ TF T ∧ A 0 1 ≤ 999 ∧ UC s u U ∧ UOK T u U
def Ja (o : Int) : Prop := Jw 48 o ∨ (65 ≤ o ∧ o ≤ 86)
def okY (A : Wd) (n : Int) : Prop := (1 ≤ n ∧ n ≤ 100) ∧ A 0 1 + n ≤ 999
section CACTS
variable {T : Tn} {A : Wd} {g : GT} {e : Nat} {s : Sg} {tw b u : Int} {U : Int → Wd}
theorem Ja_n1 : ¬ Ja 1 := fun q => by
  unfold Ja Jw Jk at q
  omega
theorem UC.fr {s2 : Sg} {J : Int → Prop} (h : UC s u U) (hf : Fr J s s2) (hj : ∀ o, 65 ≤ o → o ≤ 86 → ¬ J o) : UC s2 u U := by
  obtain ⟨u1, u2, u3, u4⟩ := h
  have e65 := hf 65 (hj 65 (by decide) (by decide))
  refine ⟨by rw [e65]; exact u1, u2, by rw [e65]; exact u3, fun i i0 i1 => ?_⟩
  rw [e65]
  exact (u4 i i0 i1).fr (hf _ (hj _ (by omega) (by omega)))
theorem CX.fr {s2 : Sg} {J : Int → Prop} (hx : CX s 48 tw T A) (hf : Fr J s s2) (h48 : ∀ o, 48 ≤ o → o ≤ 54 → ¬ J o) (hT : ∀ o, 4 ≤ o → o ≤ 45 → J o → Jk o) : CX s2 48 tw T A := by
  obtain ⟨q1, q2, q3, q4, q5, q6, q7⟩ := hx
  refine ⟨q1, q2, ?_, q4.fr hf (fun o o1 o2 o3 q => ?_), q5.fr hf (fun o o1 o2 => h48 o o1 (by omega)), q6, q7⟩
  · rw [hf 48 (h48 48 (by decide) (by decide))]; exact q3
  · unfold isT at q2
    have := hT o (by omega) (by omega) q
    unfold Jk at this
    omega
theorem CX.cz (hx : CX s 48 tw T A) : CZ s 48 tw T (A, s 48 10, s 48 11) (s 48 12) := ⟨hx, rfl, rfl, rfl⟩
/-- an act begins: the world is kept for undoing -/
theorem C_saves (h : CS s tw T A u U) : Mw g (e + 1) M_X1_save [(10, 65), (19, 48)] s (fun _ s' => CS s' tw T A (puN u) (puU u U A) ∧ Fr (fun o => 65 ≤ o ∧ o ≤ 86) s s') := by
  obtain ⟨h1, h2, h3, h4, h5, h6, h7⟩ := h
  refine (C_save h2 h3.2.1 h6).imp (fun _ s' q => ⟨⟨?_, ?_, h3, h4, h5, q.1, h7.pu h3 h5 h6.2.1.2⟩, q.2⟩)
  · rw [q.2 1 (by omega)]; exact h1
  · exact h2.fr q.2 (fun o o1 o2 => by omega) (fun o o1 o2 q => by omega)
theorem aheA_y (hT : TOK T) : ∀ (n : Nat) (A : Wd), WOK T A → A 0 1 + n ≤ 1000 → aheA T n A 0 1 = A 0 1 + n := by
  intro n
  induction n with
  | zero => intro A _ _; show A 0 1 = A 0 1 + 0; omega
  | succ n ih =>
    intro A hW hy
    show aheA T n (pasR T 0 A).1 0 1 = _
    rw [ih _ (pasR_ok hT hW (by omega)) (by rw [(pasR_y hT hW (by omega)).1]; omega), (pasR_y hT hW (by omega)).1]
    omega
theorem aheB_bd (hT : TOK T) : ∀ (n : Nat) (A : Wd), WOK T A → A 0 1 + n ≤ 999 → 0 ≤ aheB T n A ∧ aheB T n A ≤ 8 * n := by
  intro n
  induction n with
  | zero => intro A _ _; exact ⟨Int.le_refl 0, by show (0 : Int) ≤ 8 * 0; omega⟩
  | succ n ih =>
    intro A hW hy
    have p := pasA_R (fr := 0) (f := 0) (b := 0) (by omega) hT hW (by decide) (by decide)
    have i := ih _ (pasR_ok (fr := 0) hT hW (by omega)) (by rw [(pasR_y hT hW (by omega)).1]; omega)
    show 0 ≤ (pasR T 0 A).2 + aheB T n (pasR T 0 A).1 ∧ (pasR T 0 A).2 + aheB T n (pasR T 0 A).1 ≤ 8 * ((n + 1 : Nat) : Int)
    omega
theorem yl_loop {n : Int} {Q : Int → Sg → Prop} (hF : TF T) (n1 : n ≤ 1000) : ∀ (m : Nat) (k : Int) (s0 : Sg) (X : WX) (bb : Int), k + m = n → 0 ≤ k → CZ s0 48 tw T X bb → WOK T X.1 → X.1 0 1 + m ≤ 999 → (0 ≤ bb ∧ bb + 8 * m ≤ 100000) →
    (∀ (s' : Sg), CX s' 48 tw T (aheA T m X.1) → WOK T (aheA T m X.1) → Fr (Jw 48) s0 s' → Q (bb + aheB T m X.1) s') → P_X12_years_35 g (e + 6) Q s0 n k := by
  intro m
  induction m with
  | zero =>
    intro k s0 X bb hk k0 hx hW hy hb hQ
    refine S_X12_years_35 ⟨fun _ => ?_, fun q => absurd (by omega) q⟩
    rw [show s0 48 12 = bb from hx.2.2.2]
    have := hQ s0 hx.1 hW Fr.rf
    rw [show bb + aheB T 0 X.1 = bb from Int.add_zero _] at this
    exact this
  | succ m ih =>
    intro k s0 X bb hk k0 hx hW hy hb hQ
    have hT := hx.1.ok
    refine S_X12_years_35 ⟨fun q => by omega, fun _ => (C_passYear hx hF hW).imp (fun _ s2 h2 => ?_)⟩
    rw [w32_of (by omega) (by omega)]
    obtain ⟨p1, p2, p3, p4⟩ := pasA_R (fr := 0) (f := X.2.2) (b := bb) (by omega) hT hW hb.1 (by omega)
    have py := pasR_y (fr := 0) hT hW (by omega)
    refine ih (k + 1) s2 _ _ (by omega) (by omega) h2.1 (pasA_ok hT hW) ?_ (by omega) (fun s' c1 c2 c3 => ?_)
    · show (pasA T 0 X.1 X.2.2 bb).1 0 1 + m ≤ 999
      rw [p1, py.1]; omega
    · have c1 : CX s' 48 tw T (aheA T m (pasA T 0 X.1 X.2.2 bb).1) := c1
      have c2 : WOK T (aheA T m (pasA T 0 X.1 X.2.2 bb).1) := c2
      show Q ((pasA T 0 X.1 X.2.2 bb).2 + aheB T m (pasA T 0 X.1 X.2.2 bb).1) s'
      rw [p1] at c1 c2 ⊢
      rw [p2, Int.add_assoc]
      exact hQ s' c1 c2 (h2.2.tr c3)
theorem C_canPass {n : Int} (hx : CX s 48 tw T A) (hW : WOK T A) : Mw g (e + 1) M_X12_canPass [(20, 1), (0, n)] s (Ex (if (1 ≤ n ∧ n ≤ 100) ∧ A 0 1 + n ≤ 999 then 1 else 0) s) := by
  have a1 := hW.1.1
  refine S_X12_canPass (fun _ => ⟨fun q => ⟨by rw [if_neg (by omega)], rfl⟩, fun q => ⟨fun q2 => ⟨by rw [if_neg (by omega)], rfl⟩, fun q2 => ?_⟩⟩)
  rw [hx.y, w32_of (by omega) (by omega)]
  exact ⟨fun q3 => ⟨by rw [if_neg (by omega)], rfl⟩, fun q3 => ⟨by rw [if_pos (by omega)], rfl⟩⟩
theorem C_years {n : Int} (h : CS s tw T A u U) : Mw g (e + 7) M_X12_years [(20, 1), (0, n)] s (fun r s' => (¬ okY A n → r = -1 ∧ s' = ups s 91 2 (w32 (s 91 2 + 1))) ∧ (okY A n → r = aheB T n.toNat A ∧ CS s' tw T (aheA T n.toNat A) (puN u) (puU u U A) ∧ Fr Ja s s')) := by
  have hW := h.2.2.1
  have hT := h.2.1.ok
  have a1 := hW.1.1
  refine S_X12_years (fun _ => Mw.ex (C_canPass h.2.1 hW) ⟨fun q => (C_saves h).imp (fun _ s4 h4 s5 e5 => ?_), fun q => Mw.ex (C_refuse (by decide) (by decide)) ⟨fun _ => ⟨rfl, rfl⟩, fun z => ?_⟩⟩)
  · have ok : okY A n := Classical.byContradiction (fun z => by
      have z : ¬ ((1 ≤ n ∧ n ≤ 100) ∧ A 0 1 + n ≤ 999) := z
      rw [if_neg z] at q; omega)
    obtain ⟨⟨ok1, ok2⟩, ok3⟩ := id ok
    have x5 := h4.1.2.1.cz.cnb (x := 0)
    rw [← e5] at x5
    have f5 : Fr Ja s s5 := by
      rw [e5]
      exact (h4.2.wk (fun o ho => Or.inr ho)).tr (Fr.up (Or.inl Jw_0))
    refine yl_loop h.2.2.2.1 (by omega) n.toNat 0 s5 _ 0 (by omega) (by decide) x5 hW (by show A 0 1 + (n.toNat : Int) ≤ 999; omega) (by omega) (fun s' c1 c2 c3 => ?_)
    have c1 : CX s' 48 tw T (aheA T n.toNat A) := c1
    have c2 : WOK T (aheA T n.toNat A) := c2
    have fs : Fr Ja s s' := f5.tr (c3.wk (fun o ho => Or.inl ho))
    show (¬ okY A n → 0 + aheB T n.toNat A = -1 ∧ _) ∧ (okY A n → 0 + aheB T n.toNat A = _ ∧ _ ∧ _)
    rw [Int.zero_add]
    refine ⟨fun z => absurd ok z, fun _ => ⟨rfl, ⟨?_, c1, c2, h.2.2.2.1, ?_, ?_, h4.1.2.2.2.2.2.2⟩, fs⟩⟩
    · rw [fs 1 Ja_n1]; exact h.1
    · rw [aheA_y hT _ _ hW (by omega)]; omega
    · have u5 : UC s5 (puN u) (puU u U A) := h4.1.2.2.2.2.2.1.fr (J := fun o => o = 48) (by rw [e5]; exact Fr.up rfl) (fun o o1 o2 => by omega)
      exact u5.fr c3 (fun o o1 o2 => by unfold Jw Jk; omega)
  · exact absurd z (fun y => by
      have y : (1 ≤ n ∧ n ≤ 100) ∧ A 0 1 + n ≤ 999 := y
      rw [if_pos y] at q; omega)
theorem WOK.upA {c v : Int} (hW : WOK T A) (v0 : 0 ≤ v) (v6 : v < 6) (vh : c < T 1 1 → v < T 1 0) : WOK T (ups A 1 c v) := by
  have ea : ∀ a, a ≠ 1 → ups A 1 c v a = A a := fun a ha => ups_at _ ha
  refine ⟨hW.1.upA v0 v6 vh, hW.2.1.eq (ea 3 (by decide)) (ea 4 (by decide)), ?_⟩
  unfold WH
  rw [ea 3 (by decide), ea 4 (by decide), ea 5 (by decide)]
  refine ⟨hW.2.2.1, fun k k0 k8 hk => ?_⟩
  rw [ageS_eq (by rw [ea 0 (by decide)])]
  exact hW.2.2.2 k k0 k8 hk
def okG (T : Tn) (A : Wd) (c h : Int) : Prop := (0 ≤ c ∧ c < T 1 1) ∧ (0 ≤ h ∧ h < T 1 0) ∧ A 1 c ≠ h
theorem C_go {c h : Int} (hs : CS s tw T A u U) : Mw g (e + 3) M_X12_go [(20, 1), (0, c), (0, h)] s (fun r s' => (¬ okG T A c h → r = 0 ∧ s' = ups s 91 3 (w32 (s 91 3 + 1))) ∧ (okG T A c h → r = 1 ∧ CS s' tw T (ups A 1 c h) (puN u) (puU u U A) ∧ Fr Ja s s')) := by
  have hW := hs.2.2.1
  have hx := hs.2.1
  have hT := hx.ok
  have b8 := hT.2.1
  have b6 := hT.1
  have no : ∀ x0, (x0 = 0) → ¬ okG T A c h → P_X12_go_28 g (e + 2) (fun r s' => (¬ okG T A c h → r = 0 ∧ s' = ups s 91 3 (w32 (s 91 3 + 1))) ∧ (okG T A c h → r = 1 ∧ CS s' tw T (ups A 1 c h) (puN u) (puU u U A) ∧ Fr Ja s s')) s c h x0 := fun x0 h0 hn =>
    S_X12_go_28 ⟨fun _ => S_X12_go_46 (Mw.ex (C_refuse (by decide) (by decide)) ⟨fun _ => ⟨rfl, rfl⟩, fun z => absurd z hn⟩), fun z => absurd h0 z⟩
  refine S_X12_go (fun _ _ => Mw.ex (C_isChild hs.1 hx) ⟨fun q => S_X12_go_27 (no 0 rfl (fun z => ?_)), fun q => ⟨fun q2 => S_X12_go_27 (no 0 rfl (fun z => ?_)), fun q2 => ?_⟩⟩)
  · rw [if_pos z.1] at q; omega
  · have := z.2.1; omega
  · have hc : 0 ≤ c ∧ c < T 1 1 := Classical.byContradiction (fun z => by rw [if_neg z] at q; omega)
    rw [hs.1]
    refine Mw.ex (C_homeCount hx) ⟨fun q3 => S_X12_go_27 (no 0 rfl (fun z => ?_)), fun q3 => S_X12_go_28 ⟨fun z => by omega, fun _ => ⟨⟨by omega, by omega⟩, fun q4 => ?_, fun q4 => ?_⟩⟩⟩
    · have := z.2.1; omega
    · rw [hx.o49] at q4
      have ok : okG T A c h := ⟨hc, ⟨by omega, by omega⟩, q4⟩
      refine (C_saves hs).imp (fun _ s2 h2 => ⟨⟨by omega, by omega⟩, fun s3 e3 => ⟨fun z => absurd ok z, fun _ => ⟨rfl, ?_, ?_⟩⟩⟩)
      · have hW2 := hW.upA (c := c) (v := h) (by omega) (by omega) (fun _ => by omega)
        have f3 : Fr (fun o => o = 49) s2 s3 := by rw [e3]; exact Fr.up rfl
        refine ⟨by rw [f3 1 (by decide)]; exact h2.1.1, ?_, hW2, hs.2.2.2.1, by rw [ups_o _ (by decide)]; exact hs.2.2.2.2.1, h2.1.2.2.2.2.2.1.fr f3 (fun o o1 o2 => by omega), h2.1.2.2.2.2.2.2⟩
        rw [e3]
        exact h2.1.2.1.up (a := 1) (by decide) (by decide) hW2.1
      · rw [e3]
        exact (h2.2.wk (fun o ho => Or.inr ho)).tr (Fr.up (Or.inl (Jw_in (th := 48) (a := 1) (by decide) (by decide))))
    · rw [hx.o49] at q4
      exact S_X12_go_46 (Mw.ex (C_refuse (by decide) (by decide)) ⟨fun _ => ⟨rfl, rfl⟩, fun z => absurd q4 z.2.2⟩)
def okP2 (T : Tn) (A : Wd) (f : Int) : Prop := (0 ≤ f ∧ f < T 0 13) ∧ bAnd (A 0 2) (bShl 1 f) = 0
theorem C_peace {f : Int} (hs : CS s tw T A u U) : Mw g (e + 2) M_X12_peace [(20, 1), (0, f)] s (fun r s' => (¬ okP2 T A f → r = 0 ∧ s' = ups s 91 3 (w32 (s 91 3 + 1))) ∧ (okP2 T A f → r = 1 ∧ CS s' tw T (reA A (bShl 1 f)) (puN u) (puU u U A) ∧ Fr Ja s s')) := by
  have hW := hs.2.2.1
  have hx := hs.2.1
  have b13 := hx.ok.2.2.2.1
  have no : ¬ okP2 T A f → P_X12_peace_29 g (e + 1) (fun r s' => (¬ okP2 T A f → r = 0 ∧ s' = ups s 91 3 (w32 (s 91 3 + 1))) ∧ (okP2 T A f → r = 1 ∧ CS s' tw T (reA A (bShl 1 f)) (puN u) (puU u U A) ∧ Fr Ja s s')) s := fun hn =>
    S_X12_peace_29 (Mw.ex (C_refuse (by decide) (by decide)) ⟨fun _ => ⟨rfl, rfl⟩, fun z => absurd z hn⟩)
  refine S_X12_peace (fun _ => ⟨fun q => no (fun z => ?_), fun q => ?_⟩)
  · have := z.1; omega
  · rw [hs.1, hx.t0, hx.en]
    refine ⟨fun q2 => no (fun z => ?_), fun q2 => ⟨fun q3 => ?_, fun q3 => no (fun z => q3 z.2)⟩⟩
    · have := z.1; omega
    · have ok : okP2 T A f := ⟨⟨by omega, by omega⟩, q3⟩
      have sb := bS10 (f := f) (by omega) (by omega)
      refine (C_saves hs).imp (fun _ s2 h2 s3 e3 => ⟨fun z => absurd ok z, fun _ => ⟨rfl, ?_, ?_⟩⟩)
      · have hW2 := hW.en sb.1 sb.2
        have f3 : Fr (fun o => o = 48) s2 s3 := by rw [e3]; exact Fr.up rfl
        rw [h2.1.2.1.en] at e3
        refine ⟨by rw [f3 1 (by decide)]; exact h2.1.1, ?_, hW2, hs.2.2.2.1, by rw [show reA A (bShl 1 f) 0 1 = A 0 1 from ups_k _ (by decide)]; exact hs.2.2.2.2.1, h2.1.2.2.2.2.2.1.fr f3 (fun o o1 o2 => by omega), h2.1.2.2.2.2.2.2⟩
        rw [e3]
        exact h2.1.2.1.up0 (by decide) hW2.1
      · rw [e3]
        exact (h2.2.wk (fun o ho => Or.inr ho)).tr (Fr.up (Or.inl Jw_0))
end CACTS
