/-! the reference: falls, freezes, passes -/
theorem fallX_w {T : Tn} : ∀ (m : Nat) (X : WX), inR X.2.1 → (fallX T m X).1 = (fallX T m (X.1, 0, 0)).1 ∧ (fallX T m X).2.1 = bOr X.2.1 (fallX T m (X.1, 0, 0)).2.1 := by
  intro m
  induction m with
  | zero => intro X hw; exact ⟨rfl, (bOr_0 hw).symm⟩
  | succ m ih =>
    intro X hw
    unfold fallX
    by_cases h : looS T X.1 = -1
    · rw [if_pos h, if_pos h]
      exact ⟨rfl, (bOr_0 hw).symm⟩
    · rw [if_neg h, if_neg h]
      obtain ⟨d1, d2⟩ := dropX_w X (looS T X.1) hw
      have r1 : inR (dropX X (looS T X.1)).2.1 := by rw [d2]; exact bOr_in
      have r2 : inR (dropX (X.1, 0, 0) (looS T X.1)).2.1 := by
        have := (dropX_w (X.1, 0, 0) (looS T X.1) ⟨by show (-2147483648 : Int) ≤ 0; decide, by show (0 : Int) ≤ 2147483647; decide⟩).2
        rw [this]; exact bOr_in
      obtain ⟨i1, i2⟩ := ih (dropX X (looS T X.1)) r1
      obtain ⟨j1, j2⟩ := ih (dropX (X.1, 0, 0) (looS T X.1)) r2
      show (fallX T m (dropX X (looS T X.1))).1 = (fallX T m (dropX (X.1, 0, 0) (looS T X.1))).1 ∧ (fallX T m (dropX X (looS T X.1))).2.1 = bOr X.2.1 (fallX T m (dropX (X.1, 0, 0) (looS T X.1))).2.1
      refine ⟨by rw [i1, j1, d1], ?_⟩
      rw [i2, j2, d1, d2, bOr_as]
theorem loo_in {T : Tn} {A : Wd} (hT : TOK T) (h : looS T A ≠ -1) : 0 ≤ looS T A ∧ looS T A < 64 ∧ A 4 (looS T A) ≠ -1 := by
  have t4 := hT.2.2.1
  rcases looF_le (T := T) (A := A) (T 1 2).toNat 0 (by omega) with z | ⟨z1, z2, z3⟩
  · exact absurd z h
  · exact ⟨z1, by unfold looS; omega, z3⟩
theorem fallX_bd {T : Tn} (hT : TOK T) : ∀ (m : Nat) (X : WX), WOK T X.1 → 0 ≤ X.2.1 → X.2.1 < 256 → 0 ≤ (fallX T m X).2.1 ∧ (fallX T m X).2.1 < 256 := by
  intro m
  induction m with
  | zero => intro X _ h0 h1; exact ⟨h0, h1⟩
  | succ m ih =>
    intro X hW h0 h1
    unfold fallX
    split
    · exact ⟨h0, h1⟩
    · rename_i h
      obtain ⟨z1, z2, z3⟩ := loo_in hT h
      obtain ⟨d1, d2⟩ := dropX_w X (looS T X.1) ⟨by omega, by omega⟩
      have db := (dropX_bit (A := X.1) hW z1 z2 z3).1
      have ob := bOr_lt (n := 8) h0 h1 db.1 db.2 (by decide)
      exact ih _ (dropX_spec hW z1 z2 z3).1 (by rw [d2]; exact ob.1) (by rw [d2]; exact ob.2)
def yeR (A : Wd) : Wd := ups A 0 1 (A 0 1 + 1)
def preR (T : Tn) (fr : Int) (A : Wd) : Wd := if fr = 0 then yeR (raiF T (T 1 1).toNat 0 A) else freF T (T 1 1).toNat 0 (yeR (raiF T (T 1 1).toNat 0 A))
def falR (T : Tn) (fr : Int) (A : Wd) : WX := fallX T 8 (preR T fr A, 0, 0)
def pasR (T : Tn) (fr : Int) (A : Wd) : Wd × Int := bluF T (falR T fr A).2.1 (T 1 1).toNat 0 ((falR T fr A).1, 0)
/-- as Fm; builtNow and fellNow may change too -/
def Fp (v : Int) (s s2 : Sg) : Prop :=
  (∀ o, (o < 122 ∨ 132 < o) → o ≠ 92 → s2 o = s o) ∧ (∀ k, k ≠ 63 → k ≠ 64 → s2 92 k = s 92 k) ∧
  (∀ o i, (o = 122 ∨ o = 123 ∨ o = 129) → i ≠ v → s2 o i = s o i) ∧ (∀ o i, 124 ≤ o → o ≤ 128 → (i < 8 * v ∨ 8 * v + 8 ≤ i) → s2 o i = s o i) ∧ (∀ i, (i < 240 * v ∨ 240 * v + 240 ≤ i) → s2 130 i = s 130 i)
section RPASS
variable {g : GT} {e : Nat} {s : Sg} {v b : Int} {T : Tn} {A : Wd} {K : Prop}
theorem Fp.of {s2 : Sg} (h : Fm v s s2) : Fp v s s2 := ⟨h.1, fun k _ _ => by rw [h.2.1], h.2.2⟩
theorem Fp.rf : Fp v s s := Fp.of Fm.rf
theorem Fp.tr {s2 s3 : Sg} (h : Fp v s s2) (h2 : Fp v s2 s3) : Fp v s s3 :=
  ⟨fun o o1 o2 => (h2.1 o o1 o2).trans (h.1 o o1 o2), fun k k1 k2 => (h2.2.1 k k1 k2).trans (h.2.1 k k1 k2), fun o i o1 i1 => (h2.2.2.1 o i o1 i1).trans (h.2.2.1 o i o1 i1), fun o i o1 o2 i1 => (h2.2.2.2.1 o i o1 o2 i1).trans (h.2.2.2.1 o i o1 o2 i1), fun i i1 => (h2.2.2.2.2 i i1).trans (h.2.2.2.2 i i1)⟩
theorem Fp.up {i x : Int} (h : i = 63 ∨ i = 64) : Fp v s (ups s 92 i x) :=
  ⟨fun o _ o2 => ups_at _ o2, fun k k1 k2 => ups_k _ (by omega), fun o j o1 _ => ups_o _ (by omega), fun o j o1 o2 _ => ups_o _ (by omega), fun j _ => ups_o _ (by decide)⟩
theorem falls_loop : ∀ (m : Nat) (X : WX) (s0 : Sg), stN X.1 ≤ m → RZ K s0 v b T X.1 → WOK T X.1 → inR X.2.1 → Fm v s s0 →
    P_X13_falls_8 g (e + 5) (fun r s' => r = (fallX T m X).2.1 ∧ RZ K s' v b T (fallX T m X).1 ∧ Fm v s s') s0 v X.2.1 (looC T X.1) := by
  intro m
  induction m with
  | zero =>
    intro X s0 hs h hW hw hf
    have hl : looS T X.1 = -1 := Classical.byContradiction (fun z => by
      obtain ⟨z1, z2, z3⟩ := loo_in h.1.ok z
      have := dropX_less hW z1 z2 z3
      have := (cntF_le 8 (fun c => (dropX X (looS T X.1)).1 3 c != -1)).1
      unfold stN at *
      omega)
    have hc : looC T X.1 = -1 := by unfold looC; rw [if_pos hl]
    rw [hc]
    exact S_X13_falls_8 ⟨fun _ => ⟨rfl, h, hf⟩, fun q => absurd rfl q⟩
  | succ m ih =>
    intro X s0 hs h hW hw hf
    by_cases hl : looS T X.1 = -1
    · have hc : looC T X.1 = -1 := by unfold looC; rw [if_pos hl]
      have hr : fallX T (m + 1) X = X := by unfold fallX; rw [if_pos hl]
      rw [hc, hr]
      exact S_X13_falls_8 ⟨fun _ => ⟨rfl, h, hf⟩, fun q => absurd rfl q⟩
    · obtain ⟨z1, z2, z3⟩ := loo_in h.1.ok hl
      obtain ⟨c0, c8, cp⟩ := (hW.2.1.2 _ z1 z2).resolve_left z3
      have c1 := (hW.2.2.2 _ c0 c8 (by rw [cp]; omega)).1
      have hc : looC T X.1 = X.1 4 (looS T X.1) := by unfold looC; rw [if_neg hl]
      have hr : fallX T (m + 1) X = fallX T m (dropX X (looS T X.1)) := by
        show (if looS T X.1 = -1 then X else fallX T m (dropX X (looS T X.1))) = _
        rw [if_neg hl]
      have ls := dropX_less hW z1 z2 z3
      obtain ⟨d1, d2⟩ := dropX_w X (looS T X.1) hw
      rw [hc, hr]
      refine S_X13_falls_8 ⟨fun q => absurd q z3, fun _ => (R_takesDown h hW c0 c1 (by rw [cp]; omega)).imp (fun r1 s2 h2 => ?_)⟩
      rw [cp] at h2
      have hW2 := (dropX_spec hW z1 z2 z3).1
      have hz2 : RZ K s2 v b T (dropX X (looS T X.1)).1 := by rw [d1]; exact h2.2.1
      refine Mw.ex (R_loose hz2.1 hW2) ?_
      have := ih (dropX X (looS T X.1)) s2 (by omega) hz2 hW2 (by rw [d2]; exact bOr_in) (hf.tr h2.2.2)
      rw [h2.1, ← d2]
      exact this
theorem R_falls (h : RZ K s v b T A) (hW : WOK T A) : Mw g (e + 6) M_X13_falls [(21, 92), (0, v)] s (fun r s' => r = (fallX T 8 (A, 0, 0)).2.1 ∧ RZ K s' v b T (fallX T 8 (A, 0, 0)).1 ∧ Fm v s s') :=
  S_X13_falls (fun _ => Mw.ex (R_loose h.1 hW) (falls_loop 8 (A, 0, 0) s ((cntF_le 8 _).2) h hW ⟨by show (-2147483648 : Int) ≤ 0; decide, by show (0 : Int) ≤ 2147483647; decide⟩ Fm.rf))
theorem RZ.up2 {c x : Int} (h : RZ K s v b T A) (c0 : 0 ≤ c) (c1 : c < T 1 1) : RZ K (ups s 125 (8 * v + c) x) v b T (ups A 2 c x) := by
  have b8 := h.1.ok.2.1
  have m : Fm v s (ups s 125 (8 * v + c) x) := Fm.up (by omega)
  have es : ∀ o, o ≠ 125 → ups s 125 (8 * v + c) x o = s o := fun o ho => ups_at _ ho
  have ea : ∀ o, o ≠ 2 → ups A 2 c x o = A o := fun o ho => ups_at _ ho
  refine ⟨⟨h.1.1.fv m, h.1.2.1, ?_, ?_, ?_, fun k k0 k1 => ?_⟩, fun k => ?_⟩
  · rw [es 122 (by decide), ea 0 (by decide)]; exact h.1.2.2.1
  · rw [es 123 (by decide), ea 0 (by decide)]; exact h.1.2.2.2.1
  · rw [es 129 (by decide)]; exact h.1.2.2.2.2.1
  · obtain ⟨x1, x2, x3, x4, x5⟩ := h.1.c k0 k1
    rw [es 124 (by decide), es 126 (by decide), es 127 (by decide), es 128 (by decide), ea 1 (by decide), ea 3 (by decide)]
    refine ⟨x1, ?_, x3, x4, x5⟩
    by_cases z : k = c
    · rw [z, ups_eq, ups_eq]
    · rw [ups_k _ (by omega), ups_k _ z]; exact x2
  · have hr := (h.2 k).eq (B := ups A 2 c x) (ups_o _ (by decide)) (ups_at _ (by decide))
    unfold RK at hr ⊢
    rw [es 129 (by decide), es 130 (by decide)]
    exact hr
theorem RZ.yea (h : RZ K s v b T A) : RZ K (ups s 122 v (A 0 1 + 1)) v b T (yeR A) := by
  have m : Fm v s (ups s 122 v (A 0 1 + 1)) := Fm.up (by omega)
  have es : ∀ o, o ≠ 122 → ups s 122 v (A 0 1 + 1) o = s o := fun o ho => ups_at _ ho
  have ea : ∀ o, o ≠ 0 → yeR A o = A o := fun o ho => ups_at _ ho
  refine ⟨⟨h.1.1.fv m, h.1.2.1, ?_, ?_, ?_, fun k k0 k1 => ?_⟩, fun k => ?_⟩
  · rw [ups_eq]; exact (ups_eq A 0 1 (A 0 1 + 1)).symm
  · rw [es 123 (by decide), show yeR A 0 2 = A 0 2 from ups_k _ (by decide)]; exact h.1.2.2.2.1
  · rw [es 129 (by decide)]; exact h.1.2.2.2.2.1
  · rw [es 124 (by decide), es 125 (by decide), es 126 (by decide), es 127 (by decide), es 128 (by decide), ea 1 (by decide), ea 2 (by decide), ea 3 (by decide)]
    exact h.1.c k0 k1
  · have hr := (h.2 k).eq (B := yeR A) (ups_k _ (by decide)) (ups_at _ (by decide))
    unfold RK at hr ⊢
    rw [es 129 (by decide), es 130 (by decide)]
    exact hr
theorem RZ.fl {i x : Int} (h : RZ K s v b T A) (hi : i = 63 ∨ i = 64) : RZ K (ups s 92 i x) v b T A := by
  have es : ∀ o, o ≠ 92 → ups s 92 i x o = s o := fun o ho => ups_at _ ho
  refine ⟨⟨⟨by rw [ups_k _ (by omega)]; exact h.1.bk, h.1.b2, h.1.rt.fr (J := fun o => o = 92) (Fr.up rfl) (fun o o1 o2 => by omega), h.1.1.2.2.2⟩, h.1.2.1, ?_⟩, fun k => ?_⟩
  · unfold RW
    rw [es 122 (by decide), es 123 (by decide), es 124 (by decide), es 125 (by decide), es 126 (by decide), es 127 (by decide), es 128 (by decide), es 129 (by decide)]
    exact h.1.2.2
  · unfold RK
    rw [es 129 (by decide), es 130 (by decide)]
    exact h.2 k
theorem RZ.jm {s2 : Sg} (h : RZ K s v b T A) (hf : Fr Jm s s2) : RZ K s2 v b T A := by
  refine ⟨h.1.jm hf, fun k => ?_⟩
  have hr := h.2 k
  unfold RK at hr ⊢
  rw [hf 129 (by unfold Jm; omega), hf 130 (by unfold Jm; omega)]
  exact hr
theorem freezes_loop : ∀ (n : Nat) (c : Int) (s0 : Sg) (A : Wd), c + n = T 1 1 → 0 ≤ c → RZ K s0 v b T A → WOK T A → Fm v s s0 → P_X13_freezes_2 g (e + 1) (fun _ s' => RZ K s' v b T (freF T n c A) ∧ Fm v s s') s0 v c := by
  intro n
  induction n with
  | zero =>
    intro c s0 A hc c0 h hW hf
    have hb := h.1.b2
    refine S_X13_freezes_2 ?_
    rw [h.1.bk, h.1.nc]
    exact ⟨⟨by omega, by omega⟩, fun _ => ⟨h, hf⟩, fun q => absurd (by omega) q⟩
  | succ n ih =>
    intro c s0 A hc c0 h hW hf
    have hb := h.1.b2
    have hT := h.1.ok
    have b8 := hT.2.1
    have hv := h.1.2.1
    have hs := (hW.1.2.2.2.1 c c0 (by omega)).2
    have t := hT.2.2.2.2.2.2.2.2.2.2.2.2
    obtain ⟨x1, x2, x3, x4, x5⟩ := h.1.c c0 (show c < T 1 1 by omega)
    have hp := waP_n (pl_in hW.2.1 c0 (show c < 8 by omega))
    refine S_X13_freezes_2 ?_
    rw [h.1.bk, h.1.nc, w32_of (show _ ≤ 8 * v by omega) (by omega), w32_of (show _ ≤ 8 * v + c by omega) (by omega), w32_of (show _ ≤ c + 1 by omega) (by omega), x2, x3]
    unfold freF
    have hW1 := fre1_ok hT hW c0 (show c < 8 by omega)
    refine ⟨⟨by omega, by omega⟩, fun q => by omega, fun _ => ⟨⟨by omega, by omega⟩, fun q => ?_, fun q => ⟨⟨by omega, by omega⟩, Mw.ex (R_toldOf h.1.1 (by decide) (by decide)) ?_⟩⟩⟩
    · have e1 : fre1 T A c = A := by unfold fre1; rw [if_pos (hp.mp q)]
      rw [e1]
      exact ih (c + 1) s0 A (by omega) (by omega) h hW hf
    · rw [show (14 : Int) + 4 = 18 from rfl]
      have fin : ∀ (x : Int) (s3 : Sg), x = max 0 (A 2 c - T 0 18) → s3 = ups s0 125 (8 * v + c) x → P_X13_freezes_2 g (e + 1) (fun _ s' => RZ K s' v b T (freF T n (c + 1) (fre1 T A c)) ∧ Fm v s s') s3 v (c + 1) := by
        intro x s3 hx hs3
        have e1 : fre1 T A c = ups A 2 c x := by unfold fre1; rw [if_neg (fun z => q (hp.mpr z)), hx]
        refine ih (c + 1) s3 (fre1 T A c) (by omega) (by omega) ?_ hW1 ?_
        · rw [e1, hs3]; exact h.up2 c0 (by omega)
        · rw [hs3]; exact hf.tr (Fm.up (by omega))
      refine ⟨fun z => ⟨⟨by omega, by omega⟩, fun s3 e3 => fin 0 s3 (by omega) e3⟩, fun z => ⟨⟨by omega, by omega⟩, Mw.ex (R_toldOf h.1.1 (by decide) (by decide)) ⟨⟨by omega, by omega⟩, fun s6 e6 => ?_⟩⟩⟩
      rw [show (14 : Int) + 4 = 18 from rfl, x2, w32_of (by omega) (by omega)] at e6
      exact fin _ s6 (by omega) e6
theorem R_freezes (h : RZ K s v b T A) (hW : WOK T A) : Mw g (e + 2) M_X13_freezes [(21, 92), (0, v)] s (fun _ s' => RZ K s' v b T (freF T (T 1 1).toNat 0 A) ∧ Fm v s s') := by
  have b8 := h.1.ok.2.1
  exact S_X13_freezes (fun _ => freezes_loop (T 1 1).toNat 0 s A (by omega) (by decide) h hW Fm.rf)
theorem wh1_iff (hW : WOK T A) {c : Int} (c0 : 0 ≤ c) (c8 : c < 8) : whS T A c = 1 ↔ T 0 14 ≤ ageS T A c ∧ ageS T A c < T 0 15 := by
  unfold whS
  by_cases z : A 3 c = -1
  · rw [if_pos z]
    split
    · constructor <;> intro q <;> omega
    · split
      · constructor <;> intro q <;> omega
      · constructor <;> intro q <;> omega
  · rw [if_neg z]
    have := (hW.2.2.2 c c0 c8 z).2.2.2.2
    constructor <;> intro q <;> omega
theorem WOK.yeR (hW : WOK T A) (hy : A 0 1 ≤ 999) : WOK T (yeR A) := by
  obtain ⟨⟨n1, n2, n3, n4, n5⟩, hI, hH⟩ := hW
  have e1 : Jvm.Pilot.CStoneRaisedLaw_law_r9909_766940.yeR A 0 1 = A 0 1 + 1 := ups_eq _ _ _ _
  have ea : ∀ a, a ≠ 0 → Jvm.Pilot.CStoneRaisedLaw_law_r9909_766940.yeR A a = A a := fun a ha => ups_at _ ha
  refine ⟨?_, hI.eq (ea 3 (by decide)) (ea 4 (by decide)), ?_⟩
  · unfold WN
    rw [e1, ea 1 (by decide), ea 2 (by decide), show Jvm.Pilot.CStoneRaisedLaw_law_r9909_766940.yeR A 0 2 = A 0 2 from ups_k _ (by decide), show Jvm.Pilot.CStoneRaisedLaw_law_r9909_766940.yeR A 0 9 = A 0 9 from ups_k _ (by decide)]
    exact ⟨by omega, n2, n3, n4, n5⟩
  · unfold WH
    rw [ea 3 (by decide), ea 4 (by decide), ea 5 (by decide)]
    refine ⟨hH.1, fun c c0 c8 hc => ?_⟩
    have := hH.2 c c0 c8 hc
    unfold ageS at this ⊢
    rw [e1]
    exact ⟨this.1, this.2.1, this.2.2.1, this.2.2.2.1, by omega⟩
theorem raiF_0 : ∀ (n : Nat) (c : Int) (A : Wd), raiF T n c A 0 = A 0 := by
  intro n
  induction n with
  | zero => intro c A; rfl
  | succ n ih =>
    intro c A
    show raiF T n (c + 1) (rai1 T A c) 0 = _
    rw [ih]
    unfold rai1
    split
    · exact ups_at _ (by decide)
    · rfl
theorem preR_ok {fr : Int} (hT : TOK T) (hW : WOK T A) (hy : A 0 1 ≤ 999) : WOK T (preR T fr A) := by
  have b8 := hT.2.1
  have h1 := (raiF_ok (T := T) (T 1 1).toNat 0 A (by omega) (by omega) hW).yeR (by rw [raiF_0]; exact hy)
  unfold preR
  split
  · exact h1
  · exact freF_ok hT _ _ _ (by omega) (by omega) h1
theorem bluR_loop {w x64 : Int} (w0 : 0 ≤ w) (w1 : w < 256) : ∀ (n : Nat) (c : Int) (s0 : Sg) (Y : Wd × Int), c + n = T 1 1 → 0 ≤ c → RZ K s0 v b T Y.1 → WOK T Y.1 → s0 92 63 = Y.2 → (0 ≤ Y.2 ∧ Y.2 + n ≤ 100) → Fp v s s0 → s0 92 64 = x64 →
    P_X13_passes_115 g (e + 7) (fun _ s' => RZ K s' v b T (bluF T w n c Y).1 ∧ s' 92 63 = (bluF T w n c Y).2 ∧ s' 92 64 = x64 ∧ Fp v s s') s0 v w c := by
  intro n
  induction n with
  | zero =>
    intro c s0 Y hc c0 h hW h63 hY hf h64
    have hb := h.1.b2
    refine S_X13_passes_115 ?_
    rw [h.1.bk, h.1.nc]
    exact ⟨⟨by omega, by omega⟩, fun _ => ⟨h, h63, h64, hf⟩, fun q => absurd (by omega) q⟩
  | succ n ih =>
    intro c s0 Y hc c0 h hW h63 hY hf h64
    have hb := h.1.b2
    have hT := h.1.ok
    have b8 := hT.2.1
    have hbit := bAnd_bit (a := w) (k := c) w0 (by omega) c0 (by omega)
    refine S_X13_passes_115 ?_
    rw [h.1.bk, h.1.nc, w32_of (show _ ≤ c + 1 by omega) (by omega)]
    unfold bluF
    have skip : blu1 T w Y c = Y → P_X13_passes_115 g (e + 7) (fun _ s' => RZ K s' v b T (bluF T w n (c + 1) (blu1 T w Y c)).1 ∧ s' 92 63 = (bluF T w n (c + 1) (blu1 T w Y c)).2 ∧ s' 92 64 = x64 ∧ Fp v s s') s0 v w (c + 1) := by
      intro e1
      rw [e1]
      exact ih (c + 1) s0 Y (by omega) (by omega) h hW h63 (by omega) hf h64
    refine ⟨⟨by omega, by omega⟩, fun q => by omega, fun _ => Mw.ex (R_isOnShelf h.1 hW c0 (by omega)) ⟨fun q => skip ?_, fun q => Mw.ex (R_has2 w0 (by omega) c0 (by omega)) ⟨fun q2 => skip ?_, fun q2 => ?_⟩⟩⟩
    · unfold blu1
      rw [if_neg]
      intro z
      rw [if_pos z.1] at q
      omega
    · unfold blu1
      rw [if_neg]
      intro z
      rw [hbit.mp z.2] at q2
      simp at q2
    · have hsh : whS T Y.1 c = 2 := Classical.byContradiction (fun z => by rw [if_neg z] at q; omega)
      have hw0 : bAnd w (bShl 1 c) = 0 := by
        refine hbit.mpr ?_
        cases y : w.toNat.testBit c.toNat
        · rfl
        · rw [y] at q2; simp at q2
      have hw := wh2 hsh
      have e1 : blu1 T w Y c = (bldA T Y.1 c, if bldW T Y.1 c = -1 then Y.2 else w32 (Y.2 + 1)) := by unfold blu1; rw [if_pos ⟨hsh, hw0⟩]
      rw [e1, h63]
      have hW1 := bldA_ok hT hW c0 (show c < T 1 1 by omega) hw.1 hw.2
      refine (R_isBuilt h hW c0 (by omega) hw.1 hw.2).imp (fun r5 s6 h6 => ⟨fun z s7 e7 => ?_, fun z s7 e7 => ?_⟩)
      · have hm : bldW T Y.1 c = -1 := Classical.byContradiction (fun y => by rw [h6.1, if_neg y] at z; omega)
        rw [Int.add_zero, w32_of (by omega) (by omega)] at e7
        rw [if_pos hm]
        refine ih (c + 1) s7 (bldA T Y.1 c, Y.2) (by omega) (by omega) (by rw [e7]; exact h6.2.1.fl (Or.inl rfl)) hW1 (by rw [e7, ups_eq]) (by show 0 ≤ Y.2 ∧ Y.2 + n ≤ 100; omega) (by rw [e7]; exact (hf.tr (Fp.of h6.2.2)).tr (Fp.up (Or.inl rfl))) ?_
        rw [e7, ups_k _ (by decide), h6.2.2.2.1]
        exact h64
      · have hm : ¬ bldW T Y.1 c = -1 := fun y => by rw [h6.1, if_pos y] at z; omega
        rw [w32_of (by omega) (by omega)] at e7
        rw [if_neg hm, w32_of (by omega) (by omega)]
        refine ih (c + 1) s7 (bldA T Y.1 c, Y.2 + 1) (by omega) (by omega) (by rw [e7]; exact h6.2.1.fl (Or.inl rfl)) hW1 (by rw [e7, ups_eq]) (by show 0 ≤ Y.2 + 1 ∧ Y.2 + 1 + n ≤ 100; omega) (by rw [e7]; exact (hf.tr (Fp.of h6.2.2)).tr (Fp.up (Or.inl rfl))) ?_
        rw [e7, ups_k _ (by decide), h6.2.2.2.1]
        exact h64
theorem R_passes {fr : Int} (h : RZ K s v b T A) (hW : WOK T A) (hy : A 0 1 ≤ 999) : Mw g (e + 8) M_X13_passes [(21, 92), (0, v), (0, fr)] s (fun _ s' => RZ K s' v b T (pasR T fr A).1 ∧ s' 92 63 = (pasR T fr A).2 ∧ s' 92 64 = popF (falR T fr A).2.1 ∧ Fp v s s') := by
  have hT := h.1.ok
  have b8 := hT.2.1
  have hv := h.1.2.1
  have hb := h.1.b2
  have h93 : ∀ s1 : Sg, RZ K s1 v b T (preR T fr A) → Fm v s s1 → P_X13_passes_93 g (e + 7) (fun _ s' => RZ K s' v b T (pasR T fr A).1 ∧ s' 92 63 = (pasR T fr A).2 ∧ s' 92 64 = popF (falR T fr A).2.1 ∧ Fp v s s') s1 v := by
    intro s1 h1 f1
    have hp := preR_ok (fr := fr) hT hW hy
    have fb := fallX_bd hT 8 (preR T fr A, 0, 0) hp (Int.le_refl 0) (by show (0 : Int) < 256; decide)
    refine S_X13_passes_93 ((R_falls h1 hp).imp (fun r1 s2 h2 => ?_))
    rw [h2.1]
    refine Mw.ex (R_bits fb.1 (by omega)) (fun s5 e5 s6 e6 => ?_)
    have z6 : RZ K s6 v b T (falR T fr A).1 := by rw [e6, e5]; exact (h2.2.1.fl (Or.inr rfl)).fl (Or.inl rfl)
    have e64 : s6 92 64 = popF (falR T fr A).2.1 := by rw [e6, ups_k _ (by decide), e5, ups_eq]; rfl
    have f6 : Fp v s s6 := by rw [e6, e5]; exact ((Fp.of (f1.tr h2.2.2)).tr (Fp.up (Or.inr rfl))).tr (Fp.up (Or.inl rfl))
    exact bluR_loop fb.1 fb.2 (T 1 1).toNat 0 s6 ((falR T fr A).1, 0) (by omega) (by decide) z6 (fallX_ok 8 _ hT hp) (by rw [e6, ups_eq]) (by show (0 : Int) ≤ 0 ∧ 0 + (((T 1 1).toNat : Nat) : Int) ≤ 100; omega) f6 e64
  have loop : ∀ (n : Nat) (c : Int) (s0 : Sg) (B : Wd), c + n = T 1 1 → 0 ≤ c → RZ K s0 v b T B → WOK T B → Fm v s s0 → B 0 1 ≤ 999 → raiF T n c B = raiF T (T 1 1).toNat 0 A → P_X13_passes_2 g (e + 7) (fun _ s' => RZ K s' v b T (pasR T fr A).1 ∧ s' 92 63 = (pasR T fr A).2 ∧ s' 92 64 = popF (falR T fr A).2.1 ∧ Fp v s s') s0 v fr c := by
    intro n
    induction n with
    | zero =>
      intro c s0 B hc c0 h0 hB hf hy0 hr
      have hr : B = raiF T (T 1 1).toNat 0 A := hr
      have hyb := hB.1.1
      refine S_X13_passes_2 ?_
      rw [h0.1.bk, h0.1.nc, h0.1.2.2.1, w32_of (by omega) (by omega)]
      refine ⟨⟨by omega, by omega⟩, fun _ => ⟨⟨hv.1, hv.2⟩, ⟨hv.1, hv.2⟩, fun s1 e1 => ?_⟩, fun q => absurd (by omega) q⟩
      have z1 : RZ K s1 v b T (yeR B) := by rw [e1]; exact h0.yea
      have f1 : Fm v s s1 := by rw [e1]; exact hf.tr (Fm.up (by omega))
      refine ⟨fun q => h93 s1 ?_ f1, fun q => (R_freezes z1 (hB.yeR hy0)).imp (fun _ s3 h3 => h93 s3 ?_ (f1.tr h3.2))⟩
      · unfold preR; rw [if_pos q, ← hr]; exact z1
      · unfold preR; rw [if_neg q, ← hr]; exact h3.1
    | succ n ih =>
      intro c s0 B hc c0 h0 hB hf hy0 hr
      have hr : raiF T n (c + 1) (rai1 T B c) = raiF T (T 1 1).toNat 0 A := hr
      have c8 : c < 8 := by omega
      have hcc := hB.1.2.2.2.1 c c0 c8
      have hhome := hB.1.2.2.2.2 c c0 (show c < T 1 1 by omega)
      have hyb := hB.1.1
      have w1 := wh1_iff hB c0 c8
      have hB1 := rai1_ok hB c0 c8
      refine S_X13_passes_2 ?_
      rw [h0.1.bk, h0.1.nc, w32_of (show _ ≤ 8 * v by omega) (by omega), w32_of (show _ ≤ 8 * v + c by omega) (by omega), w32_of (show _ ≤ c + 1 by omega) (by omega)]
      refine ⟨⟨by omega, by omega⟩, fun q => by omega, fun _ => Mw.ex (R_isRaised h0.1 hB.1 c0 (by omega)) ⟨fun q => ?_, fun q => ⟨⟨by omega, by omega⟩, Mw.ex (R_age h0.1 hB.1 c0 (by omega)) (Mw.ex (R_strong h0.1 c0 (by omega)) ⟨⟨hv.1, hv.2⟩, ?_⟩)⟩⟩⟩
      · have e1 : rai1 T B c = B := by
          unfold rai1
          rw [if_neg]
          intro z
          rw [if_pos (w1.mp z)] at q
          omega
        rw [e1] at hr
        exact ih (c + 1) s0 B (by omega) (by omega) h0 hB hf hy0 hr
      · have hra : whS T B c = 1 := w1.mpr (Classical.byContradiction (fun z => by rw [if_neg z] at q; omega))
        rw [(h0.1.c c0 (show c < T 1 1 by omega)).1, h0.1.2.2.1]
        have ha : -99 ≤ ageS T B c ∧ ageS T B c ≤ 1000 := by
          have b2 := (hT.2.2.2.2.2.1 c c0 c8).2.1
          unfold ageS
          omega
        refine (R_raised h0.1.1 hcc.1.1 hhome ha hcc.2 ⟨hyb.1, by omega⟩).imp (fun r10 s11 h11 => ⟨⟨by omega, by omega⟩, fun s12 e12 => ?_⟩)
        have e1 : rai1 T B c = ups B 2 c r10 := by unfold rai1; rw [if_pos hra, h11.1]
        refine ih (c + 1) s12 (rai1 T B c) (by omega) (by omega) ?_ hB1 ?_ ?_ hr
        · rw [e1, e12]; exact (h0.jm h11.2).up2 c0 (by omega)
        · rw [e12]; exact (hf.tr (Fm.jm h11.2)).tr (Fm.up (by omega))
        · rw [e1, ups_o _ (by decide)]; exact hy0
  exact S_X13_passes (fun _ _ => loop (T 1 1).toNat 0 s A (by omega) (by decide) h hW Fm.rf hy rfl)
end RPASS
