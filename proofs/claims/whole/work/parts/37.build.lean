/-! the class: foes, freeSpot, isPeaceful, mayLie, buildIn -/
def foeF (T : Tn) (c en : Int) : Nat → Int
  | 0 => 0
  | n + 1 => if bAnd en (bShl 1 n) = 0 ∧ bAnd (T 13 n) (bShl 1 c) ≠ 0 then bOr (foeF T c en n) (bAnd (T 13 n) (bXor (bShl 1 c) (-1))) else foeF T c en n
def foeS (T : Tn) (c en : Int) : Int := foeF T c en (T 0 13).toNat
def besF (A : Wd) : Nat → Int → Int → Int
  | 0, b, _ => b
  | n + 1, b, k => besF A n (if A 5 b ≤ A 5 k then b else k) (k + 1)
def besS (T : Tn) (A : Wd) (w : Int) : Int := besF A (T 11 w - 1).toNat (4 * w) (4 * w + 1)
def freS (T : Tn) (A : Wd) (w : Int) : Int := if T 12 w ≤ A 5 (besS T A w) then -1 else 4 * besS T A w + A 5 (besS T A w)
def leftS (A : Wd) (p : Int) : Int := if p % 16 < 4 then -1 else A 4 (p - 4)
def riteS (A : Wd) (p : Int) : Int := if 12 ≤ p % 16 then -1 else A 4 (p + 4)
def undS (A : Wd) (p : Int) : Int := if p % 4 ≤ 0 then -1 else A 4 (p - 1)
def bitS (x : Int) : Int := if x = -1 then 0 else bShl 1 x
def stgS (A : Wd) (x : Int) : Int := if x = -1 then 0 else A 2 x
def nebS (A : Wd) (p : Int) : Int := bOr (bitS (leftS A p)) (bitS (riteS A p))
def peaS (T : Tn) (A : Wd) (c p : Int) : Bool := nebS A p == 0 || bAnd (nebS A p) (foeS T c (A 0 2)) == 0
def mayS (T : Tn) (A : Wd) (c p : Int) : Bool := T 17 2 == 0 || evS (T 18) (facS T (A 1 c) (ageS T A c) (A 2 c) (A 0 1) (p % 4) (stgS A (leftS A p)) (stgS A (undS A p))) (T 17 2) != 0
def tryS (T : Tn) (A : Wd) (c w : Int) : Bool := freS T A w != -1 && (peaS T A c (freS T A w) && (mayS T A c (freS T A w) && weaS T (putA A c (freS T A w)) w == -1))
def bldW (T : Tn) (A : Wd) (c : Int) : Int := scanF (T 1 2).toNat 0 (tryS T A c)
def bldA (T : Tn) (A : Wd) (c : Int) : Wd := if bldW T A c = -1 then A else keepA (putA A c (freS T A (bldW T A c))) c (bldW T A c) 1
section BUILD
variable {g : GT} {e : Nat} {s : Sg} {th tw : Int} {T : Tn} {A : Wd}
theorem foes_loop {c en : Int} (hx : CT s tw T) (hT : TOK T) : ∀ (m n : Nat), n + m = (T 0 13).toNat → P_X9_foes_5 g e (Ex (foeS T c en) s) s tw c en (foeF T c en n) n := by
  intro m
  have t13 := hx.2 13 (by decide) (by decide) (by decide)
  have b13 := hT.2.2.2.1
  induction m with
  | zero =>
    intro n hn
    refine S_X9_foes_5 ⟨fun _ => ⟨?_, rfl⟩, fun q => absurd ?_ q⟩
    · unfold foeS; rw [← hn]; rfl
    · rw [hx.1]; omega
  | succ m ih =>
    intro n hn
    have h := ih (n + 1) (by omega)
    rw [show (((n + 1 : Nat)) : Int) = (n : Int) + 1 by omega] at h
    refine S_X9_foes_5 ⟨fun q => ?_, fun _ => ⟨fun h1 => S_X9_foes_28 ⟨fun _ => ?_, fun q => absurd rfl q⟩, fun h1 => S_X9_foes_28 ⟨fun q => by omega, fun _ => ⟨⟨by omega, by omega⟩, fun h2 => ?_, fun h2 => ⟨⟨by omega, by omega⟩, ?_⟩⟩⟩⟩⟩
    · rw [hx.1] at q; omega
    · rw [w32_of (by omega) (by omega)]
      unfold foeF at h
      rw [if_neg (fun z => h1 z.1)] at h
      exact h
    · rw [w32_of (by omega) (by omega)]
      rw [t13] at h2
      unfold foeF at h
      rw [if_neg (fun z => z.2 h2)] at h
      exact h
    · rw [w32_of (by omega) (by omega), t13]
      rw [t13] at h2
      unfold foeF at h
      rw [if_pos ⟨h1, h2⟩] at h
      exact h
theorem C_foes {c en : Int} (hx : CT s tw T) (hT : TOK T) : Mw g (e + 1) M_X9_foes [(18, tw), (0, c), (0, en)] s (Ex (foeS T c en) s) := by
  have b13 := hT.2.2.2.1
  exact S_X9_foes (fun _ _ _ => foes_loop hx hT (T 0 13).toNat 0 (by omega))
theorem besF_in {w : Int} : ∀ (n : Nat) (b k : Int), 4 * w ≤ b → b < k → k + n ≤ 4 * w + 4 → 4 * w ≤ besF A n b k ∧ besF A n b k < k + n := by
  intro n
  induction n with
  | zero => intro b k h1 h2 h3; exact ⟨h1, by show b < k + 0; omega⟩
  | succ n ih =>
    intro b k h1 h2 h3
    unfold besF
    split
    · have := ih b (k + 1) h1 (by omega) (by omega); omega
    · have := ih k (k + 1) (by omega) (by omega) (by omega); omega
theorem besS_in {w : Int} (hT : TOK T) (w0 : 0 ≤ w) (w4 : w < T 1 2) : 4 * w ≤ besS T A w ∧ besS T A w < 4 * w + T 11 w := by
  have b := (hT.2.2.2.2.2.2.2.1 w w0 w4).1
  have := besF_in (A := A) (w := w) (T 11 w - 1).toNat (4 * w) (4 * w + 1) (by omega) (by omega) (by omega)
  unfold besS
  omega
theorem free_loop {w : Int} (hx : CX s th tw T A) (hH : WH T A) (w0 : 0 ≤ w) (w4 : w < T 1 2) {Q : Int → Sg → Prop} : ∀ (n : Nat) (b k : Int), 4 * w ≤ b → b < k → k + n = 4 * w + T 11 w → (∀ r, r = besF A n b k → Q (if T 12 w ≤ A 5 r then -1 else 4 * r + A 5 r) s) → P_X11_freeSpot_8 g e Q s th w b k := by
  intro n
  have b4 := hx.ok.2.2.1
  have bw := hx.ok.2.2.2.2.2.2.2.1 w w0 w4
  induction n with
  | zero =>
    intro b k h1 h2 h3 hQ
    have hb := hH.1 b (by omega) (by omega)
    have hQ := hQ b rfl
    refine S_X11_freeSpot_8 ?_
    rw [hx.tp, hx.t11, hx.t12, hx.w5, w32_of (show _ ≤ w * 4 by omega) (by omega), w32_of (show _ ≤ w * 4 + T 11 w by omega) (by omega), w32_of (show _ ≤ b * 4 by omega) (by omega), w32_of (show _ ≤ b * 4 + A 5 b by omega) (by omega)]
    refine ⟨⟨w0, by omega⟩, fun _ => ⟨⟨by omega, by omega⟩, ⟨w0, by omega⟩, fun h => ?_, fun h => ⟨⟨by omega, by omega⟩, ?_⟩⟩, fun q => absurd (by omega) q⟩
    · rw [if_pos h] at hQ; exact hQ
    · rw [if_neg h, Int.mul_comm 4 b] at hQ; exact hQ
  | succ n ih =>
    intro b k h1 h2 h3 hQ
    refine S_X11_freeSpot_8 ?_
    rw [hx.tp, hx.t11, hx.t12, hx.w5, w32_of (show _ ≤ w * 4 by omega) (by omega), w32_of (show _ ≤ w * 4 + T 11 w by omega) (by omega), w32_of (show _ ≤ k + 1 by omega) (by omega)]
    refine ⟨⟨w0, by omega⟩, fun q => by omega, fun _ => ⟨⟨by omega, by omega⟩, ⟨by omega, by omega⟩, fun h => ?_, fun h => ?_⟩⟩
    · refine ih b (k + 1) h1 (by omega) (by omega) (fun r hr => hQ r ?_)
      unfold besF; rw [if_pos h]; exact hr
    · refine ih k (k + 1) (by omega) (by omega) (by omega) (fun r hr => hQ r ?_)
      unfold besF; rw [if_neg h]; exact hr
theorem C_freeSpot {w : Int} (hx : CX s th tw T A) (hH : WH T A) (w0 : 0 ≤ w) (w4 : w < T 1 2) : Mw g (e + 1) M_X11_freeSpot [(19, th), (0, w)] s (Ex (freS T A w) s) := by
  have b4 := hx.ok.2.2.1
  have bw := hx.ok.2.2.2.2.2.2.2.1 w w0 w4
  refine S_X11_freeSpot (fun _ _ => ?_)
  rw [w32_of (show _ ≤ w * 4 by omega) (by omega), w32_of (by omega) (by omega), Int.mul_comm w 4]
  refine free_loop hx hH w0 w4 (T 11 w - 1).toNat (4 * w) (4 * w + 1) (by omega) (by omega) (by omega) (fun r hr => ⟨?_, rfl⟩)
  unfold freS besS
  rw [hr]
theorem freS_ok {w : Int} (hT : TOK T) (hH : WH T A) (w0 : 0 ≤ w) (w4 : w < T 1 2) (hf : freS T A w ≠ -1) :
    (0 ≤ freS T A w ∧ freS T A w < 64) ∧ freS T A w / 16 = w ∧ freS T A w / 4 % 4 < T 11 w ∧ freS T A w % 4 < T 12 w ∧ A 5 (freS T A w / 4) = freS T A w % 4 ∧ A 4 (freS T A w) = -1 := by
  have b4 := hT.2.2.1
  have bw := hT.2.2.2.2.2.2.2.1 w w0 w4
  have hb := besS_in (A := A) hT w0 w4
  unfold freS at hf ⊢
  by_cases c : T 12 w ≤ A 5 (besS T A w)
  · rw [if_pos c] at hf; exact absurd rfl hf
  · rw [if_neg c]
    generalize besS T A w = b at *
    have hh := hH.1 b (by omega) (by omega)
    have h4 := (hh.2.2 (A 5 b) hh.1 (by omega)).mpr (Int.le_refl _)
    have e4 : (4 * b + A 5 b) / 4 = b := by omega
    refine ⟨by omega, by omega, by omega, by omega, ?_, h4⟩
    rw [e4]; omega
theorem C_leftOf {p : Int} (hx : CX s th tw T A) (p0 : 0 ≤ p) (p1 : p < 64) : Mw g (e + 1) M_X11_leftOf [(19, th), (0, p)] s (Ex (leftS A p) s) := by
  refine S_X11_leftOf (fun _ _ => ?_)
  rw [tm_of p0, hx.w4, w32_of (by omega) (by omega)]
  unfold leftS
  exact ⟨fun h => ⟨by rw [if_pos h], rfl⟩, fun h => ⟨⟨by omega, by omega⟩, by rw [if_neg h], rfl⟩⟩
theorem C_rightOf {p : Int} (hx : CX s th tw T A) (p0 : 0 ≤ p) (p1 : p < 64) : Mw g (e + 1) M_X11_rightOf [(19, th), (0, p)] s (Ex (riteS A p) s) := by
  refine S_X11_rightOf (fun _ _ => ?_)
  rw [tm_of p0, hx.w4, w32_of (by omega) (by omega)]
  unfold riteS
  exact ⟨fun h => ⟨by rw [if_pos h], rfl⟩, fun h => ⟨⟨by omega, by omega⟩, by rw [if_neg h], rfl⟩⟩
theorem C_isPeaceful {c p : Int} (hx : CX s th tw T A) (p0 : 0 ≤ p) (p1 : p < 64) : Mw g (e + 2) M_X11_isPeaceful [(19, th), (0, c), (0, p)] s (Ex (if peaS T A c p then 1 else 0) s) := by
  have h39 : ∀ x0 x1, x0 = bitS (leftS A p) → x1 = bitS (riteS A p) → P_X11_isPeaceful_39 g (e + 1) (Ex (if peaS T A c p then 1 else 0) s) s th c x0 x1 := by
    intro x0 x1 h0 h1
    have hn : bOr x0 x1 = nebS A p := by rw [h0, h1]; rfl
    refine S_X11_isPeaceful_39 ?_
    rw [hn, hx.tp, hx.en]
    unfold peaS
    refine ⟨fun h => ⟨?_, rfl⟩, fun h => Mw.ex (C_foes hx.2.2.2.1 hx.ok) ⟨fun h2 => ⟨?_, rfl⟩, fun h2 => ⟨?_, rfl⟩⟩⟩
    · simp [h]
    · simp [h, h2]
    · simp [h2]
  have h25 : ∀ x0, x0 = bitS (leftS A p) → P_X11_isPeaceful_25 g (e + 1) (Ex (if peaS T A c p then 1 else 0) s) s th c (riteS A p) x0 := by
    intro x0 h0
    refine S_X11_isPeaceful_25 ⟨fun h => h39 _ _ h0 ?_, fun h => h39 _ _ h0 ?_⟩
    · unfold bitS; rw [if_pos h]
    · unfold bitS; rw [if_neg h]
  refine S_X11_isPeaceful (fun _ _ _ => Mw.ex (C_leftOf hx p0 p1) (Mw.ex (C_rightOf hx p0 p1) ⟨fun h => h25 _ ?_, fun h => h25 _ ?_⟩))
  · unfold bitS; rw [if_pos h]
  · unfold bitS; rw [if_neg h]
theorem CX.jt {J : Int → Prop} {s2 : Sg} (h : CX s th tw T A) (hf : Fr J s s2) (hj : ∀ o, J o → o = tw + 20 ∨ o = tw + 16 ∨ o = tw + 19) : CX s2 th tw T A := by
  refine h.jk (hf.wk (fun o ho => ?_))
  have h1 := hj o ho
  have h2 := h.2.1
  unfold isT at h2
  unfold Jk
  omega
theorem C_mayLie {c p : Int} (hx : CX s th tw T A) (hI : WI0 A) (hF : TF T) (c0 : 0 ≤ c) (c8 : c < 8) (p0 : 0 ≤ p) (p1 : p < 64) : Mw g (e + 4) M_X11_mayLie [(19, th), (0, c), (0, p)] s (fun r s' => r = (if mayS T A c p then 1 else 0) ∧ Fr Jk s s') := by
  have hd := hx.dis
  have hc := hx.n.2.2.2.1 c c0 c8
  have ha := age_le hx c0 c8
  have hlies : ∀ x, (x = -1 ∨ ∃ q, 0 ≤ q ∧ q < 64 ∧ x = A 4 q) → x ≠ -1 → (0 ≤ x ∧ x < 8) ∧ 0 ≤ stgS A x ∧ stgS A x ≤ 999 := by
    intro x hx1 hx2
    rcases hx1 with h | ⟨q, q0, q1, q2⟩
    · exact absurd h hx2
    · have := (hI.2 q q0 q1).resolve_left (by rw [← q2]; exact hx2)
      rw [← q2] at this
      have b := hx.n.2.2.2.1 x this.1 this.2.1
      refine ⟨⟨this.1, this.2.1⟩, ?_⟩
      unfold stgS
      rw [if_neg hx2]
      exact b.2
  have hst : ∀ x, (x = -1 ∨ ∃ q, 0 ≤ q ∧ q < 64 ∧ x = A 4 q) → 0 ≤ stgS A x ∧ stgS A x ≤ 999 := by
    intro x h
    by_cases z : x = -1
    · unfold stgS; rw [if_pos z]; omega
    · exact (hlies x h z).2
  have hl : leftS A p = -1 ∨ ∃ q, 0 ≤ q ∧ q < 64 ∧ leftS A p = A 4 q := by
    unfold leftS
    split
    · left; rfl
    · right; exact ⟨p - 4, by omega, by omega, rfl⟩
  have hu : undS A p = -1 ∨ ∃ q, 0 ≤ q ∧ q < 64 ∧ undS A p = A 4 q := by
    unfold undS
    split
    · left; rfl
    · right; exact ⟨p - 1, by omega, by omega, rfl⟩
  refine S_X11_mayLie (fun _ _ _ => ?_)
  rw [hx.tp, hx.t17, tm_of p0]
  refine ⟨fun hz => ?_, fun hz => ⟨?_, Fr.rf⟩⟩
  rotate_left
  · unfold mayS; simp [hz]
  generalize hF8 : facS T (A 1 c) (ageS T A c) (A 2 c) (A 0 1) (p % 4) (stgS A (leftS A p)) (stgS A (undS A p)) = F8
  have hval : ∀ s3 : Sg, Fr (fun o => o = tw + 20) s s3 → (∀ i, 0 ≤ i → i < 8 → s3 (tw + 20) i = F8 i) → Mw g (e + 3) M_X2_value [(11, (s3 th 0 + 17)), (33, (s3 th 0 + 20))] s3 (fun r2 s4 => ((r2 = 0 → (0 : Int) = (if mayS T A c p then 1 else 0) ∧ Fr Jk s s4) ∧ (¬ r2 = 0 → (1 : Int) = (if mayS T A c p then 1 else 0) ∧ Fr Jk s s4))) := by
    intro s3 hf hv
    have x3 := hx.jt hf (fun o ho => Or.inl ho)
    rw [x3.tp]
    have hbd : Fbd (s3 (tw + 20)) 28 := fun i i0 i1 => by
      rw [hv i i0 (by omega), ← hF8]
      exact facS_bd hx.ok hc.1.1 hc.1.2 ha hc.2 ⟨hx.n.1.1, by have := hx.n.1.2; omega⟩ (by omega) (hst _ hl) (hst _ hu) (mx := 28) i i0 i1
    have b17 := hF.2.1
    refine (C_value hF.2 (by decide) hbd (by omega) (by omega) (by rw [x3.t17]) (by rw [show tw + 17 + 1 = tw + 18 by omega]; exact x3.t18) rfl).imp (fun r s4 h4 => ?_)
    have er : r = evS (T 18) F8 (T 17 2) := by
      rw [h4.1]
      exact evS_congr hF.2 (fun i i0 i1 => hv i i0 (by omega)) (by decide)
    have fr : Fr Jk s s4 := (hf.wk (fun o ho => by clear hl hu; unfold Jk; omega)).tr (h4.2.wk (fun o ho => by clear hl hu; unfold Jk; omega))
    unfold mayS
    rw [hF8, ← er]
    refine ⟨fun h => ⟨?_, fr⟩, fun h => ⟨?_, fr⟩⟩
    · simp [h, hz]
    · simp [h]
  have h148 : ∀ s1 : Sg, Fr (fun o => o = tw + 20) s s1 → (∀ i, 0 ≤ i → i < 7 → s1 (tw + 20) i = F8 i) → ∀ x2, x2 = stgS A (undS A p) → P_X11_mayLie_148 g (e + 3) (fun r s' => r = (if mayS T A c p then 1 else 0) ∧ Fr Jk s s') s1 th (tw + 20) 7 x2 := by
    intro s1 hf hv x2 h2
    refine S_X11_mayLie_148 ⟨⟨by decide, by decide⟩, fun s3 e3 => ?_⟩
    refine (hval s3 ?_ (fun i i0 i1 => ?_)).imp (fun _ _ h => h)
    · rw [e3]; exact hf.tr (Fr.up rfl)
    · rw [e3]
      by_cases z : i = 7
      · rw [z, ups_eq, h2, ← hF8]; rfl
      · rw [ups_k _ z]; exact hv i i0 (by omega)
  have h117 : ∀ s1 : Sg, Fr (fun o => o = tw + 20) s s1 → (∀ i, 0 ≤ i → i < 6 → s1 (tw + 20) i = F8 i) → ∀ x2, x2 = stgS A (leftS A p) → P_X11_mayLie_117 g (e + 3) (fun r s' => r = (if mayS T A c p then 1 else 0) ∧ Fr Jk s s') s1 th (undS A p) (tw + 20) 6 x2 := by
    intro s1 hf hv x2 h2
    refine S_X11_mayLie_117 ⟨⟨by decide, by decide⟩, fun s3 e3 => ?_⟩
    have f3 : Fr (fun o => o = tw + 20) s s3 := by rw [e3]; exact hf.tr (Fr.up rfl)
    have v3 : ∀ i, 0 ≤ i → i < 7 → s3 (tw + 20) i = F8 i := fun i i0 i1 => by
      rw [e3]
      by_cases z : i = 6
      · rw [z, ups_eq, h2, ← hF8]; rfl
      · rw [ups_k _ z]; exact hv i i0 (by omega)
    have x3 := hx.jt f3 (fun o ho => Or.inl ho)
    rw [x3.tp, x3.w2]
    refine ⟨fun z => h148 s3 f3 v3 _ ?_, fun z => ⟨(hlies _ hu z).1, h148 s3 f3 v3 _ ?_⟩⟩
    · unfold stgS; rw [if_pos z]
    · unfold stgS; rw [if_neg z]
  have h43 : P_X11_mayLie_43 g (e + 3) (fun r s' => r = (if mayS T A c p then 1 else 0) ∧ Fr Jk s s') s th c (leftS A p) (p % 4) (undS A p) := by
    refine S_X11_mayLie_43 ⟨⟨c0, c8⟩, Mw.ex (C_age hx c0 c8) ⟨⟨c0, c8⟩, ?_⟩⟩
    rw [hx.tp, hx.w1, hx.w2, hx.y]
    refine (C_setFacts hx.2.2.2.1 hc.1.1 hc.1.2).imp (fun _ s4 h4 s5 e5 => ?_)
    have x4 := hx.jt h4.2 (fun o ho => Or.inl ho)
    rw [x4.tp] at e5
    have f5 : Fr (fun o => o = tw + 20) s s5 := by rw [e5]; exact h4.2.tr (Fr.up rfl)
    have v5 : ∀ i, 0 ≤ i → i < 6 → s5 (tw + 20) i = F8 i := fun i i0 i1 => by
      rw [e5]
      by_cases z : i = 5
      · rw [z, ups_eq, ← hF8]; rfl
      · rw [ups_k _ z, h4.1 i i0 (by omega), ← hF8]
        unfold facS
        rcases (show i = 0 ∨ i = 1 ∨ i = 2 ∨ i = 3 ∨ i = 4 by omega) with q | q | q | q | q <;> rw [q] <;> rfl
    have x5 := hx.jt f5 (fun o ho => Or.inl ho)
    rw [x5.tp, x5.w2]
    refine ⟨fun z => h117 s5 f5 v5 _ ?_, fun z => ⟨(hlies _ hl z).1, h117 s5 f5 v5 _ ?_⟩⟩
    · unfold stgS; rw [if_pos z]
    · unfold stgS; rw [if_neg z]
  refine Mw.ex (C_leftOf hx p0 p1) ⟨fun z => ?_, fun z => ⟨⟨by rw [w32_of (by omega) (by omega)]; omega, by rw [w32_of (by omega) (by omega)]; omega⟩, ?_⟩⟩
  · have : undS A p = -1 := by unfold undS; rw [if_pos z]
    rw [this] at h43
    exact h43
  · have : undS A p = A 4 (p - 1) := by unfold undS; rw [if_neg z]
    rw [this] at h43
    rw [hx.w4, w32_of (by omega) (by omega)]
    exact h43
end BUILD
