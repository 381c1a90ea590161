/-! seams of the class: raise, canBe, take -/
/-- the tape of the class: n bytes B -/
def CTp (s : Sg) (n : Int) (B : Int → Int) : Prop := s 2 1 = n ∧ (0 ≤ n ∧ n ≤ 1600) ∧ ∀ k, 0 ≤ k → k < n → bAnd (s 3 k) 255 = B k ∧ 0 ≤ B k ∧ B k ≤ 255
def RTp (s : Sg) (n : Int) (B : Int → Int) : Prop := s 92 1 = n ∧ (0 ≤ n ∧ n ≤ 1600) ∧ ∀ k, 0 ≤ k → k < n → s 93 k = B k ∧ 0 ≤ B k ∧ B k ≤ 255
def yB (B : Int → Int) (k : Int) : Int := B (3 * k)
def zB (B : Int → Int) (k : Int) : Int := B (3 * k + 1) * 256 + B (3 * k + 2)
/-- the tape is seams -/
def okM (T : Tn) (n bo : Int) (B : Int → Int) : Prop := n % 3 = 0 ∧ (1 ≤ n / 3 ∧ n / 3 ≤ 16) ∧ (0 ≤ bo ∧ bo ≤ 99) ∧ ∀ k : Nat, (k : Int) < n / 3 → 1 ≤ yB B k ∧ yB B k ≤ T 0 15 - T 0 14
/-- objects that seams change in the class, but 87 -/
def Js (o : Int) : Prop := Jk o ∨ o = 88
section CSEAM
variable {g : GT} {e : Nat} {s : Sg} {tw bo n : Int} {T : Tn} {B : Int → Int}
theorem CTp.fr {s2 : Sg} {J : Int → Prop} (h : CTp s n B) (hf : Fr J s s2) (h2 : ¬ J 2) (h3 : ¬ J 3) : CTp s2 n B := by
  unfold CTp
  rw [hf 2 h2, hf 3 h3]
  exact h
theorem C_byteAt {k : Int} (h : CTp s n B) (k0 : 0 ≤ k) (k1 : k < n) : Mw g (e + 1) M_X8_byteAt [(17, 2), (0, k)] s (Ex (B k) s) := by
  have b := h.2.1
  refine S_X8_byteAt (fun _ => ⟨fun q => by omega, fun _ => ?_⟩)
  rw [h.1, (h.2.2 k k0 k1).1]
  exact ⟨fun q => by omega, fun _ => ⟨⟨by omega, by omega⟩, rfl, rfl⟩⟩
theorem C_pairAt {k : Int} (h : CTp s n B) (k0 : 0 ≤ k) (k1 : k + 1 < n) : Mw g (e + 1) M_X8_pairAt [(17, 2), (0, k)] s (Ex (B k * 256 + B (k + 1)) s) := by
  have b := h.2.1
  have x := h.2.2 k k0 (by omega)
  have y := h.2.2 (k + 1) (by omega) k1
  refine S_X8_pairAt (fun _ => ⟨fun q => by omega, fun _ => ?_⟩)
  rw [w32_of (show _ ≤ k + 1 by omega) (by omega), h.1, x.1, y.1, w32_of (show _ ≤ B k * 256 by omega) (by omega), w32_of (show _ ≤ B k * 256 + B (k + 1) by omega) (by omega)]
  exact ⟨fun q => by omega, fun _ => ⟨⟨by omega, by omega⟩, ⟨by omega, by omega⟩, rfl, rfl⟩⟩
theorem C_span (hx : CT s tw T) (hT : TOK T) : Mw g (e + 1) M_X9_span [(18, tw)] s (Ex (T 0 15 - T 0 14) s) := by
  have t14 := hT.2.2.2.2.2.2.2.2.2.1
  refine S_X9_span (fun _ => ?_)
  rw [hx.1, w32_of (by omega) (by omega)]
  exact ⟨rfl, rfl⟩
theorem C_homeC (hx : CT s tw T) : Mw g (e + 1) M_X9_homeCount [(18, tw)] s (Ex (T 1 0) s) := S_X9_homeCount (fun _ => ⟨by rw [hx.2 1 (by decide) (by decide) (by decide)], rfl⟩)
theorem js_tw (hw : isT tw) : ∀ o, tw ≤ o → o ≤ tw + 18 → o ≠ tw + 16 → ¬ (Js o ∨ o = 87) := by
  intro o o1 o2 o3 q
  unfold isT at hw
  unfold Js Jk at q
  omega
theorem C_raise7 {h : Int} {k : Nat} (hx : CT s tw T) (hT : TOK T) (hF : TF T) (hw : isT tw) (h0 : 0 ≤ h) (h6 : h < 6) (hb : s 87 1 = bo) (b0 : 0 ≤ bo) (b9 : bo ≤ 99) (hk : (k : Int) < T 0 15 - T 0 14) (hs : s 88 h = sbS T bo h k) :
    Mw g (e + 5) M_X7_raise [(16, 87), (18, tw), (0, h), (0, (k : Int) + 1)] s (fun _ s' => s' 88 h = sbS T bo h (k + 1) ∧ (∀ i, i ≠ h → s' 88 i = s 88 i) ∧ Fr Js s s') := by
  have t14 := hT.2.2.2.2.2.2.2.2.2.1
  refine S_X7_raise (fun _ _ _ => ⟨⟨h0, h6⟩, ?_⟩)
  rw [hx.1, hs, hb, w32_of (show _ ≤ T 0 14 + ((k : Int) + 1) by omega) (by omega), w32_of (show _ ≤ T 0 14 + ((k : Int) + 1) - 1 by omega) (by omega), show T 0 14 + ((k : Int) + 1) - 1 = T 0 14 + k by omega, w32_of (show _ ≤ bo + (T 0 14 + (k : Int)) by omega) (by omega)]
  refine (C_grown hx hT hF hw h0 h6 (by omega) (sbS_bd k) (by omega)).imp (fun r s2 q => ⟨⟨h0, h6⟩, fun s3 e3 => ⟨?_, fun i hi => ?_, ?_⟩⟩)
  · rw [e3, ups_eq, q.1]; rfl
  · rw [e3, ups_k _ hi, q.2 88 (by unfold Jk; omega)]
  · rw [e3]
    exact (q.2.wk (fun o ho => Or.inl ho)).tr (Fr.up (Or.inr rfl))
theorem cb_30 {h v : Int} {m : Nat} {Q : Int → Sg → Prop} (ht : CTp s n B) (hn : n = 3 * m) (h0 : 0 ≤ h) (h6 : h < 6) (v0 : 0 ≤ v) (v9 : v < 1000)
    (hno : ∀ k : Nat, k < m → yB B k = v → zB B k ≠ s 88 h → Q 0 s) : ∀ (j i : Nat), i + j = m → (∀ k : Nat, k < i → yB B k = v → zB B k = s 88 h) →
    ((∀ k : Nat, k < m → yB B k = v → zB B k = s 88 h) → P_X7_canBe_10 g (e + 5) Q s tw h (v + 1)) → P_X7_canBe_30 g (e + 5) Q s tw h v (3 * i) := by
  have nb := ht.2.1
  intro j
  induction j with
  | zero =>
    intro i hi ha hgo
    refine S_X7_canBe_30 ?_
    rw [ht.1, w32_of (show _ ≤ v + 1 by omega) (by omega)]
    exact ⟨fun _ => hgo (fun k hk => ha k (by omega)), fun q => absurd (by omega) q⟩
  | succ j ih =>
    intro i hi ha hgo
    refine S_X7_canBe_30 ?_
    rw [ht.1]
    refine ⟨fun q => by omega, fun _ => Mw.ex (C_byteAt ht (by omega) (by omega)) ?_⟩
    rw [w32_of (show _ ≤ 3 * (i : Int) + 3 by omega) (by omega), w32_of (show _ ≤ 3 * (i : Int) + 1 by omega) (by omega)]
    have go : (yB B i = v → zB B i = s 88 h) → P_X7_canBe_30 g (e + 5) Q s tw h v (3 * (i : Int) + 3) := by
      intro hz
      have := ih (i + 1) (by omega) (fun k hk => ?_) hgo
      · rw [show 3 * ((i + 1 : Nat) : Int) = 3 * (i : Int) + 3 by omega] at this
        exact this
      · by_cases c : k = i
        · rw [c]; exact hz
        · exact ha k (by omega)
    refine ⟨fun q => go (fun z => absurd z q), fun q => Mw.ex (C_pairAt ht (by omega) (by omega)) ?_⟩
    rw [show 3 * (i : Int) + 1 + 1 = 3 * (i : Int) + 2 by omega]
    exact ⟨⟨h0, h6⟩, fun z => go (fun _ => z), fun z => hno i (by omega) q z⟩
theorem cb_10 {h : Int} {m : Nat} (hT : TOK T) (hF : TF T) (hw : isT tw) (hn : n = 3 * m) (h0 : 0 ≤ h) (h6 : h < 6) (b0 : 0 ≤ bo) (b9 : bo ≤ 99) (hy : ∀ k : Nat, k < m → 1 ≤ yB B k ∧ yB B k ≤ T 0 15 - T 0 14) :
    ∀ (j k : Nat) (s0 : Sg), (k : Int) + j = T 0 15 - T 0 14 → CT s0 tw T → CTp s0 n B → s0 87 1 = bo → s0 88 h = sbS T bo h k → Fr Js s s0 → (∀ i : Nat, i < m → yB B i ≤ k → sbS T bo h (yB B i).toNat = zB B i) →
    P_X7_canBe_10 g (e + 5) (fun r s' => r = (if fitS T bo m (yB B) (zB B) h = true then 1 else 0) ∧ Fr Js s s') s0 tw h ((k : Int) + 1) := by
  have t14 := hT.2.2.2.2.2.2.2.2.2.1
  intro j
  induction j with
  | zero =>
    intro k s0 hk hx ht hb hs hf ha
    refine S_X7_canBe_10 (Mw.ex (C_span hx hT) ⟨fun _ => ⟨?_, hf⟩, fun q => absurd (by omega) q⟩)
    have f : fitS T bo m (yB B) (zB B) h = true := allF_iff.2 (fun i hi => decide_eq_true (ha i hi (by have := hy i hi; omega)))
    rw [if_pos f]
  | succ j ih =>
    intro k s0 hk hx ht hb hs hf ha
    refine S_X7_canBe_10 (Mw.ex (C_span hx hT) ⟨fun q => by omega, fun _ => (C_raise7 hx hT hF hw h0 h6 hb b0 b9 (by omega) hs).imp (fun _ s4 q => ?_)⟩)
    obtain ⟨q1, q2, q3⟩ := q
    have f4 := hf.tr q3
    have ht4 : CTp s4 n B := ht.fr q3 (by unfold Js Jk; omega) (by unfold Js Jk; omega)
    refine cb_30 ht4 hn h0 h6 (by omega) (by omega) (fun i hi z1 z2 => ⟨?_, f4⟩) m 0 (by omega) (fun i hi => by omega) (fun hall => ?_)
    · refine ih (k + 1) s4 (by omega) (hx.fr q3 (fun o o1 o2 o3 z => js_tw hw o o1 o2 o3 (Or.inl z))) ht4 (by rw [q3 87 (by unfold Js Jk; omega)]; exact hb) q1 f4 (fun i hi z => ?_)
      by_cases c : yB B i = (k : Int) + 1
      · rw [hall i hi c, c, show ((k : Int) + 1).toNat = k + 1 by omega, q1]
      · exact ha i hi (by omega)
    · rw [if_neg (fun f => z2 ?_)]
      have := of_decide_eq_true (allF_iff.1 f i hi)
      rw [z1, show ((k : Int) + 1).toNat = k + 1 by omega] at this
      rw [q1, this]
theorem C_canBe {h : Int} {m : Nat} (hT : TOK T) (hF : TF T) (hw : isT tw) (hx : CT s tw T) (ht : CTp s n B) (hb : s 87 1 = bo) (hn : n = 3 * m) (h0 : 0 ≤ h) (h6 : h < 6) (b0 : 0 ≤ bo) (b9 : bo ≤ 99) (hy : ∀ k : Nat, k < m → 1 ≤ yB B k ∧ yB B k ≤ T 0 15 - T 0 14) :
    Mw g (e + 6) M_X7_canBe [(16, 87), (18, tw), (17, 2), (0, h)] s (fun r s' => r = (if fitS T bo m (yB B) (zB B) h = true then 1 else 0) ∧ Fr Js s s') := by
  have t14 := hT.2.2.2.2.2.2.2.2.2.1
  refine S_X7_canBe (fun _ _ => ⟨⟨h0, h6⟩, fun s1 e1 => ?_⟩)
  have f1 : Fr Js s s1 := by rw [e1]; exact Fr.up (Or.inr rfl)
  exact cb_10 hT hF hw hn h0 h6 b0 b9 hy (T 0 15 - T 0 14).toNat 0 s1 (by omega) (hx.fr f1 (fun o o1 o2 o3 z => js_tw hw o o1 o2 o3 (Or.inl z))) (ht.fr f1 (by unfold Js Jk; omega) (by unfold Js Jk; omega)) (by rw [f1 87 (by unfold Js Jk; omega)]; exact hb) (by rw [e1, ups_eq]; rfl) f1 (fun i hi z => by have := hy i hi; omega)
theorem ct_100 {m : Nat} (hT : TOK T) (hF : TF T) (hw : isT tw) (hn : n = 3 * m) (b0 : 0 ≤ bo) (b9 : bo ≤ 99) (hy : ∀ k : Nat, k < m → 1 ≤ yB B k ∧ yB B k ≤ T 0 15 - T 0 14) :
    ∀ (j k : Nat) (s0 : Sg), (k : Int) + j = T 1 0 → CT s0 tw T → CTp s0 n B → s0 87 1 = bo → s0 87 0 = setF k (fitS T bo m (yB B) (zB B)) → Fr (fun o => Js o ∨ o = 87) s s0 →
    P_X7_take_100 g (e + 6) (fun r s' => r = 1 ∧ s' 87 1 = bo ∧ s' 87 0 = hmS T bo m (yB B) (zB B) ∧ Fr (fun o => Js o ∨ o = 87) s s') s0 tw k := by
  have t6 := hT.1
  intro j
  induction j with
  | zero =>
    intro k s0 hk hx ht hb hs hf
    refine S_X7_take_100 (Mw.ex (C_homeC hx) ⟨fun _ => ⟨rfl, hb, ?_, hf⟩, fun q => absurd (by omega) q⟩)
    unfold hmS
    rw [hs, show (T 1 0).toNat = k by omega]
  | succ j ih =>
    intro k s0 hk hx ht hb hs hf
    refine S_X7_take_100 (Mw.ex (C_homeC hx) ⟨fun q => by omega, fun _ => (C_canBe hT hF hw hx ht hb hn (by omega) (by omega) b0 b9 hy).imp (fun r s4 q => ?_)⟩)
    have f4 : Fr (fun o => Js o ∨ o = 87) s0 s4 := q.2.wk (fun o ho => Or.inl ho)
    rw [w32_of (show _ ≤ (k : Int) + 1 by omega) (by omega), hs]
    have go : ∀ s5 v, s5 = ups s4 87 0 v → v = setF (k + 1) (fitS T bo m (yB B) (zB B)) → P_X7_take_100 g (e + 6) (fun r s' => r = 1 ∧ s' 87 1 = bo ∧ s' 87 0 = hmS T bo m (yB B) (zB B) ∧ Fr (fun o => Js o ∨ o = 87) s s') s5 tw ((k : Int) + 1) := by
      intro s5 v e5 ev
      have f5 : Fr (fun o => Js o ∨ o = 87) s0 s5 := by rw [e5]; exact f4.tr (Fr.up (Or.inr rfl))
      exact ih (k + 1) s5 (by omega) (hx.fr f5 (js_tw hw)) (ht.fr f5 (by unfold Js Jk; omega) (by unfold Js Jk; omega)) (by rw [e5, ups_k _ (by decide), q.2 87 (by unfold Js Jk; omega)]; exact hb) (by rw [e5, ups_eq, ev]) (hf.tr f5)
    refine ⟨fun z s5 e5 => go s5 _ e5 ?_, fun z s5 e5 => go s5 _ e5 ?_⟩
    · have c : fitS T bo m (yB B) (zB B) k = false := by
        cases f : fitS T bo m (yB B) (zB B) k with
        | false => rfl
        | true => rw [q.1, if_pos f] at z; omega
      rw [bOr_0 (setF_R (by omega) _), setF_n c]
    · have c : fitS T bo m (yB B) (zB B) k = true := Classical.byContradiction (fun f => z (by rw [q.1, if_neg f]))
      rw [setF_or (by omega), setF_s c]
end CSEAM
