/-! seams of both programs -/
section SEAMS
variable {g : GT} {e : Nat} {s : Sg} {tw b bo n u : Int} {T : Tn} {A : Wd} {U : Int → Wd} {B : Int → Int}
theorem ct_47 {m : Nat} {Q : Int → Sg → Prop} (hT : TOK T) (hx : CT s tw T) (ht : CTp s n B) (hn : n = 3 * m) (m16 : m ≤ 16)
    (hno : ∀ k : Nat, k < m → ¬ (1 ≤ yB B k ∧ yB B k ≤ T 0 15 - T 0 14) → Q 0 s)
    (hgo : (∀ k : Nat, k < m → 1 ≤ yB B k ∧ yB B k ≤ T 0 15 - T 0 14) → ∀ s1, s1 = ups s 87 1 bo → ∀ s2, s2 = ups s1 87 0 0 → P_X7_take_100 g (e + 6) Q s2 tw 0) :
    ∀ (j i : Nat), i + j = m → (∀ k : Nat, k < i → 1 ≤ yB B k ∧ yB B k ≤ T 0 15 - T 0 14) → P_X7_take_47 g (e + 6) Q s tw bo m i := by
  intro j
  induction j with
  | zero =>
    intro i hi ha
    exact S_X7_take_47 ⟨fun _ => hgo (fun k hk => ha k (by omega)), fun q => absurd (by omega) q⟩
  | succ j ih =>
    intro i hi ha
    refine S_X7_take_47 ⟨fun q => by omega, fun _ => ?_⟩
    rw [w32_of (show _ ≤ (i : Int) * 3 by omega) (by omega), show (i : Int) * 3 = 3 * i by omega, w32_of (show _ ≤ (i : Int) + 1 by omega) (by omega)]
    refine Mw.ex (C_byteAt ht (by omega) (by omega)) ⟨fun q => hno i (by omega) (fun z => ?_), fun q => Mw.ex (C_span hx hT) ⟨fun q2 => ?_, fun q2 => hno i (by omega) (fun z => q2 z.2)⟩⟩
    · have z1 : 1 ≤ B (3 * i) := z.1
      omega
    · refine ih (i + 1) (by omega) (fun k hk => ?_)
      by_cases c : k = i
      · rw [c]
        exact ⟨by show 1 ≤ B (3 * i); omega, q2⟩
      · exact ha k (by omega)
theorem C_take (hT : TOK T) (hF : TF T) (hw : isT tw) (hx : CT s tw T) (ht : CTp s n B) :
    Mw g (e + 7) M_X7_take [(16, 87), (18, tw), (17, 2), (0, bo)] s (fun r s' => (¬ okM T n bo B → r = 0 ∧ s' = s) ∧ (okM T n bo B → r = 1 ∧ s' 87 1 = bo ∧ s' 87 0 = hmS T bo (n / 3).toNat (yB B) (zB B) ∧ Fr (fun o => Js o ∨ o = 87) s s')) := by
  have nb := ht.2.1
  have no : ¬ okM T n bo B → ((¬ okM T n bo B → (0 : Int) = 0 ∧ s = s) ∧ (okM T n bo B → (0 : Int) = 1 ∧ s 87 1 = bo ∧ s 87 0 = hmS T bo (n / 3).toNat (yB B) (zB B) ∧ Fr (fun o => Js o ∨ o = 87) s s)) := fun z => ⟨fun _ => ⟨rfl, rfl⟩, fun y => absurd y z⟩
  refine S_X7_take (fun _ _ => ?_)
  rw [ht.1, tm_of nb.1, td_of nb.1, w32_of (show _ ≤ n / 3 by omega) (by omega)]
  refine ⟨fun q => no (fun z => q z.1), fun q => ⟨fun q2 => no (fun z => by have := z.2.1; omega), fun q2 => ⟨fun q3 => ⟨fun q4 => no (fun z => by have := z.2.2.1; omega), fun q4 => ⟨fun q5 => ?_, fun q5 => no (fun z => q5 z.2.2.1.2)⟩⟩, fun q3 => no (fun z => q3 z.2.1.2)⟩⟩⟩
  have em : n / 3 = ((n / 3).toNat : Nat) := by omega
  have hn : n = 3 * ((n / 3).toNat : Nat) := by omega
  generalize (n / 3).toNat = m at em hn no ⊢
  rw [em]
  refine ct_47 hT hx ht hn (by omega) (fun k hk z => no (fun y => z (y.2.2.2 k (by omega)))) (fun hy s1 e1 s2 e2 => ?_) m 0 (by omega) (fun k hk => by omega)
  have ok : okM T n bo B := ⟨q, ⟨by omega, by omega⟩, ⟨by omega, by omega⟩, fun k hk => hy k (by omega)⟩
  have f2 : Fr (fun o => Js o ∨ o = 87) s s2 := by rw [e2, e1]; exact (Fr.up (Or.inr rfl)).tr (Fr.up (Or.inr rfl))
  have t6 := hT.1
  refine Wp.imp (ct_100 (s := s) (m := m) (bo := bo) (B := B) hT hF hw hn (by omega) (by omega) hy (T 1 0).toNat 0 s2 (by omega) (hx.fr f2 (js_tw hw)) (ht.fr f2 (by unfold Js Jk; omega) (by unfold Js Jk; omega)) (by rw [e2, ups_k _ (by decide), e1, ups_eq]) (by rw [e2, ups_eq]; rfl) f2) (fun r s' q => ⟨fun z => absurd ok z, fun _ => q⟩)
/-- objects that seams change in the class -/
def Jsm (o : Int) : Prop := Js o ∨ o = 87 ∨ o = 2
theorem C_seams (hs : CS s tw T A u U) (ht : CTp s n B) : Mw g (e + 8) M_X12_seams [(20, 1), (0, bo)] s (fun r s' => (¬ okM T n bo B → r = -1 ∧ s' = ups (ups s 2 1 0) 91 5 (w32 (s 91 5 + 1))) ∧ (okM T n bo B → r = popF (hmS T bo (n / 3).toNat (yB B) (zB B)) ∧ s' 87 1 = bo ∧ s' 87 0 = hmS T bo (n / 3).toNat (yB B) (zB B) ∧ s' 2 1 = 0 ∧ Fr Jsm s s')) := by
  have hT := hs.2.1.ok
  refine S_X12_seams (fun _ => ?_)
  rw [hs.1]
  refine (C_take hT hs.2.2.2.1 hs.2.1.2.1 hs.2.1.2.2.2.1 ht).imp (fun r s2 q s3 e3 => ⟨fun z => ?_, fun z => ?_⟩)
  · have no : ¬ okM T n bo B := fun y => by have := (q.2 y).1; omega
    refine Mw.ex (C_refuse (by decide) (by decide)) ⟨fun _ => ⟨rfl, ?_⟩, fun y => absurd y no⟩
    rw [e3, (q.1 no).2, ups_at _ (by decide)]
  · have ok : okM T n bo B := Classical.byContradiction (fun y => z (q.1 y).1)
    obtain ⟨q1, q2, q3, q4⟩ := q.2 ok
    have e87 : s3 87 = s2 87 := by rw [e3, ups_at _ (by decide)]
    rw [e87, q3]
    have hb := hmS_bd (bo := bo) (m := (n / 3).toNat) (Y := yB B) (Z := zB B) hT
    refine Mw.ex (C_bitCount hb.1 (by omega)) ⟨fun y => absurd ok y, fun _ => ⟨rfl, by rw [e87]; exact q2, by rw [e87]; exact q3, by rw [e3, ups_eq], ?_⟩⟩
    rw [e3]
    exact (q4.wk (fun o ho => ho.elim Or.inl (fun h => Or.inr (Or.inl h)))).tr (Fr.up (Or.inr (Or.inr rfl)))
/-- what seams and homes change in the reference -/
def Fs (s s2 : Sg) : Prop := (∀ o, o ≠ 92 → o ≠ 131 → o ≠ 132 → o ≠ 136 → o ≠ 137 → o ≠ 138 → s2 o = s o) ∧ ∀ k, k ≠ 1 → k ≠ 68 → k ≠ 69 → s2 92 k = s 92 k
theorem Fs.rf : Fs s s := ⟨fun _ _ _ _ _ _ _ => rfl, fun _ _ _ _ => rfl⟩
theorem Fs.tr {s2 s3 : Sg} (h : Fs s s2) (h2 : Fs s2 s3) : Fs s s3 := ⟨fun o a1 a2 a3 a4 a5 a6 => (h2.1 o a1 a2 a3 a4 a5 a6).trans (h.1 o a1 a2 a3 a4 a5 a6), fun k a1 a2 a3 => (h2.2 k a1 a2 a3).trans (h.2 k a1 a2 a3)⟩
theorem Fs.jm {s2 : Sg} (h : Fr Jm s s2) : Fs s s2 := ⟨fun o a1 a2 a3 _ _ _ => h o (by unfold Jm; omega), fun k _ _ _ => by rw [h 92 (by unfold Jm; omega)]⟩
theorem Fs.up {o k v : Int} (h : o = 136 ∨ o = 137 ∨ o = 138 ∨ (o = 92 ∧ (k = 1 ∨ k = 68 ∨ k = 69))) : Fs s (ups s o k v) := by
  refine ⟨fun o2 a1 a2 a3 a4 a5 a6 => ups_at _ (by omega), fun k2 a1 a2 a3 => ?_⟩
  by_cases c : o = 92
  · rw [c]
    exact ups_k _ (by omega)
  · rw [ups_at _ (by omega)]
theorem RB.fs {s2 : Sg} (h : RB s b T) (hf : Fs s s2) : RB s2 b T := by
  refine ⟨by rw [hf.2 13 (by decide) (by decide) (by decide)]; exact h.1, h.2.1, h.2.2.1.fr (J := fun o => o = 92 ∨ o = 131 ∨ o = 132 ∨ o = 136 ∨ o = 137 ∨ o = 138) (fun o ho => hf.1 o (by omega) (by omega) (by omega) (by omega) (by omega) (by omega)) (fun o o1 o2 => by omega), h.2.2.2⟩
theorem R_raises (h : RB s b T) : Mw g (e + 2) M_X13_raises [(21, 92)] s (Ex (T 0 15 - T 0 14) s) := by
  have t14 := h.2.2.2.1.2.2.2.2.2.2.2.2.2.1
  refine S_X13_raises (Mw.ex (R_toldOf h (by decide) (by decide)) (Mw.ex (R_toldOf h (by decide) (by decide)) ?_))
  rw [show (14 : Int) + 1 = 15 from rfl, show (14 : Int) + 0 = 14 from rfl, w32_of (by omega) (by omega)]
  exact ⟨rfl, rfl⟩
theorem R_twoB {k : Int} (h : s 93 k = B k ∧ 0 ≤ B k ∧ B k ≤ 255) (h2 : s 93 (k + 1) = B (k + 1) ∧ 0 ≤ B (k + 1) ∧ B (k + 1) ≤ 255) (k0 : 0 ≤ k) (k1 : k < 1790) : Mw g (e + 1) M_X13_twoBytes [(21, 92), (0, k)] s (Ex (B k * 256 + B (k + 1)) s) := by
  refine S_X13_twoBytes (fun _ => ?_)
  rw [w32_of (show _ ≤ k + 1 by omega) (by omega), h.1, h2.1]
  refine ⟨⟨by omega, by omega⟩, ⟨by omega, by omega⟩, ?_, rfl⟩
  rw [bShl_n h.2.1 (by decide) (by decide) (by show (B k).toNat * 256 < _; omega)]
  have := bOr_add (a := B k) (b := B (k + 1)) (n := 8) h.2.1 h2.2.1 (by show B (k + 1) < 256; omega) (by show B k * 256 < _; omega) (by decide)
  rw [show (((B k).toNat * 2 ^ (8 : Int).toNat : Nat) : Int) = B k * 2 ^ 8 by show (((B k).toNat * 256 : Nat) : Int) = B k * 256; omega, this]
  rfl
theorem rm_45 {m : Nat} {Q : Int → Sg → Prop} (hb : RB s b T) (hn : n = 3 * m) (m16 : m ≤ 16) (hB : ∀ k, 0 ≤ k → k < n → s 93 k = B k ∧ 0 ≤ B k ∧ B k ≤ 255)
    (hno : ∀ k : Nat, k < m → ¬ (1 ≤ yB B k ∧ yB B k ≤ T 0 15 - T 0 14) → P_X13_seams_77 g (e + 7) Q s bo n 0)
    (hgo : (∀ k : Nat, k < m → 1 ≤ yB B k ∧ yB B k ≤ T 0 15 - T 0 14) → P_X13_seams_77 g (e + 7) Q s bo n 1) :
    ∀ (j i : Nat), i + j = m → (∀ k : Nat, k < i → 1 ≤ yB B k ∧ yB B k ≤ T 0 15 - T 0 14) → P_X13_seams_45 g (e + 7) Q s bo n 1 (3 * i) := by
  intro j
  induction j with
  | zero =>
    intro i hi ha
    exact S_X13_seams_45 ⟨fun _ => hgo (fun k hk => ha k (by omega)), fun q => absurd (by omega) q⟩
  | succ j ih =>
    intro i hi ha
    refine S_X13_seams_45 ⟨fun q => by omega, fun _ => ⟨fun q => by omega, fun _ => ⟨⟨by omega, by omega⟩, Mw.ex (R_raises hb) (Mw.ex R_is ?_)⟩⟩⟩
    rw [w32_of (show _ ≤ 3 * (i : Int) + 3 by omega) (by omega), (hB (3 * i) (by omega) (by omega)).1]
    by_cases c : 1 ≤ yB B i ∧ yB B i ≤ T 0 15 - T 0 14
    · have c2 : 1 ≤ B (3 * i) ∧ B (3 * i) ≤ T 0 15 - T 0 14 := c
      rw [if_pos c2]
      have := ih (i + 1) (by omega) (fun k hk => ?_)
      · rw [show 3 * ((i + 1 : Nat) : Int) = 3 * (i : Int) + 3 by omega] at this
        exact this
      · by_cases d : k = i
        · rw [d]; exact c
        · exact ha k (by omega)
    · have c2 : ¬ (1 ≤ B (3 * i) ∧ B (3 * i) ≤ T 0 15 - T 0 14) := c
      rw [if_neg c2]
      exact S_X13_seams_45 ⟨fun _ => hno i (by omega) c, fun _ => ⟨fun _ => hno i (by omega) c, fun y => absurd rfl y⟩⟩
theorem rm_102 {m : Nat} (hn : n = 3 * m) (m16 : m ≤ 16) (b0 : 0 ≤ bo) (b9 : bo ≤ 99) (hy : ∀ k : Nat, k < m → 1 ≤ yB B k ∧ yB B k ≤ T 0 15 - T 0 14) (hB : ∀ k, 0 ≤ k → k < n → s 93 k = B k ∧ 0 ≤ B k ∧ B k ≤ 255) :
    ∀ (j i : Nat) (s0 : Sg), i + j = m → RB s0 b T → Fs s s0 → s0 92 68 = m → s0 92 69 = bo → s0 92 1 = 0 → (∀ k, 0 ≤ k → k < (i : Int) → s0 136 k = yB B k ∧ s0 137 k = zB B k) →
    P_X13_seams_102 g (e + 7) (fun r s' => r = popF (hmS T bo m (yB B) (zB B)) ∧ RM s' T bo m (yB B) (zB B) ∧ s' 92 1 = 0 ∧ Fs s s') s0 i := by
  intro j
  induction j with
  | zero =>
    intro i s0 hi hb hf h68 h69 h1 ha
    have hT := hb.2.2.2.1
    have hm : RM s0 T bo m (yB B) (zB B) := ⟨h68, h69, m16, ⟨b0, b9⟩, fun k k0 k1 => ha k (by omega) (by omega), fun k k0 k1 => by
      have := hy k k1
      omega⟩
    refine S_X13_seams_102 ⟨fun _ => (R_homesBy hb hm).imp (fun r s2 q => ?_), fun q => absurd (by rw [h68]; omega) q⟩
    have hbd := hmS_bd (bo := bo) (m := m) (Y := yB B) (Z := zB B) hT
    rw [q.1]
    exact Mw.ex (R_bits hbd.1 (by omega)) ⟨rfl, hm.jm q.2, by rw [q.2 92 (by unfold Jm; omega)]; exact h1, hf.tr (Fs.jm q.2)⟩
  | succ j ih =>
    intro i s0 hi hb hf h68 h69 h1 ha
    have e93 : s0 93 = s 93 := hf.1 93 (by decide) (by decide) (by decide) (by decide) (by decide) (by decide)
    refine S_X13_seams_102 ⟨fun q => by rw [h68] at q; omega, fun _ => ?_⟩
    rw [w32_of (show _ ≤ 3 * (i : Int) by omega) (by omega), w32_of (show _ ≤ 3 * (i : Int) + 1 by omega) (by omega), e93, (hB (3 * i) (by omega) (by omega)).1]
    refine ⟨⟨by omega, by omega⟩, ⟨by omega, by omega⟩, fun s5 e5 => ?_⟩
    have e935 : s5 93 = s 93 := by rw [e5, ups_at _ (by decide)]; exact e93
    refine Mw.ex (R_twoB (B := B) (by rw [e935]; exact hB _ (by omega) (by omega)) (by rw [e935]; exact hB _ (by omega) (by omega)) (by omega) (by omega)) ⟨⟨by omega, by omega⟩, fun s8 e8 => ?_⟩
    rw [w32_of (show _ ≤ (i : Int) + 1 by omega) (by omega)]
    have f8 : Fs s0 s8 := by
      rw [e8, e5]
      exact (Fs.up (Or.inl rfl)).tr (Fs.up (Or.inr (Or.inl rfl)))
    have e92 : s8 92 = s0 92 := by rw [e8, e5, ups_at _ (by decide), ups_at _ (by decide)]
    refine ih (i + 1) s8 (by omega) (hb.fs f8) (hf.tr f8) (by rw [e92]; exact h68) (by rw [e92]; exact h69) (by rw [e92]; exact h1) (fun k k0 k1 => ?_)
    have e136 : s8 136 = (ups s0 136 i (B (3 * i))) 136 := by rw [e8, ups_at _ (by decide), e5]
    have e137 : s8 137 k = ups s0 137 i (B (3 * (i : Int) + 1) * 256 + B (3 * (i : Int) + 1 + 1)) 137 k := by
      rw [e8]
      by_cases c : k = i
      · rw [c, ups_eq, ups_eq]
      · rw [ups_k _ c, ups_k _ c, e5, ups_at _ (by decide)]
    rw [e136, e137]
    by_cases c : k = i
    · rw [c, ups_eq, ups_eq, Int.add_assoc]
      exact ⟨rfl, rfl⟩
    · rw [ups_k _ c, ups_k _ c]
      exact ha k k0 (by omega)
theorem R_seams (hb : RB s b T) (ht : RTp s n B) : Mw g (e + 8) M_X13_seams [(21, 92), (0, bo)] s (fun r s' => (¬ okM T n bo B → r = -1 ∧ s' = ups (ups s 92 1 0) 121 5 (w32 (s 121 5 + 1))) ∧ (okM T n bo B → r = popF (hmS T bo (n / 3).toNat (yB B) (zB B)) ∧ RM s' T bo (n / 3).toNat (yB B) (zB B) ∧ s' 92 1 = 0 ∧ Fs s s')) := by
  have nb := ht.2.1
  refine S_X13_seams (fun _ s1 e1 => ?_)
  have f1 : Fs s s1 := by rw [e1]; exact Fs.up (Or.inr (Or.inr (Or.inr ⟨rfl, Or.inl rfl⟩)))
  have hb1 := hb.fs f1
  have e93 : s1 93 = s 93 := f1.1 93 (by decide) (by decide) (by decide) (by decide) (by decide) (by decide)
  rw [ht.1, tm_of nb.1]
  have no77 : ¬ okM T n bo B → P_X13_seams_77 g (e + 7) (fun r s' => (¬ okM T n bo B → r = -1 ∧ s' = ups (ups s 92 1 0) 121 5 (w32 (s 121 5 + 1))) ∧ (okM T n bo B → r = popF (hmS T bo (n / 3).toNat (yB B) (zB B)) ∧ RM s' T bo (n / 3).toNat (yB B) (zB B) ∧ s' 92 1 = 0 ∧ Fs s s')) s1 bo n 0 := fun z =>
    S_X13_seams_77 ⟨fun y => absurd rfl y, fun _ => Mw.ex (R_refuses (by decide) (by decide)) ⟨fun _ => ⟨rfl, by rw [e1, ups_at _ (by decide)]⟩, fun y => absurd y z⟩⟩
  have no : ¬ okM T n bo B → P_X13_seams_45 g (e + 7) (fun r s' => (¬ okM T n bo B → r = -1 ∧ s' = ups (ups s 92 1 0) 121 5 (w32 (s 121 5 + 1))) ∧ (okM T n bo B → r = popF (hmS T bo (n / 3).toNat (yB B) (zB B)) ∧ RM s' T bo (n / 3).toNat (yB B) (zB B) ∧ s' 92 1 = 0 ∧ Fs s s')) s1 bo n 0 0 := fun z =>
    S_X13_seams_45 ⟨fun _ => no77 z, fun _ => ⟨fun _ => no77 z, fun y => absurd rfl y⟩⟩
  refine ⟨fun q => no (fun z => by have := z.2.1; omega), fun q => ⟨fun q2 => no (fun z => q2 z.1), fun q2 => ⟨fun q3 => no (fun z => by have := z.2.1; omega), fun q3 => Mw.ex R_is ⟨fun q4 => no (fun z => ?_), fun q4 => ?_⟩⟩⟩⟩
  · rw [if_pos z.2.2.1] at q4; omega
  · have bb : 0 ≤ bo ∧ bo ≤ 99 := Classical.byContradiction (fun z => q4 (by rw [if_neg z]))
    have em : n / 3 = ((n / 3).toNat : Nat) := by omega
    have hn : n = 3 * ((n / 3).toNat : Nat) := by omega
    have hB1 : ∀ k, 0 ≤ k → k < n → s1 93 k = B k ∧ 0 ≤ B k ∧ B k ≤ 255 := by rw [e93]; exact ht.2.2
    refine rm_45 hb1 hn (by omega) hB1 (fun k hk z => no77 (fun y => z (y.2.2.2 k (by omega)))) (fun hy => ?_) (n / 3).toNat 0 (by omega) (fun k hk => by omega)
    have ok : okM T n bo B := ⟨q2, ⟨by omega, by omega⟩, bb, fun k hk => hy k (by omega)⟩
    refine S_X13_seams_77 ⟨fun _ s2 e2 s3 e3 => ?_, fun y => by omega⟩
    rw [td_of nb.1, w32_of (show _ ≤ n / 3 by omega) (by omega)] at e2
    have f3 : Fs s1 s3 := by
      rw [e3, e2]
      exact (Fs.up (Or.inr (Or.inr (Or.inr ⟨rfl, Or.inr (Or.inl rfl)⟩)))).tr (Fs.up (Or.inr (Or.inr (Or.inr ⟨rfl, Or.inr (Or.inr rfl)⟩))))
    refine Wp.imp (rm_102 (s := s) (b := b) (T := T) (B := B) hn (by omega) bb.1 bb.2 hy ht.2.2 (n / 3).toNat 0 s3 (by omega) (hb1.fs f3) (f1.tr f3) (by rw [e3, ups_k _ (by decide), e2, ups_eq]; exact em) (by rw [e3, ups_eq]) (by rw [e3, ups_k _ (by decide), e2, ups_k _ (by decide), e1, ups_eq]) (fun k k0 k1 => by omega)) (fun r s' q => ⟨fun z => absurd ok z, fun _ => q⟩)
end SEAMS
