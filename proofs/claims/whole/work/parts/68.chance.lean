/-! acts: chance of both programs; seed -/
theorem bv_i6 {a : Int} (h0 : 0 ≤ a) : (i6 a).toBitVec = BitVec.ofNat 64 a.toNat := by
  obtain ⟨n, rfl⟩ := Int.eq_ofNat_of_zero_le h0
  show (Int64.ofInt (n : Int)).toBitVec = _
  rw [Int64.toBitVec_ofInt, BitVec.ofInt_natCast]
  rfl
theorem bv_toL {x : Int64} {n : Nat} (h : x.toBitVec.toNat = n) (hn : n < 9223372036854775808) : x.toInt = (n : Int) := by
  rw [← Int64.toInt_toBitVec, BitVec.toInt_eq_toNat_of_lt (by rw [h]; omega), h]
theorem lAnd_n {a b : Int} (ha : 0 ≤ a) (ha2 : a < 9223372036854775808) (hb : 0 ≤ b) (hb2 : b < 9223372036854775808) : lAnd a b = ((a.toNat &&& b.toNat : Nat) : Int) := by
  unfold lAnd
  refine bv_toL ?_ ?_
  · rw [Int64.toBitVec_and, bv_i6 ha, bv_i6 hb, BitVec.toNat_and, BitVec.toNat_ofNat, BitVec.toNat_ofNat, Nat.mod_eq_of_lt (by omega), Nat.mod_eq_of_lt (by omega)]
  · exact Nat.lt_of_le_of_lt Nat.and_le_left (by omega)
theorem lAnd_31 {a : Int} (ha : 0 ≤ a) (ha2 : a < 9223372036854775808) : lAnd a 2147483647 = a % 2147483648 := by
  rw [lAnd_n ha ha2 (by decide) (by decide), show (2147483647 : Int).toNat = 2 ^ 31 - 1 by decide, Nat.and_two_pow_sub_one_eq_mod]
  obtain ⟨x, rfl⟩ := Int.eq_ofNat_of_zero_le ha
  simp
/-- the seed goes on -/
def nxS (x : Int) : Int := (1103515245 * x + 12345) % 2147483648
def frS (T : Tn) (x : Int) : Int := if T 0 17 ≤ nxS x / 64 % 100 then 0 else 1
/-- n years by the seed: the world, the seed, how many frosts -/
def chX (T : Tn) : Nat → Wd → Int → Int → Wd × Int × Int
  | 0, A, x, f => (A, x, f)
  | n + 1, A, x, f => chX T n (pasR T (frS T x) A).1 (nxS x) (f + frS T x)
section CHANCE
variable {T : Tn} {A : Wd} {g : GT} {e : Nat} {s : Sg} {tw b u : Int} {U : Int → Wd}
theorem nx_in (x : Int) : 0 ≤ nxS x ∧ nxS x ≤ 2147483647 := by unfold nxS; omega
theorem fr_in (T : Tn) (x : Int) : frS T x = 0 ∨ frS T x = 1 := by unfold frS; split <;> simp
theorem C_draw {x : Int} (hx : s 1 12 = x) (x0 : 0 ≤ x) (x1 : x ≤ 2147483647) : Mw g (e + 1) M_X12_drawHundred [(20, 1)] s (Ex (nxS x / 64 % 100) (ups s 1 12 (nxS x))) := by
  have nb := nx_in x
  refine S_X12_drawHundred (fun s1 e1 => ?_)
  rw [hx, w64_of (show _ ≤ 1103515245 * x by omega) (by omega), w64_of (show _ ≤ 1103515245 * x + 12345 by omega) (by omega), lAnd_31 (by omega) (by omega), show (1103515245 * x + 12345) % 2147483648 = nxS x from rfl, w32_of (by omega) (by omega)] at e1
  have e12 : s1 1 12 = nxS x := by rw [e1, ups_eq]
  rw [e12, td_of nb.1, w32_of (by omega) (by omega), tm_of (by omega)]
  exact ⟨rfl, e1⟩
theorem R_draw {x : Int} (hx : s 92 60 = x) (x0 : 0 ≤ x) (x1 : x ≤ 2147483647) : Mw g (e + 1) M_X13_draw [(21, 92), (0, 100)] s (Ex (nxS x / 64 % 100) (ups s 92 60 (nxS x))) := by
  have nb := nx_in x
  refine S_X13_draw (fun _ s1 e1 => ?_)
  rw [hx, w64_of (show _ ≤ 1103515245 * x by omega) (by omega), w64_of (show _ ≤ 1103515245 * x + 12345 by omega) (by omega), tm_of (by omega), show (1103515245 * x + 12345) % 2147483648 = nxS x from rfl] at e1
  have e12 : s1 92 60 = nxS x := by rw [e1, ups_eq]
  rw [e12, td_of nb.1, w64_of (by omega) (by omega), tm_of (by omega), w32_of (by omega) (by omega)]
  exact ⟨by decide, rfl, e1⟩
theorem bluF_1 {w : Int} : ∀ (n : Nat) (c : Int) (X Y : Wd × Int), X.1 = Y.1 → (bluF T w n c X).1 = (bluF T w n c Y).1 := by
  intro n
  induction n with
  | zero => intro c X Y h; exact h
  | succ n ih =>
    intro c X Y h
    refine ih _ _ _ ?_
    unfold blu1
    rw [h]
    split
    · rfl
    · exact h
theorem pasA_1 {fr f bb : Int} (hy : A 0 1 ≤ 998) (hT : TOK T) (hW : WOK T A) : (pasA T fr A f bb).1 = (pasR T fr A).1 := by
  obtain ⟨h1, h2⟩ := falY_R (fr := fr) (f := f) hy hT hW
  unfold pasA pasR
  rw [h1, h2]
  exact bluF_1 _ _ _ _ rfl
theorem chX_ok (hT : TOK T) : ∀ (n : Nat) (A : Wd) (x f : Int), WOK T A → A 0 1 + n ≤ 1000 → WOK T (chX T n A x f).1 ∧ (chX T n A x f).1 0 1 = A 0 1 + n := by
  intro n
  induction n with
  | zero => intro A x f h _; exact ⟨h, by show A 0 1 = A 0 1 + 0; omega⟩
  | succ n ih =>
    intro A x f h hy
    have py := pasR_y (fr := frS T x) hT h (by omega)
    have i := ih (pasR T (frS T x) A).1 (nxS x) (f + frS T x) (pasR_ok hT h (by omega)) (by rw [py.1]; omega)
    refine ⟨i.1, ?_⟩
    show (chX T n (pasR T (frS T x) A).1 (nxS x) (f + frS T x)).1 0 1 = _
    rw [i.2, py.1]
    omega
theorem chX_x : ∀ (n : Nat) (A : Wd) (x f : Int), 0 ≤ x → x ≤ 2147483647 → 0 ≤ (chX T n A x f).2.1 ∧ (chX T n A x f).2.1 ≤ 2147483647 := by
  intro n
  induction n with
  | zero => intro A x f h0 h1; exact ⟨h0, h1⟩
  | succ n ih => intro A x f _ _; exact ih _ _ _ (nx_in x).1 (nx_in x).2
/-- objects that chance changes in the class -/
def Jc (o : Int) : Prop := Ja o ∨ o = 1
theorem cl_loop {n : Int} {Q : Int → Sg → Prop} (hF : TF T) (n1 : n ≤ 1000) : ∀ (m : Nat) (k f x : Int) (s0 : Sg) (X : WX) (bb : Int), k + m = n → 0 ≤ k → s0 1 8 = tw → s0 1 12 = x → 0 ≤ x → x ≤ 2147483647 → CZ s0 48 tw T X bb → WOK T X.1 → X.1 0 1 + m ≤ 999 → 0 ≤ f → f + m ≤ 1000 →
    (∀ (s' : Sg), CX s' 48 tw T (chX T m X.1 x f).1 → s' 1 12 = (chX T m X.1 x f).2.1 → (∀ k, k ≠ 12 → s' 1 k = s0 1 k) → Fr (fun o => Jw 48 o ∨ o = 1) s0 s' → Q (chX T m X.1 x f).2.2 s') → P_X12_chance_29 g (e + 6) Q s0 n f k := by
  intro m
  induction m with
  | zero =>
    intro k f x s0 X bb hk k0 h8 h12 x0 x1 hx hW hy f0 f1 hQ
    exact S_X12_chance_29 ⟨fun _ => hQ s0 hx.1 h12 (fun _ _ => rfl) Fr.rf, fun q => absurd (by omega) q⟩
  | succ m ih =>
    intro k f x s0 X bb hk k0 h8 h12 x0 x1 hx hW hy f0 f1 hQ
    have hT := hx.1.ok
    have nb := nx_in x
    refine S_X12_chance_29 ⟨fun q => by omega, fun _ => Mw.ex (C_draw h12 x0 x1) ?_⟩
    generalize hs1 : ups s0 1 12 (nxS x) = s1
    have f1' : Fr (fun o => o = 1) s0 s1 := by rw [← hs1]; exact Fr.up rfl
    have e8 : s1 1 8 = tw := by rw [← hs1, ups_k _ (by decide)]; exact h8
    have x1' : CZ s1 48 tw T X bb := by
      obtain ⟨q1, q2, q3, q4⟩ := hx
      have e48 : s1 48 = s0 48 := f1' 48 (by decide)
      exact ⟨q1.fr f1' (fun o o1 o2 => by omega) (fun o o1 o2 q => by omega), by rw [e48]; exact q2, by rw [e48]; exact q3, by rw [e48]; exact q4⟩
    have h53 : P_X12_chance_53 g (e + 6) Q s1 n f k (frS T x) := by
      refine S_X12_chance_53 ((C_passYear x1' hF hW).imp (fun _ s2 h2 => ?_))
      have py := pasR_y (fr := frS T x) hT hW (by omega)
      have p1 := pasA_1 (fr := frS T x) (f := X.2.2) (bb := bb) (by omega) hT hW
      have e1 : s2 1 = s1 1 := h2.2 1 (fun q => by unfold Jw Jk at q; omega)
      have go : ∀ f2 k2, f2 = f + frS T x → k2 = k + 1 → P_X12_chance_29 g (e + 6) Q s2 n f2 k2 := by
        intro f2 k2 ef ek
        rw [ef, ek]
        have fi := fr_in T x
        refine ih (k + 1) (f + frS T x) (nxS x) s2 _ _ (by omega) (by omega) (by rw [e1]; exact e8) (by rw [e1, ← hs1, ups_eq]) nb.1 nb.2 h2.1 (pasA_ok hT hW) ?_ (by omega) (by omega) (fun s' c1 c2 c3 c4 => ?_)
        · show (pasA T (frS T x) X.1 X.2.2 bb).1 0 1 + m ≤ 999
          rw [p1, py.1]; omega
        · have c1 : CX s' 48 tw T (chX T m (pasA T (frS T x) X.1 X.2.2 bb).1 (nxS x) (f + frS T x)).1 := c1
          have c2 : s' 1 12 = (chX T m (pasA T (frS T x) X.1 X.2.2 bb).1 (nxS x) (f + frS T x)).2.1 := c2
          show Q (chX T m (pasA T (frS T x) X.1 X.2.2 bb).1 (nxS x) (f + frS T x)).2.2 s'
          rw [p1] at c1 c2 ⊢
          refine hQ s' c1 c2 (fun k hk => ?_) ?_
          · rw [c3 k hk, e1, ← hs1, ups_k _ hk]
          · exact ((f1'.wk (fun o ho => Or.inr ho)).tr (h2.2.wk (fun o ho => Or.inl ho))).tr c4
      refine ⟨fun z => go _ _ ?_ (w32_of (by omega) (by omega)), fun z => go _ _ ?_ (w32_of (by omega) (by omega))⟩
      · rw [z, Int.add_zero, w32_of (by omega) (by omega)]
      · have : frS T x = 1 := (fr_in T x).resolve_left z
        rw [this, w32_of (by omega) (by omega)]
    rw [e8, x1'.1.t0]
    refine ⟨fun z => ?_, fun z => ?_⟩
    · have : frS T x = 0 := by unfold frS; rw [if_pos z]
      rw [this] at h53
      exact h53
    · have : frS T x = 1 := by unfold frS; rw [if_neg z]
      rw [this] at h53
      exact h53
theorem C_chance {n x : Int} (hs : CS s tw T A u U) (h12 : s 1 12 = x) (x0 : 0 ≤ x) (x1 : x ≤ 2147483647) : Mw g (e + 7) M_X12_chance [(20, 1), (0, n)] s (fun r s' => (¬ okY A n → r = -1 ∧ s' = ups s 91 2 (w32 (s 91 2 + 1))) ∧ (okY A n → r = (chX T n.toNat A x 0).2.2 ∧ CS s' tw T (chX T n.toNat A x 0).1 (puN u) (puU u U A) ∧ s' 1 12 = (chX T n.toNat A x 0).2.1 ∧ (∀ k, k ≠ 12 → s' 1 k = s 1 k) ∧ Fr Jc s s')) := by
  have hW := hs.2.2.1
  have hT := hs.2.1.ok
  have a1 := hW.1.1
  refine S_X12_chance (fun _ => Mw.ex (C_canPass hs.2.1 hW) ⟨fun q => (C_saves hs).imp (fun _ s4 h4 => ?_), fun q => Mw.ex (C_refuse (by decide) (by decide)) ⟨fun _ => ⟨rfl, rfl⟩, fun z => ?_⟩⟩)
  · have ok : okY A n := Classical.byContradiction (fun z => by
      have z : ¬ ((1 ≤ n ∧ n ≤ 100) ∧ A 0 1 + n ≤ 999) := z
      rw [if_neg z] at q; omega)
    obtain ⟨⟨ok1, ok2⟩, ok3⟩ := id ok
    have e1 : s4 1 = s 1 := h4.2 1 (by omega)
    refine cl_loop hs.2.2.2.1 (by omega) n.toNat 0 0 x s4 _ _ (by omega) (by decide) h4.1.1 (by rw [e1]; exact h12) x0 x1 h4.1.2.1.cz hW (by show A 0 1 + (n.toNat : Int) ≤ 999; omega) (by decide) (by omega) (fun s' c1 c2 c3 c4 => ⟨fun z => absurd ok z, fun _ => ⟨rfl, ?_, c2, fun k hk => by rw [c3 k hk, e1], ?_⟩⟩)
    · have o := chX_ok hT n.toNat A x 0 hW (by omega)
      refine ⟨by rw [c3 8 (by decide)]; exact h4.1.1, c1, o.1, hs.2.2.2.1, by rw [o.2]; omega, h4.1.2.2.2.2.2.1.fr c4 (fun o o1 o2 => by unfold Jw Jk; omega), h4.1.2.2.2.2.2.2⟩
    · refine (h4.2.wk (fun o ho => Or.inl (Or.inr ho))).tr (c4.wk (fun o ho => ?_))
      rcases ho with z | z
      · exact Or.inl (Or.inl z)
      · exact Or.inr z
  · exact absurd z (fun y => by
      have y : (1 ≤ n ∧ n ≤ 100) ∧ A 0 1 + n ≤ 999 := y
      rw [if_pos y] at q; omega)
def Jh (k : Int) : Prop := Jf k ∨ k = 60
theorem UR.f60 {x : Int} (h : RS s b T A u U) : RS (ups s 92 60 x) b T A u U := ⟨h.1.fld (by decide), h.2.1, h.2.2.1, h.2.2.2.1.fld (by decide) (by decide) (by decide), h.2.2.2.2⟩
theorem cR_loop {n : Int} (n1 : n ≤ 1000) : ∀ (m : Nat) (k f x : Int) (s0 : Sg) (A : Wd), k + m = n → 0 ≤ k → RS s0 b T A u U → s0 92 60 = x → 0 ≤ x → x ≤ 2147483647 → A 0 1 + m ≤ 999 → 0 ≤ f → f + m ≤ 1000 → Fg Jh s s0 →
    P_X13_chance_25 g (e + 8) (fun r s' => r = (chX T m A x f).2.2 ∧ RS s' b T (chX T m A x f).1 u U ∧ s' 92 60 = (chX T m A x f).2.1 ∧ Fg Jh s s') s0 n f k := by
  intro m
  induction m with
  | zero =>
    intro k f x s0 A hk k0 h h60 x0 x1 hy f0 f1 hf
    exact S_X13_chance_25 ⟨fun _ => ⟨rfl, h, h60, hf⟩, fun q => absurd (by omega) q⟩
  | succ m ih =>
    intro k f x s0 A hk k0 h h60 x0 x1 hy f0 f1 hf
    have hT := h.1.1.ok
    have nb := nx_in x
    refine S_X13_chance_25 ⟨fun q => by omega, fun _ => Mw.ex (R_draw h60 x0 x1) ?_⟩
    generalize hs1 : ups s0 92 60 (nxS x) = s1
    have h1 : RS s1 b T A u U := by rw [← hs1]; exact UR.f60 h
    have e60 : s1 92 60 = nxS x := by rw [← hs1, ups_eq]
    have f1' : Fg Jh s s1 := by rw [← hs1]; exact hf.tr (Fg.up (Or.inr rfl))
    obtain ⟨q1, q2, q3, q4, q5⟩ := id h1
    have py := pasR_y (fr := frS T x) hT q2 (by omega)
    have h62 : ∀ x0 x1, x0 = f → x1 = frS T x → P_X13_chance_62 g (e + 8) (fun r s' => r = (chX T (m + 1) A x f).2.2 ∧ RS s' b T (chX T (m + 1) A x f).1 u U ∧ s' 92 60 = (chX T (m + 1) A x f).2.1 ∧ Fg Jh s s') s1 n k (frS T x) x0 x1 := by
      intro y0 y1 ey0 ey1
      have fi := fr_in T x
      refine S_X13_chance_62 ((R_passes q1 q2 (by omega)).imp (fun _ s2 q => ?_))
      obtain ⟨c1, c2, c3, c4⟩ := q
      rw [ey0, ey1, w32_of (by omega) (by omega), w32_of (by omega) (by omega)]
      exact ih (k + 1) (f + frS T x) (nxS x) s2 (pasR T (frS T x) A).1 (by omega) (by omega) ⟨c1, pasR_ok hT q2 (by omega), by rw [py.1]; omega, q4.fp q5 c4 (by decide) (by decide), q5⟩ (by rw [c4.2.1 60 (by decide) (by decide)]; exact e60) nb.1 nb.2 (by rw [py.1]; omega) (by omega) (by omega) (f1'.tr (Fg.fp c4 (by unfold Jh Jf; omega) (by unfold Jh Jf; omega)))
    refine Mw.ex (R_toldOf q1.1.1 (by decide) (by decide)) ?_
    rw [show (14 : Int) + 3 = 17 from rfl]
    refine ⟨fun z => ?_, fun z => ?_⟩
    · have e0 : frS T x = 0 := by unfold frS; rw [if_pos z]
      rw [e0] at h62
      exact S_X13_chance_49 ⟨fun _ => h62 f 0 rfl rfl, fun y => absurd rfl y⟩
    · have e0 : frS T x = 1 := by unfold frS; rw [if_neg z]
      rw [e0] at h62
      exact S_X13_chance_49 ⟨fun y => by omega, fun _ => h62 f 1 rfl rfl⟩
theorem R_chance {n x : Int} (h : RS s b T A u U) (h60 : s 92 60 = x) (x0 : 0 ≤ x) (x1 : x ≤ 2147483647) : Mw g (e + 9) M_X13_chance [(21, 92), (0, n)] s (fun r s' => (¬ okY A n → r = -1 ∧ s' = ups s 121 2 (w32 (s 121 2 + 1))) ∧ (okY A n → r = (chX T n.toNat A x 0).2.2 ∧ RS s' b T (chX T n.toNat A x 0).1 (puN u) (puU u U A) ∧ s' 92 60 = (chX T n.toNat A x 0).2.1 ∧ Fg Jh s s')) := by
  have hW := h.2.1
  have a1 := hW.1.1
  refine S_X13_chance (fun _ => Mw.ex (R_isAhead h.1.1 hW (by decide) (by decide)) ⟨fun q => (R_saves h).imp (fun _ s4 h4 => ?_), fun q => Mw.ex (R_refuses (by decide) (by decide)) ⟨fun _ => ⟨rfl, rfl⟩, fun z => ?_⟩⟩)
  · have ok : okY A n := Classical.byContradiction (fun z => by
      have z : ¬ ((1 ≤ n ∧ n ≤ 100) ∧ A 0 1 + n ≤ 999) := z
      rw [if_neg z] at q; omega)
    obtain ⟨⟨ok1, ok2⟩, ok3⟩ := id ok
    exact Wp.imp (cR_loop (g := g) (e := e) (s := s) (n := n) (by omega) n.toNat 0 0 x s4 A (by omega) (by decide) h4.1 (by rw [h4.2.2 60 (by unfold Jf; omega)]; exact h60) x0 x1 (by omega) (by decide) (by omega) (h4.2.wk (fun k hk => Or.inl hk))) (fun r s' q => ⟨fun z => absurd ok z, fun _ => q⟩)
  · exact absurd z (fun y => by
      have y : (1 ≤ n ∧ n ≤ 100) ∧ A 0 1 + n ≤ 999 := y
      rw [if_pos y] at q; omega)
theorem C_seed {v : Int} : Mw g (e + 2) M_X12_seed [(20, 1), (0, v)] s (fun r s' => (v < 0 → r = 0 ∧ s' = ups s 91 5 (w32 (s 91 5 + 1))) ∧ (0 ≤ v → r = 1 ∧ s' = ups s 1 12 v)) := by
  refine S_X12_seed (fun _ => ⟨fun q s1 e1 => ⟨fun z => by omega, fun _ => ⟨rfl, e1⟩⟩, fun q => Mw.ex (C_refuse (by decide) (by decide)) ⟨fun _ => ⟨rfl, rfl⟩, fun z => absurd z q⟩⟩)
theorem R_seed {v : Int} : Mw g (e + 2) M_X13_seed [(21, 92), (0, v)] s (fun r s' => (v < 0 → r = 0 ∧ s' = ups s 121 5 (w32 (s 121 5 + 1))) ∧ (0 ≤ v → r = 1 ∧ s' = ups s 92 60 v)) := by
  refine S_X13_seed (fun _ => ⟨fun q s1 e1 => ⟨fun z => by omega, fun _ => ⟨rfl, e1⟩⟩, fun q => Mw.ex (R_refuses (by decide) (by decide)) ⟨fun _ => ⟨fun _ => ⟨rfl, rfl⟩, fun z => absurd z q⟩, fun z => absurd (by decide) z⟩⟩)
end CHANCE
