/-! statements: the reference's small steps -/
/-- the names of a bank's town, and how many -/
def NT (s : Sg) (b : Int) (T : Tn) : Prop := ∀ k i, 0 ≤ k → k < 3 → 0 ≤ i → i < T 1 k → ∃ l L, isN l L ∧ T (3 + k) i = cF l 6 ∧ nmR s b k i = kF l L
def RCn (s : Sg) (b : Int) (T : Tn) : Prop := (s 94 b = T 1 0 ∧ 0 ≤ T 1 0 ∧ T 1 0 ≤ 6) ∧ (s 97 b = T 1 1 ∧ 0 ≤ T 1 1 ∧ T 1 1 ≤ 8) ∧ (s 104 b = T 1 2 ∧ 0 ≤ T 1 2 ∧ T 1 2 ≤ 4)
section RLINE
variable {g : GT} {e : Nat} {s : Sg} {t : Tp} {st : Int × Int} {T : Tn} {b a : Int}
theorem RTk.bl {k : Int} (h : RTk s t a) (k0 : 0 < k) : Mw g (e + 1) M_X13_blame [(21, 92), (0, k), (0, s 92 4)] s (fun _ s' => RRs s' t (k, a) ∧ s' 92 8 = k ∧ Fa s s' ∧ (∀ j, j ≠ 8 → j ≠ 9 → s' 92 j = s 92 j)) := by
  refine (R_blame k0).imp (fun _ s' q => ?_)
  have := q.1 h.1
  refine ⟨⟨by show 0 ≤ k; omega, fun z => ?_, fun _ => ⟨this.1, ?_⟩⟩, this.1, q.2.2.2, q.2.2.1⟩
  · have z : k = 0 := z; omega
  · rw [this.2]; exact h.2.2.2.1
/-- behind lex: a token, or the end -/
theorem RRs.cs (h : RRs s t st) : (st.1 = 0 ∧ RTk s t st.2 ∧ lxT t st.2 = -1 ∧ s 92 8 = 0) ∨ (st.1 ≠ 0 ∧ 0 < s 92 8) := by
  by_cases z : st.1 = 0
  · exact Or.inl ⟨z, (h.2.1 z).1, (h.2.1 z).2, (h.2.1 z).1.1⟩
  · right
    have := (h.2.2 z).1
    have := h.1
    exact ⟨z, by omega⟩
theorem RRs.cg {st2 : Int × Int} (h : RRs s t st) (q : st = st2) : RRs s t st2 := q ▸ h
theorem RRw.cg {st2 : Int × Int} (h : RRw s t st) (q : st = st2) : RRw s t st2 := q ▸ h
theorem R_counts {v : Int} (ht : RTt s t) (h : RRs s t st) : Mw g (e + 3) M_X13_counts [(21, 92), (0, v)] s (fun r s' => RRw s' t (avS t (if v = 0 then st else flS1 6 st)) ∧ Fa s s' ∧ (st.1 = 0 → v = 0 → r = 1) ∧ (¬ (st.1 = 0 ∧ v = 0) → r = 0)) := by
  refine S_X13_counts (fun _ => ?_)
  have bad : ∀ s1, RRs s1 t (if v = 0 then st else flS1 6 st) → (if v = 0 then st else flS1 6 st).1 ≠ 0 → ¬ (st.1 = 0 ∧ v = 0) → Fa s s1 → 0 < s1 92 8 → P_X13_counts_21 g (e + 2) (fun r s' => RRw s' t (avS t (if v = 0 then st else flS1 6 st)) ∧ Fa s s' ∧ (st.1 = 0 → v = 0 → r = 1) ∧ (¬ (st.1 = 0 ∧ v = 0) → r = 0)) s1 := fun s1 h1 z1 z2 f1 p =>
    S_X13_counts_21 ⟨fun _ => S_X13_counts_32 ⟨fun _ => ⟨by rw [avS_bad z1]; exact h1.w, f1, fun y1 y2 => absurd ⟨y1, y2⟩ z2, fun _ => rfl⟩, fun q => by omega⟩, fun q => by omega⟩
  rcases h.cs with ⟨z, hk, hx, h8⟩ | ⟨z, h8⟩
  · refine ⟨fun q => absurd h8 q, fun _ => ⟨fun v0 => S_X13_counts_21 ⟨fun q => absurd h8 q, fun _ => (R_adv2 ht hk).imp (fun _ s2 q => S_X13_counts_32 ⟨fun y => absurd q.2.1 y, fun _ => ⟨?_, q.2.2, fun _ _ => rfl, fun y => absurd ⟨z, v0⟩ y⟩⟩)⟩, fun v0 => (hk.bl (by decide)).imp (fun _ s1 q => ?_)⟩⟩
    · rw [if_pos v0, avS_good z]; exact q.1
    · have e1 : (if v = 0 then st else flS1 6 st) = (6, st.2) := by rw [if_neg v0]; unfold flS1; rw [if_pos z]
      exact bad s1 (by rw [e1]; exact q.1) (by rw [e1]; show (6 : Int) ≠ 0; decide) (fun y => v0 y.2) q.2.2.1 (by rw [q.2.1]; decide)
  · have e1 : (if v = 0 then st else flS1 6 st) = st := by
      split
      · rfl
      · unfold flS1; rw [if_neg z]
    exact ⟨fun _ => bad s (by rw [e1]; exact h) (by rw [e1]; exact z) (fun y => z y.1) Fa.rf h8, fun q => by omega⟩
theorem R_must {k : Nat} {w : Int} (ht : RTt s t) (h : RRw s t st) (hk : k < 31) (hw : rcL.getD k 0 = w) : Mw g (e + 3) M_X13_must_ [(21, 92), (2, w)] s (fun _ s' => RRw s' t (zOwn t k st) ∧ Fa s s') := by
  refine S_X13_must_ (fun _ => (R_lex h).imp (fun _ s1 q => ?_))
  have ht1 := ht.fa q.2
  unfold zOwn
  rcases q.1.cs with ⟨z, hk1, hx, h8⟩ | ⟨z, h8⟩
  · refine ⟨fun _ => Mw.ex (R_isWord (e := e + 1) ht1.2.1 hk1 hx hk hw) ⟨fun y => S_X13_must__29 ⟨fun u => absurd h8 u, fun _ => (R_adv2 ht1 hk1).imp (fun _ s2 p => ⟨?_, q.2.tr p.2.2⟩)⟩, fun y => (hk1.bl (by decide)).imp (fun _ s2 p => S_X13_must__29 ⟨fun _ => ⟨?_, q.2.tr p.2.2.1⟩, fun u => by rw [p.2.1] at u; omega⟩)⟩, fun y => by omega⟩
    · have : wdT t st.2 = k := Classical.byContradiction (fun u => y (if_neg u))
      rw [if_pos z, if_pos this]; exact p.1
    · have : wdT t st.2 ≠ k := fun u => by rw [if_pos u] at y; omega
      rw [if_pos z, if_neg this]; exact p.1.w
  · rw [if_neg z]
    exact ⟨fun y => by omega, fun _ => ⟨q.1.w, q.2⟩⟩
theorem R_number {lo hi : Int} (ht : RTt s t) (h : RRw s t st) : Mw g (e + 3) M_X13_number [(21, 92), (0, lo), (0, hi)] s (fun r s' => RRw s' t (zNum t lo hi st) ∧ Fa s s' ∧ ((zNum t lo hi st).1 = 0 → r = vlT t st.2)) := by
  refine S_X13_number (fun _ _ => (R_lex h).imp (fun _ s1 q => ?_))
  have ht1 := ht.fa q.2
  unfold zNum
  rcases q.1.cs with ⟨z, hk1, hx, h8⟩ | ⟨z, h8⟩
  · have k3 : s1 92 3 = kdT t st.2 := hk1.2.2.2.2.2.1
    refine ⟨fun _ => ⟨fun y => ?_, fun y => (hk1.bl (by decide)).imp (fun _ s2 p => S_X13_number_30 ⟨fun _ => S_X13_number_58 ⟨fun _ => ⟨?_, q.2.tr p.2.2.1, ?_⟩, fun u => by rw [p.2.1] at u; omega⟩, fun u => by rw [p.2.1] at u; omega⟩)⟩, fun y => by omega⟩
    · have y : kdT t st.2 = 2 := by rw [← k3]; exact y
      have v6 : s1 92 6 = vlT t st.2 := hk1.2.2.2.2.2.2.2.2 hx (Or.inl y)
      refine S_X13_number_30 ⟨fun u => absurd h8 u, fun _ => ?_⟩
      rw [v6]
      refine Mw.ex R_is ⟨fun u => S_X13_number_58 ⟨fun u => absurd h8 u, fun _ => (R_adv2 ht1 hk1).imp (fun _ s2 p => ⟨?_, q.2.tr p.2.2, fun _ => v6⟩)⟩, fun u => (hk1.bl (by decide)).imp (fun _ s2 p => S_X13_number_58 ⟨fun _ => ⟨?_, q.2.tr p.2.2.1, ?_⟩, fun u => by rw [p.2.1] at u; omega⟩)⟩
      · have : lo ≤ vlT t st.2 ∧ vlT t st.2 ≤ hi := Classical.byContradiction (fun w => u (if_neg w))
        rw [if_pos z, if_pos y, if_pos this]; exact p.1
      · have : ¬ (lo ≤ vlT t st.2 ∧ vlT t st.2 ≤ hi) := fun w => by rw [if_pos w] at u; omega
        rw [if_pos z, if_pos y, if_neg this]; exact p.1.w
      · have : ¬ (lo ≤ vlT t st.2 ∧ vlT t st.2 ≤ hi) := fun w => by rw [if_pos w] at u; omega
        rw [if_pos z, if_pos y, if_neg this]
        exact fun w => absurd w (by show ¬ (4 : Int) = 0; decide)
    · have : kdT t st.2 ≠ 2 := by rw [← k3]; exact y
      rw [if_pos z, if_neg this]; exact p.1.w
    · have : kdT t st.2 ≠ 2 := by rw [← k3]; exact y
      rw [if_pos z, if_neg this]
      exact fun w => absurd w (by show ¬ (1 : Int) = 0; decide)
  · rw [if_neg z]
    exact ⟨fun y => by omega, fun _ => ⟨q.1.w, q.2, fun y => absurd y z⟩⟩
theorem R_named {k : Int} {l : Nat → Int} {L : Nat} (h36 : s 92 36 = b ∧ (b = 0 ∨ b = 1)) (hc : RCn s b T) (hn : NT s b T) (hl : isN l L) (k0 : 0 ≤ k ∧ k < 3) : Mw g (e + 2) M_X13_named [(21, 92), (0, k), (2, kF l L)] s (Ex (zFnd T k (cF l 6)) s) := by
  have hb := h36.2
  have cnt : 0 ≤ T 1 k ∧ T 1 k ≤ (if k = 0 then 6 else if k = 1 then 8 else 4) := by
    rcases (show k = 0 ∨ k = 1 ∨ k = 2 by omega) with z | z | z <;> subst z
    · exact hc.1.2
    · exact hc.2.1.2
    · exact hc.2.2.2
  have c8 : T 1 k ≤ 8 := by
    have := cnt.2
    split at this
    · omega
    · split at this <;> omega
  have loop : ∀ (n : Nat) (i : Int), 0 ≤ i → i + n = T 1 k → P_X13_named_3 g (e + 1) (Ex (scanF n i (fun j => decide (T (3 + k) j = cF l 6))) s) s k (kF l L) i := by
    intro n
    induction n with
    | zero =>
      intro i i0 hi
      refine S_X13_named_3 ?_
      rw [h36.1]
      refine S_X13_manyOf (fun _ _ => ⟨fun k1 => ⟨fun k2 => ⟨⟨by omega, by omega⟩, fun _ => ⟨rfl, rfl⟩, fun q => absurd ?_ q⟩, fun k2 => ⟨⟨by omega, by omega⟩, fun _ => ⟨rfl, rfl⟩, fun q => absurd ?_ q⟩⟩, fun k1 => ⟨⟨by omega, by omega⟩, fun _ => ⟨rfl, rfl⟩, fun q => absurd ?_ q⟩⟩)
      · rw [hc.2.2.1]; have : k = 2 := by omega
        subst this; omega
      · rw [hc.2.1.1]; subst k2; omega
      · rw [hc.1.1]; subst k1; omega
    | succ n ih =>
      intro i i0 hi
      obtain ⟨l2, L2, n1, n2, n3⟩ := hn k i k0.1 k0.2 i0 (by omega)
      have fin : ∀ r, r = nmR s b k i → ((¬ lCmp r (kF l L) = 0 → P_X13_named_3 g (e + 1) (Ex (scanF (n + 1) i (fun j => decide (T (3 + k) j = cF l 6))) s) s k (kF l L) (w32 (i + 1))) ∧ (lCmp r (kF l L) = 0 → Ex (scanF (n + 1) i (fun j => decide (T (3 + k) j = cF l 6))) s i s)) := fun r hr => by
        rw [hr, n3]
        refine ⟨fun q => ?_, fun q => ?_⟩
        · have ne : ¬ T (3 + k) i = cF l 6 := fun u => q (lCmp_z.2 ((nm_iff n1 hl).2 (by rw [← n2]; exact u)))
          rw [w32_of (show _ ≤ i + 1 by omega) (by omega)]
          have := ih (i + 1) (by omega) (by omega)
          unfold scanF
          rw [if_neg (by simp [ne])]
          exact this
        · have eq : T (3 + k) i = cF l 6 := by rw [n2]; exact (nm_iff n1 hl).1 (lCmp_z.1 q)
          unfold scanF
          rw [if_pos (by simp [eq])]
          exact ⟨rfl, rfl⟩
      refine S_X13_named_3 ?_
      rw [h36.1]
      have nm : Mw g (e + 1) M_X13_nameOf [(21, 92), (0, b), (0, k), (0, i)] s (fun r3 s4 => ((¬ lCmp r3 (kF l L) = 0 → P_X13_named_3 g (e + 1) (Ex (scanF (n + 1) i (fun j => decide (T (3 + k) j = cF l 6))) s) s4 k (kF l L) (w32 (i + 1))) ∧ (lCmp r3 (kF l L) = 0 → Ex (scanF (n + 1) i (fun j => decide (T (3 + k) j = cF l 6))) s i s4))) := by
        refine S_X13_nameOf (fun _ _ _ => ⟨fun k1 => ⟨fun k2 => ?_, fun k2 => ?_⟩, fun k1 => ?_⟩)
        · have : k = 2 := by omega
          have cb := cnt.2
          rw [if_neg k1, if_neg k2] at cb
          rw [w32_of (show _ ≤ 4 * b by omega) (by omega), w32_of (by omega) (by omega)]
          exact ⟨⟨by omega, by omega⟩, fin _ (by unfold nmR; rw [if_neg k1, if_neg k2])⟩
        · rw [w32_of (show _ ≤ 8 * b by omega) (by omega), w32_of (by omega) (by omega)]
          exact ⟨⟨by omega, by omega⟩, fin _ (by unfold nmR; rw [if_neg k1, if_pos k2])⟩
        · have cb := cnt.2
          rw [if_pos k1] at cb
          rw [w32_of (show _ ≤ 6 * b by omega) (by omega), w32_of (by omega) (by omega)]
          exact ⟨⟨by omega, by omega⟩, fin _ (by unfold nmR; rw [if_pos k1])⟩
      rw [← h36.1] at nm
      refine S_X13_manyOf (fun _ _ => ⟨fun k1 => ⟨fun k2 => ⟨⟨by omega, by omega⟩, fun q => ?_, fun _ => nm⟩, fun k2 => ⟨⟨by omega, by omega⟩, fun q => ?_, fun _ => nm⟩⟩, fun k1 => ⟨⟨by omega, by omega⟩, fun q => ?_, fun _ => nm⟩⟩)
      · have : k = 2 := by omega
        subst this; rw [hc.2.2.1] at q; omega
      · subst k2; rw [hc.2.1.1] at q; omega
      · subst k1; rw [hc.1.1] at q; omega
  exact S_X13_named (fun _ _ => loop (T 1 k).toNat 0 (Int.le_refl 0) (by omega))
theorem R_fresh (ht : RTt s t) (h : RRw s t st) (h36 : s 92 36 = b ∧ (b = 0 ∨ b = 1)) (hc : RCn s b T) (hn : NT s b T) : Mw g (e + 4) M_X13_fresh [(21, 92)] s (fun r s' => RRw s' t (zNew t T st) ∧ Fa s s' ∧ ((zNew t T st).1 = 0 → r = kF (ltT t st.2) (lnL t st.2) ∧ isN (ltT t st.2) (lnL t st.2) ∧ vlT t st.2 = cF (ltT t st.2) 6)) := by
  refine S_X13_fresh ((R_lex h).imp (fun _ s1 q => ?_))
  have ht1 := ht.fa q.2
  unfold zNew
  rcases q.1.cs with ⟨z, hk1, hx, h8⟩ | ⟨z, h8⟩
  · have k3 : s1 92 3 = kdT t st.2 := hk1.2.2.2.2.2.1
    -- a fault of kind x at the token
    have bad : ∀ (s2 : Sg) (x v : Int), 0 < x → RRs s2 t (x, st.2) → s2 92 8 = x → Fa s s2 → P_X13_fresh_43 g (e + 3) (fun r s' => RRw s' t (x, st.2) ∧ Fa s s' ∧ (((x, st.2) : Int × Int).1 = 0 → r = kF (ltT t st.2) (lnL t st.2) ∧ isN (ltT t st.2) (lnL t st.2) ∧ vlT t st.2 = cF (ltT t st.2) 6)) s2 v := fun s2 x v x0 r2 v8 f2 => by
      have fin : P_X13_fresh_83 g (e + 3) (fun r s' => RRw s' t (x, st.2) ∧ Fa s s' ∧ (((x, st.2) : Int × Int).1 = 0 → r = kF (ltT t st.2) (lnL t st.2) ∧ isN (ltT t st.2) (lnL t st.2) ∧ vlT t st.2 = cF (ltT t st.2) 6)) s2 := S_X13_fresh_83 ⟨fun _ => ⟨r2.w, f2, fun y => absurd y (by show ¬ x = 0; omega)⟩, fun y => by omega⟩
      exact S_X13_fresh_43 ⟨fun _ => fin, fun _ => ⟨fun _ => fin, fun y => by omega⟩⟩
    have no : ¬ zNam t st.2 → P_X13_fresh_32 g (e + 3) (fun r s' => RRw s' t (if st.1 = 0 then (if zNam t st.2 then (if zKno T (vlT t st.2) then (2, st.2) else avT t st.2) else (1, st.2)) else st) ∧ Fa s s' ∧ ((if st.1 = 0 then (if zNam t st.2 then (if zKno T (vlT t st.2) then (2, st.2) else avT t st.2) else (1, st.2)) else st).1 = 0 → r = kF (ltT t st.2) (lnL t st.2) ∧ isN (ltT t st.2) (lnL t st.2) ∧ vlT t st.2 = cF (ltT t st.2) 6)) s1 := fun nn => by
      rw [if_pos z, if_neg nn]
      exact S_X13_fresh_32 ((hk1.bl (by decide)).imp (fun _ s2 p => bad s2 1 0 (by decide) p.1 p.2.1 (q.2.tr p.2.2.1)))
    refine ⟨fun _ => ⟨fun y => no (fun u => y (by rw [k3]; exact u.1)), fun y => ?_⟩, fun y => by omega⟩
    have k1 : kdT t st.2 = 1 := by rw [← k3]; exact y
    refine Mw.ex (R_isOwn (e := e + 2) ht1.2.1 hk1 hx k1 rfl) ⟨fun w => ?_, fun w => no (fun u => w (if_pos u.2))⟩
    have w31 : wdT t st.2 = 31 := Classical.byContradiction (fun u => by rw [if_neg u] at w; omega)
    obtain ⟨n1, n2, n3, _⟩ := tk_n ht1.2.1 hk1 hx k1
    rw [if_pos z, if_pos ⟨k1, w31⟩]
    have h36' : s1 92 36 = b := by rw [q.2.2 36 (by unfold Ka; omega)]; exact h36.1
    have hc1 : RCn s1 b T := by unfold RCn; rw [q.2.1 94 (by decide), q.2.1 97 (by decide), q.2.1 104 (by decide)]; exact hc
    have hn1 : NT s1 b T := by unfold NT nmR; rw [q.2.1 112 (by decide), q.2.1 113 (by decide), q.2.1 114 (by decide)]; exact hn
    have nam : ∀ k, 0 ≤ k → k < 3 → Mw g (e + 3) M_X13_named [(21, 92), (0, k), (2, s1 92 7)] s1 (Ex (zFnd T k (vlT t st.2)) s1) := fun k a1 a2 => by
      rw [n2, n3]; exact R_named (e := e + 1) ⟨h36', h36.2⟩ hc1 hn1 n1 ⟨a1, a2⟩
    have tak : ∀ v, zKno T (vlT t st.2) → Mw g (e + 3) M_X13_blame [(21, 92), (0, 2), (0, s1 92 4)] s1 (fun _ s4 => P_X13_fresh_43 g (e + 3) (fun r s' => RRw s' t (if zKno T (vlT t st.2) then (2, st.2) else avT t st.2) ∧ Fa s s' ∧ ((if zKno T (vlT t st.2) then (2, st.2) else avT t st.2).1 = 0 → r = kF (ltT t st.2) (lnL t st.2) ∧ isN (ltT t st.2) (lnL t st.2) ∧ vlT t st.2 = cF (ltT t st.2) 6)) s4 v) := fun v kn => by
      rw [if_pos kn]
      exact (hk1.bl (by decide)).imp (fun _ s2 p => bad s2 2 v (by decide) p.1 p.2.1 (q.2.tr p.2.2.1))
    refine S_X13_fresh_43 ⟨fun u => by omega, fun _ => ⟨fun u => absurd h8 u, fun _ => Mw.ex (nam 0 (by decide) (by decide)) ⟨fun q0 => ?_, fun q0 => tak _ (Or.inl q0)⟩⟩⟩
    rw [show w32 (0 + 1) = 1 by decide]
    refine S_X13_fresh_43 ⟨fun u => by omega, fun _ => ⟨fun u => absurd h8 u, fun _ => Mw.ex (nam 1 (by decide) (by decide)) ⟨fun q1 => ?_, fun q1 => tak _ (Or.inr (Or.inl q1))⟩⟩⟩
    rw [show w32 (1 + 1) = 2 by decide]
    refine S_X13_fresh_43 ⟨fun u => by omega, fun _ => ⟨fun u => absurd h8 u, fun _ => Mw.ex (nam 2 (by decide) (by decide)) ⟨fun q2 => ?_, fun q2 => tak _ (Or.inr (Or.inr q2))⟩⟩⟩
    rw [show w32 (2 + 1) = 3 by decide]
    have nk : ¬ zKno T (vlT t st.2) := fun u => by
      rcases u with u | u | u
      · exact u q0
      · exact u q1
      · exact u q2
    rw [if_neg nk]
    exact S_X13_fresh_43 ⟨fun _ => S_X13_fresh_83 ⟨fun u => absurd h8 u, fun _ => (R_adv2 ht1 hk1).imp (fun _ s2 p => ⟨p.1, q.2.tr p.2.2, fun _ => ⟨n2, n1, n3⟩⟩)⟩, fun u => absurd (by decide) u⟩
  · rw [if_neg z]
    exact ⟨fun y => by omega, fun _ => ⟨q.1.w, q.2, fun y => absurd y z⟩⟩
theorem R_asked {k bar : Int} (ht : RTt s t) (h : RRw s t st) (h36 : s 92 36 = b ∧ (b = 0 ∨ b = 1)) (hc : RCn s b T) (hn : NT s b T) (k0 : 0 ≤ k ∧ k < 3) (hbar : 0 ≤ bar ∧ bar < 2147483648) : Mw g (e + 4) M_X13_askedBut [(21, 92), (0, k), (0, bar)] s (fun r s' => RRw s' t (zKnw t T k bar st) ∧ Fa s s' ∧ ((zKnw t T k bar st).1 = 0 → r = zVal t T k bar st) ∧ (0 ≤ r ∧ r < 8)) := by
  refine S_X13_askedBut (fun _ _ => (R_lex h).imp (fun _ s1 q => ?_))
  have ht1 := ht.fa q.2
  have tk8 : 0 ≤ T 1 k ∧ T 1 k ≤ 8 := by
    rcases (show k = 0 ∨ k = 1 ∨ k = 2 by omega) with z | z | z <;> subst z
    · have := hc.1.2; omega
    · exact hc.2.1.2
    · have := hc.2.2.2; omega
  unfold zKnw zVal
  rcases q.1.cs with ⟨z, hk1, hx, h8⟩ | ⟨z, h8⟩
  · have k3 : s1 92 3 = kdT t st.2 := hk1.2.2.2.2.2.1
    have bad : ∀ (s2 : Sg) (x v v2 : Int), 0 < x → RRs s2 t (x, st.2) → s2 92 8 = x → Fa s s2 → P_X13_askedBut_91 g (e + 3) (fun r s' => RRw s' t (x, st.2) ∧ Fa s s' ∧ (((x, st.2) : Int × Int).1 = 0 → r = v2) ∧ (0 ≤ r ∧ r < 8)) s2 v := fun s2 x v v2 x0 r2 v8 f2 =>
      S_X13_askedBut_91 ⟨fun _ => S_X13_askedBut_102 ⟨fun u => by omega, fun _ => ⟨r2.w, f2, fun y => absurd y (by show ¬ x = 0; omega), by omega⟩⟩, fun u => by omega⟩
    have no : ¬ zNam t st.2 → P_X13_askedBut_32 g (e + 3) (fun r s' => RRw s' t (if st.1 = 0 then (if zNam t st.2 then (if zHas t T k bar st.2 then avT t st.2 else (3, st.2)) else (1, st.2)) else st) ∧ Fa s s' ∧ ((if st.1 = 0 then (if zNam t st.2 then (if zHas t T k bar st.2 then avT t st.2 else (3, st.2)) else (1, st.2)) else st).1 = 0 → r = if st.1 = 0 ∧ zNam t st.2 ∧ zHas t T k bar st.2 then zFnd T k (vlT t st.2) else -1) ∧ (0 ≤ r ∧ r < 8)) s1 k bar := fun nn => by
      rw [if_pos z, if_neg nn]
      refine S_X13_askedBut_32 ((hk1.bl (by decide)).imp (fun _ s2 p => S_X13_askedBut_41 ⟨fun u => by rw [p.2.1] at u; omega, fun _ => S_X13_askedBut_61 ⟨fun _ => bad s2 1 0 _ (by decide) p.1 p.2.1 (q.2.tr p.2.2.1), fun u => by rw [p.2.1] at u; omega⟩⟩))
    refine ⟨fun _ => ⟨fun y => no (fun u => y (by rw [k3]; exact u.1)), fun y => ?_⟩, fun y => by omega⟩
    have k1 : kdT t st.2 = 1 := by rw [← k3]; exact y
    refine Mw.ex (R_isOwn (e := e + 2) ht1.2.1 hk1 hx k1 rfl) ⟨fun w => ?_, fun w => no (fun u => w (if_pos u.2))⟩
    have w31 : wdT t st.2 = 31 := Classical.byContradiction (fun u => by rw [if_neg u] at w; omega)
    obtain ⟨n1, n2, n3, _⟩ := tk_n ht1.2.1 hk1 hx k1
    have h36' : s1 92 36 = b := by rw [q.2.2 36 (by unfold Ka; omega)]; exact h36.1
    have hc1 : RCn s1 b T := by unfold RCn; rw [q.2.1 94 (by decide), q.2.1 97 (by decide), q.2.1 104 (by decide)]; exact hc
    have hn1 : NT s1 b T := by unfold NT nmR; rw [q.2.1 112 (by decide), q.2.1 113 (by decide), q.2.1 114 (by decide)]; exact hn
    have nam : Mw g (e + 3) M_X13_named [(21, 92), (0, k), (2, s1 92 7)] s1 (Ex (zFnd T k (vlT t st.2)) s1) := by
      rw [n2, n3]; exact R_named (e := e + 1) ⟨h36', h36.2⟩ hc1 hn1 n1 k0
    rw [if_pos z, if_pos (show zNam t st.2 from ⟨k1, w31⟩)]
    have fi := fnd_in (T := T) (k := k) (x := vlT t st.2) tk8.1
    refine S_X13_askedBut_41 ⟨fun _ => Mw.ex nam (S_X13_askedBut_61 ⟨fun u => absurd h8 u, fun _ => ⟨fun m => ?_, fun m => Mw.ex (R_has2 (e := e + 2) hbar.1 hbar.2 (by omega) (by omega)) ⟨fun u => ?_, fun u => ?_⟩⟩⟩), fun u => by omega⟩
    · have nh : ¬ zHas t T k bar st.2 := fun u => u.1 m
      rw [if_neg nh]
      exact S_X13_askedBut_82 ((hk1.bl (by decide)).imp (fun _ s2 p => bad s2 3 _ _ (by decide) p.1 p.2.1 (q.2.tr p.2.2.1)))
    · have bt : bar.toNat.testBit (zFnd T k (vlT t st.2)).toNat = false := by
        apply Classical.byContradiction
        intro v
        rw [if_pos (by simpa using v)] at u
        omega
      have hh : zHas t T k bar st.2 := ⟨m, (bAnd_bit hbar.1 hbar.2 (by omega) (by omega)).2 bt⟩
      rw [if_pos hh, if_pos ⟨z, ⟨k1, w31⟩, hh⟩]
      exact S_X13_askedBut_91 ⟨fun u => absurd h8 u, fun _ => (R_adv2 ht1 hk1).imp (fun _ s2 p => S_X13_askedBut_102 ⟨fun _ => ⟨p.1, q.2.tr p.2.2, fun _ => rfl, by omega⟩, fun u => absurd (by rw [p.2.1]; decide) u⟩)⟩
    · have nh : ¬ zHas t T k bar st.2 := fun v => by
        have := (bAnd_bit hbar.1 hbar.2 (by omega) (by omega)).1 v.2
        rw [if_neg (by rw [this]; decide)] at u
        exact u rfl
      rw [if_neg nh]
      exact S_X13_askedBut_82 ((hk1.bl (by decide)).imp (fun _ s2 p => bad s2 3 _ _ (by decide) p.1 p.2.1 (q.2.tr p.2.2.1)))
  · rw [if_neg z]
    exact ⟨fun y => by omega, fun _ => ⟨q.1.w, q.2, fun y => absurd y z, by omega⟩⟩
end RLINE
