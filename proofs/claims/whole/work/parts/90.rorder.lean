/-! order of the reference -/
def Fq (s s2 : Sg) : Prop := (∀ o, (o < 122 ∨ 132 < o) → o ≠ 92 → o ≠ 133 → o ≠ 134 → o ≠ 135 → s2 o = s o) ∧ s2 92 = s 92 ∧
  (∀ o i, (o = 122 ∨ o = 123 ∨ o = 129) → i ≠ 1 → s2 o i = s o i) ∧ (∀ o i, 124 ≤ o → o ≤ 128 → (i < 8 ∨ 16 ≤ i) → s2 o i = s o i) ∧ (∀ i, (i < 240 ∨ 480 ≤ i) → s2 130 i = s 130 i)
section RORDER
variable {g : GT} {e : Nat} {s : Sg} {b : Int} {T : Tn} {A : Wd}
theorem Fq.rf : Fq s s := ⟨fun _ _ _ _ _ _ => rfl, rfl, fun _ _ _ _ => rfl, fun _ _ _ _ _ => rfl, fun _ _ => rfl⟩
theorem Fq.tr {s2 s3 : Sg} (h : Fq s s2) (h2 : Fq s2 s3) : Fq s s3 :=
  ⟨fun o o1 o2 o3 o4 o5 => (h2.1 o o1 o2 o3 o4 o5).trans (h.1 o o1 o2 o3 o4 o5), h2.2.1.trans h.2.1, fun o i o1 i1 => (h2.2.2.1 o i o1 i1).trans (h.2.2.1 o i o1 i1), fun o i o1 o2 i1 => (h2.2.2.2.1 o i o1 o2 i1).trans (h.2.2.2.1 o i o1 o2 i1), fun i i1 => (h2.2.2.2.2 i i1).trans (h.2.2.2.2 i i1)⟩
theorem Fq.fm {s2 : Sg} (h : Fm 1 s s2) : Fq s s2 := ⟨fun o o1 o2 _ _ _ => h.1 o o1 o2, h.2.1, h.2.2.1, fun o i o1 o2 i1 => h.2.2.2.1 o i o1 o2 (by omega), fun i i1 => h.2.2.2.2 i (by omega)⟩
theorem Fq.fr {s2 : Sg} (h : Fr (fun o => o = 133 ∨ o = 134 ∨ o = 135) s s2) : Fq s s2 :=
  ⟨fun o o1 o2 o3 o4 o5 => h o (by omega), h 92 (by omega), fun o i o1 _ => by rw [h o (by omega)], fun o i o1 o2 _ => by rw [h o (by omega)], fun i _ => by rw [h 130 (by omega)]⟩
theorem Fq.fr4 {s2 : Sg} (h : Fr (fun o => o = 134) s s2) : Fq s s2 := Fq.fr (h.wk (fun o z => Or.inr (Or.inl z)))
theorem RX.fq {s2 : Sg} (h : RX s 0 b T A) (hf : Fq s s2) : RX s2 0 b T A := by
  obtain ⟨h1, h2, h3, h4, h5, h6⟩ := h
  refine ⟨⟨by rw [hf.2.1]; exact h1.1, h1.2.1, h1.2.2.1.fr (J := fun o => 112 ≤ o ∨ o ≤ 93) (fun o ho => hf.1 o (by omega) (by omega) (by omega) (by omega) (by omega)) (fun o o1 o2 => by omega), h1.2.2.2⟩, h2, ?_, ?_, ?_, fun c c0 c1 => ?_⟩
  · rw [hf.2.2.1 122 0 (by omega) (by omega)]; exact h3
  · rw [hf.2.2.1 123 0 (by omega) (by omega)]; exact h4
  · rw [hf.2.2.1 129 0 (by omega) (by omega)]; exact h5
  · have t8 := h1.2.2.2.1.2.1
    rw [hf.2.2.2.1 124 _ (by omega) (by omega) (by omega), hf.2.2.2.1 125 _ (by omega) (by omega) (by omega), hf.2.2.2.1 126 _ (by omega) (by omega) (by omega), hf.2.2.2.1 127 _ (by omega) (by omega) (by omega), hf.2.2.2.1 128 _ (by omega) (by omega) (by omega)]
    exact h6 c c0 c1
theorem fU_pre {m : Nat} (hm : 0 < m) (m6 : m ≤ 6) : ∀ (n P : Nat), fU (prD m (n + 1) P) (n + 1) = bOr (fU (prD m n (P / m)) n) (bShl 1 ((P % m : Nat) : Int)) := by
  intro n P
  have e1 : fU (prD m (n + 1) P) n = fU (prD m n (P / m)) n := fU_congr n (fun i hi => by
    show (if (i : Int) = (n : Int) then _ else _) = _
    rw [if_neg (by omega)])
  have e2 : prD m (n + 1) P n = ((P % m : Nat) : Int) := by
    show (if (n : Int) = (n : Int) then _ else _) = _
    rw [if_pos rfl]
  show bOr (fU (prD m (n + 1) P) n) (bShl 1 (prD m (n + 1) P n)) = _
  rw [e1, e2]
theorem row_10 {m : Nat} {Q : Int → Sg → Prop} (m6 : m ≤ 6) : ∀ (n P : Nat) (v4 : Int) (s0 : Sg), n ≤ m → P < 50000 → inR v4 → Fr (fun o => o = 134) s s0 →
    (∀ s', Fr (fun o => o = 134) s s' → (∀ i : Int, 0 ≤ i → i < n → s' 134 i = prD m n P i) → (∀ i : Int, (n : Int) ≤ i → s' 134 i = s0 134 i) → Q (if bOr v4 (fU (prD m n P) n) = fuS m then 1 else 0) s') → P_X13_isRow_10 g e Q s0 m P v4 ((n : Int) - 1) := by
  intro n
  have efu : w32 (bShl 1 (m : Int) - 1) = fuS m := by
    rcases (show m = 0 ∨ m = 1 ∨ m = 2 ∨ m = 3 ∨ m = 4 ∨ m = 5 ∨ m = 6 by omega) with z | z | z | z | z | z | z <;> rw [z] <;> decide +kernel
  induction n with
  | zero =>
    intro P v4 s0 hn hP hv hf hq
    have h := hq s0 hf (fun i i0 i1 => by omega) (fun _ _ => rfl)
    refine S_X13_isRow_10 ⟨fun _ => ?_, fun q => absurd (by omega) q⟩
    rw [efu]
    have e0 : bOr v4 (fU (prD m 0 P) 0) = v4 := bOr_0 hv
    rw [e0] at h
    refine ⟨fun z => ?_, fun z => ?_⟩
    · rw [if_neg z] at h; exact h
    · rw [if_pos z] at h; exact h
  | succ n ih =>
    intro P v4 s0 hn hP hv hf hq
    have m0 : 0 < m := by omega
    have pm := Nat.mod_lt P m0
    have pd := Nat.div_le_self P m
    refine S_X13_isRow_10 ⟨fun q => absurd q (by omega), fun _ => ⟨by omega, ⟨by omega, by omega⟩, fun s1 e1 => ⟨⟨by omega, by omega⟩, by omega, ?_⟩⟩⟩
    have et : Int.tmod (P : Int) (m : Int) = ((P % m : Nat) : Int) := by rw [tm_of (by omega)]; simp
    have ed : Int.tdiv (P : Int) (m : Int) = ((P / m : Nat) : Int) := by rw [td_of (by omega)]; simp
    rw [et, show ((n + 1 : Nat) : Int) - 1 = (n : Int) by omega] at e1
    have w1 : w32 ((P / m : Nat) : Int) = ((P / m : Nat) : Int) := by
      clear et ed e1
      generalize P / m = z at pd ⊢
      exact w32_of (by omega) (by omega)
    rw [ed, w1, show ((n + 1 : Nat) : Int) - 1 = (n : Int) by omega, w32_of (show _ ≤ (n : Int) + -1 by omega) (by omega), e1, ups_eq, ← e1, show (n : Int) + -1 = (n : Int) - 1 by omega]
    have f1 : Fr (fun o => o = 134) s0 s1 := by rw [e1]; exact Fr.up rfl
    refine ih (P / m) (bOr v4 (bShl 1 ((P % m : Nat) : Int))) s1 (by omega) (by omega) bOr_in (hf.tr f1) (fun s' f' h1 h2 => ?_)
    have h := hq s' f' (fun i i0 i1 => ?_) (fun i i0 => ?_)
    · rw [fU_pre m0 m6, bOr_cm (a := fU (prD m n (P / m)) n), ← bOr_as] at h
      exact h
    · show s' 134 i = if i = (n : Int) then ((P % m : Nat) : Int) else prD m n (P / m) i
      by_cases z : i = n
      · rw [if_pos z, h2 i (by omega), e1, z, ups_eq]
      · rw [if_neg z]; exact h1 i i0 (by omega)
    · rw [h2 i (by omega), e1, ups_k _ (by omega)]
theorem R_isRow {m P : Nat} (m6 : m ≤ 6) (hP : P < 50000) : Mw g (e + 1) M_X13_isRow [(21, 92), (0, (P : Int)), (0, (m : Int))] s (fun r s' => r = (if fU (prD m m P) m = fuS m then 1 else 0) ∧ (∀ i : Int, 0 ≤ i → i < m → s' 134 i = prD m m P i) ∧ Fr (fun o => o = 134) s s') := by
  refine S_X13_isRow (fun _ _ => ?_)
  rw [w32_of (show _ ≤ (m : Int) - 1 by omega) (by omega)]
  refine row_10 m6 m P 0 s (Nat.le_refl m) hP ⟨by decide, by decide⟩ Fr.rf (fun s' f h1 h2 => ⟨?_, h1, f⟩)
  by_cases m0 : 0 < m
  · have bd := fU_bd (D := prD m m P) m (fun i _ => by have := prD_bd m0 m P i; omega)
    rw [bOr_0l ⟨by omega, by omega⟩]
  · have : m = 0 := by omega
    subst this
    have : bOr 0 (fU (prD 0 0 P) 0) = fU (prD 0 0 P) 0 := by show bOr 0 0 = 0; decide +kernel
    rw [this]
/-- rows of all stones: what is built in step by step -/
theorem fw_ok (hT : TOK T) (hW : WOK T A) {m : Nat} (m6 : m ≤ 6) (hmo : m = omS T A) {D : Int → Int} (hD : ∀ i : Nat, i < m → 0 ≤ D i ∧ D i < m) (hp : popF (fU D m) = m) : ∀ n : Nat, n ≤ m →
    popF (fU D n) = n ∧ WOK T (fwF T A (fun i => jhS T A (D i)) n).1 ∧ (∀ j : Int, 0 ≤ j → j < m → (fU D n).toNat.testBit j.toNat = false → jhS T A j < T 1 1 ∧ (fwF T A (fun i => jhS T A (D i)) n).1 3 (jhS T A j) = -1 ∧ T 0 15 ≤ ageS T (fwF T A (fun i => jhS T A (D i)) n).1 (jhS T A j)) ∧ (0 ≤ (fwF T A (fun i => jhS T A (D i)) n).2 ∧ (fwF T A (fun i => jhS T A (D i)) n).2 ≤ n) ∧ (n < m → (fU D n).toNat.testBit (D n).toNat = false) := by
  have bd6 : ∀ n : Nat, n ≤ m → ∀ i : Nat, i < n → 0 ≤ D i ∧ D i < 6 := fun n hn i hi => by have := hD i (by omega); omega
  have back : ∀ k n : Nat, n + k = m → popF (fU D m) ≤ popF (fU D n) + k := by
    intro k
    induction k with
    | zero => intro n hn; have : n = m := by omega
              subst this; omega
    | succ k ih =>
      intro n hn
      have i := ih (n + 1) (by omega)
      have pp := fU_pop (bd6 (n + 1) (by omega))
      cases z : (fU D n).toNat.testBit (D n).toNat with
      | true => rw [pp.1 z] at i; omega
      | false => rw [pp.2 z] at i; omega
  have pn : ∀ n : Nat, n ≤ m → popF (fU D n) = n := fun n hn => by
    have := back (m - n) n (by omega)
    have := fU_le n (bd6 n hn)
    omega
  have nb : ∀ n : Nat, n < m → (fU D n).toNat.testBit (D n).toNat = false := fun n hn => by
    have p1 := pn n (by omega)
    have p2 := pn (n + 1) (by omega)
    have pp := fU_pop (bd6 (n + 1) (by omega))
    cases z : (fU D n).toNat.testBit (D n).toNat with
    | true => rw [pp.1 z] at p2; omega
    | false => rfl
  intro n
  induction n with
  | zero =>
    intro _
    refine ⟨pn 0 (by omega), hW, fun j j0 j1 _ => ?_, ⟨Int.le_refl 0, Int.le_refl 0⟩, nb 0⟩
    exact pS_ok (sh_in (T := T) (A := A) j0 (by omega)).2.1
  | succ n ih =>
    intro hn
    obtain ⟨i1, i2, i3, i4, i5⟩ := ih (by omega)
    have hd := hD n (by omega)
    have hc := i3 (D n) hd.1 hd.2 (i5 (by omega))
    have si := sh_in (T := T) (A := A) (j := D n) hd.1 (by omega)
    have b1 := b1S_bd T (fwF T A (fun i => jhS T A (D i)) n).1 (jhS T A (D n))
    refine ⟨pn (n + 1) hn, bldA_ok hT i2 si.1.1 hc.1 hc.2.1 hc.2.2, fun j j0 j1 hj => ?_, ?_, nb (n + 1)⟩
    · rw [fU_bit (bd6 (n + 1) hn), Bool.or_eq_false_iff, decide_eq_false_iff_not] at hj
      have := i3 j j0 j1 hj.1
      have sj := sh_in (T := T) (A := A) (j := j) j0 (by omega)
      have ne : jhS T A j ≠ jhS T A (D n) := fun z => by
        have e1 := sj.2.2
        have e2 := si.2.2
        rw [z, e2] at e1
        omega
      refine ⟨this.1, ?_, ?_⟩
      · show bldA T (fwF T A (fun i => jhS T A (D i)) n).1 (jhS T A (D n)) 3 (jhS T A j) = -1
        rw [bldA_3 hT _ _ ne]
        exact this.2.1
      · show T 0 15 ≤ ageS T (bldA T (fwF T A (fun i => jhS T A (D i)) n).1 (jhS T A (D n))) (jhS T A j)
        rw [ageS_eq (bldA_0 (by decide))]
        exact this.2.2
    · show 0 ≤ (fwF T A (fun i => jhS T A (D i)) n).2 + b1S T (fwF T A (fun i => jhS T A (D i)) n).1 (jhS T A (D n)) ∧ (fwF T A (fun i => jhS T A (D i)) n).2 + b1S T (fwF T A (fun i => jhS T A (D i)) n).1 (jhS T A (D n)) ≤ ((n + 1 : Nat) : Int)
      omega
/-- the stones on the shelf are told -/
def SHT (s : Sg) (T : Tn) (A : Wd) : Prop := ∀ j : Int, 0 ≤ j → j < omS T A → s 133 j = jhS T A j
theorem ro_188 {Q : Int → Sg → Prop} {m : Nat} {k ways v5 y : Int} {D : Int → Int} (m6 : m ≤ 6) (hmo : m = omS T A) (hD : ∀ i : Nat, i < m → 0 ≤ D i ∧ D i < m) : ∀ (j i : Nat) (s0 : Sg), i + j = m → SHT s0 T A → (∀ i : Int, 0 ≤ i → i < m → s0 134 i = D i) → (∀ x : Int, 0 ≤ x → x < i → s0 135 x = jhS T A (D x)) → Fr (fun o => o = 135) s s0 →
    (∀ s', SHT s' T A → (∀ x : Int, 0 ≤ x → x < m → s' 135 x = jhS T A (D x)) → Fr (fun o => o = 135) s s' → P_X13_order_97 g e Q s' k m ways v5 (w32 (y + 1))) → P_X13_order_188 g e Q s0 k m ways v5 y i := by
  intro j
  induction j with
  | zero =>
    intro i s0 hi hs h4 h5 hf hq
    have : i = m := by omega
    subst this
    exact S_X13_order_188 ⟨fun _ => hq s0 hs h5 hf, fun q => absurd (by omega) q⟩
  | succ j ih =>
    intro i s0 hi hs h4 h5 hf hq
    have hd := hD i (by omega)
    have e4 := h4 i (by omega) (by omega)
    refine S_X13_order_188 ⟨fun q => absurd q (by omega), fun _ => ⟨⟨by omega, by omega⟩, ?_⟩⟩
    rw [e4, hs (D i) hd.1 (by omega), w32_of (show _ ≤ (i : Int) + 1 by omega) (by omega)]
    refine ⟨⟨by omega, by omega⟩, ⟨by omega, by omega⟩, fun s1 e1 => ih (i + 1) s1 (by omega) (fun x x0 x1 => by rw [e1, ups_at _ (by decide)]; exact hs x x0 x1) (fun x x0 x1 => by rw [e1, ups_at _ (by decide)]; exact h4 x x0 x1) (fun x x0 x1 => ?_) (hf.tr (by rw [e1]; exact Fr.up rfl)) hq⟩
    by_cases z : x = i
    · rw [e1, z, ups_eq]
    · rw [e1, ups_k _ z]; exact h5 x x0 (by omega)
theorem ro_129 {Q : Int → Sg → Prop} {m : Nat} {k ways v5 y : Int} {D : Int → Int} (hT : TOK T) (hW : WOK T A) (m6 : m ≤ 6) (hmo : m = omS T A) (hD : ∀ i : Nat, i < m → 0 ≤ D i ∧ D i < m) (hp : popF (fU D m) = m) : ∀ (j i : Nat) (s0 : Sg), i + j = m → SHT s0 T A → (∀ i : Int, 0 ≤ i → i < m → s0 134 i = D i) → RZ False s0 1 b T (fwF T A (fun i => jhS T A (D i)) i).1 → Fm 1 s s0 →
    (∀ s', SHT s' T A → (∀ i : Int, 0 ≤ i → i < m → s' 134 i = D i) → Fm 1 s s' → ((v5 < (fwF T A (fun i => jhS T A (D i)) m).2 → P_X13_order_188 g (e + 7) Q s' k m ways (fwF T A (fun i => jhS T A (D i)) m).2 y 0) ∧ (¬ v5 < (fwF T A (fun i => jhS T A (D i)) m).2 → P_X13_order_97 g (e + 7) Q s' k m ways v5 (w32 (y + 1))))) → P_X13_order_129 g (e + 7) Q s0 k m ways v5 y (fwF T A (fun i => jhS T A (D i)) i).2 i := by
  intro j
  induction j with
  | zero =>
    intro i s0 hi hs h4 hz hf hq
    have : i = m := by omega
    subst this
    have h := hq s0 hs h4 hf
    exact S_X13_order_129 ⟨fun _ => h, fun q => absurd (by omega) q⟩
  | succ j ih =>
    intro i s0 hi hs h4 hz hf hq
    have hd := hD i (by omega)
    have e4 := h4 i (by omega) (by omega)
    obtain ⟨i1, i2, i3, i4, i5⟩ := fw_ok hT hW m6 hmo hD hp i (by omega)
    have hc := i3 (D i) hd.1 hd.2 (i5 (by omega))
    have si := sh_in (T := T) (A := A) (j := D i) hd.1 (by omega)
    refine S_X13_order_129 ⟨fun q => absurd q (by omega), fun _ => ⟨⟨by omega, by omega⟩, ?_⟩⟩
    rw [e4, hs (D i) hd.1 (by omega)]
    refine ⟨⟨by omega, by omega⟩, (R_isBuilt hz i2 si.1.1 hc.1 hc.2.1 hc.2.2).imp (fun r s2 h2 => ?_)⟩
    obtain ⟨hr, hz2, f2⟩ := h2
    have er : r = b1S T (fwF T A (fun i => jhS T A (D i)) i).1 (jhS T A (D i)) := hr
    have nx : P_X13_order_129 g (e + 7) Q s2 k m ways v5 y ((fwF T A (fun i => jhS T A (D i)) i).2 + r) ((i : Int) + 1) := by
      have := ih (i + 1) s2 (by omega) (fun x x0 x1 => by rw [f2.1 133 (by omega) (by omega)]; exact hs x x0 x1) (fun x x0 x1 => by rw [f2.1 134 (by omega) (by omega)]; exact h4 x x0 x1) hz2 (hf.tr f2) hq
      rw [er]
      exact this
    have b1 := b1S_bd T (fwF T A (fun i => jhS T A (D i)) i).1 (jhS T A (D i))
    rw [w32_of (show _ ≤ (i : Int) + 1 by omega) (by omega)]
    refine ⟨fun z => ?_, fun z => ?_⟩
    · rw [w32_of (by omega) (by omega), ← z]; exact nx
    · have r1 : r = 1 := by omega
      rw [r1] at nx
      rw [w32_of (by omega) (by omega)]; exact nx
theorem stp_a {m y : Nat} {st : OS} (h : fU (prD m m y) m = fuS m) (u : st.1 < (fwF T A (fun i => jhS T A (prD m m y i)) m).2) : stp T A m y st = ((fwF T A (fun i => jhS T A (prD m m y i)) m).2, fun i => jhS T A (prD m m y i)) := by
  unfold stp lea
  rw [if_pos h, if_pos u]
theorem stp_b {m y : Nat} {st : OS} (h : fU (prD m m y) m = fuS m) (u : ¬ st.1 < (fwF T A (fun i => jhS T A (prD m m y i)) m).2) : stp T A m y st = st := by
  unfold stp lea
  rw [if_pos h, if_neg u]
theorem stp_c {m y : Nat} {st : OS} (h : ¬ fU (prD m m y) m = fuS m) : stp T A m y st = st := by
  unfold stp
  rw [if_neg h]
theorem pow_bd {m q : Nat} (hm : m ≤ 6) (hq : q ≤ 6) : m ^ q ≤ 46656 := by
  have h1 := Nat.pow_le_pow_left hm q
  have h2 : 6 ^ q ≤ 6 ^ 6 := Nat.pow_le_pow_right (by omega) hq
  have h3 : (6 : Nat) ^ 6 = 46656 := by decide
  omega
theorem ro_97 {k : Int} {st : OS} (hW : WOK T A) (m6 : omS T A ≤ 6) (hk : -1 ≤ k ∧ k < omS T A) : ∀ (j y : Nat) (s0 : Sg), y + j = omS T A ^ omS T A → RX s0 0 b T A → SHT s0 T A → (∀ i : Int, 0 ≤ i → i < omS T A → s0 135 i = (fldF y (stp T A (omS T A)) st).2 i) → Fq s s0 →
    P_X13_order_97 g (e + 7) (fun r s' => r = (if k = -1 then (fldF (omS T A ^ omS T A) (stp T A (omS T A)) st).1 else (fldF (omS T A ^ omS T A) (stp T A (omS T A)) st).2 k) ∧ Fq s s') s0 k (omS T A) ((omS T A ^ omS T A : Nat) : Int) (fldF y (stp T A (omS T A)) st).1 y := by
  have pb := pow_bd m6 m6
  intro j
  induction j with
  | zero =>
    intro y s0 hy hx hs h5 hf
    have : y = omS T A ^ omS T A := by omega
    subst this
    refine S_X13_order_97 ⟨fun _ => ⟨fun z => ⟨⟨by omega, by omega⟩, ?_, hf⟩, fun z => ⟨?_, hf⟩⟩, fun q => absurd (Int.le_refl _) q⟩
    · rw [if_neg z]; exact h5 k (by omega) (by omega)
    · rw [if_pos z]
  | succ j ih =>
    intro y s0 hy hx hs h5 hf
    have hT := hx.ok
    refine S_X13_order_97 ⟨fun q => absurd q (by omega), fun _ => (R_isRow m6 (by omega)).imp (fun r s2 h2 => ?_)⟩
    obtain ⟨hr, h4, f2⟩ := h2
    have q2 : Fq s0 s2 := Fq.fr4 f2
    have x2 := hx.fq q2
    have s2h : SHT s2 T A := fun x x0 x1 => by rw [f2 133 (by omega)]; exact hs x x0 x1
    have e135 : s2 135 = s0 135 := f2 135 (by omega)
    rw [w32_of (show _ ≤ (y : Int) + 1 by omega) (by omega)]
    have ef : fldF (y + 1) (stp T A (omS T A)) st = stp T A (omS T A) y (fldF y (stp T A (omS T A)) st) := rfl
    refine ⟨fun z => ?_, fun z => ?_⟩
    · have hfu : fU (prD (omS T A) (omS T A) y) (omS T A) = fuS (omS T A) := Classical.byContradiction (fun u => z (by rw [hr]; exact if_neg u))
      have hD : ∀ i : Nat, i < omS T A → 0 ≤ prD (omS T A) (omS T A) y i ∧ prD (omS T A) (omS T A) y i < (omS T A : Int) := fun i hi => prD_bd (by omega) _ _ _
      have hp := (fu_iff m6 hD).mp hfu
      refine (R_try x2).imp (fun _ s4 h4' => ?_)
      have q4 : Fq s2 s4 := Fq.fm h4'.2
      have m129 := ro_129 (g := g) (e := e) (s := s4) (Q := fun r s' => r = (if k = -1 then (fldF (omS T A ^ omS T A) (stp T A (omS T A)) st).1 else (fldF (omS T A ^ omS T A) (stp T A (omS T A)) st).2 k) ∧ Fq s s') (k := k) (ways := ((omS T A ^ omS T A : Nat) : Int)) (v5 := (fldF y (stp T A (omS T A)) st).1) (y := (y : Int)) hT hW m6 rfl hD hp (omS T A) 0 s4 (by omega) (fun x x0 x1 => by rw [h4'.2.1 133 (by omega) (by omega)]; exact s2h x x0 x1) (fun x x0 x1 => by rw [h4'.2.1 134 (by omega) (by omega)]; exact h4 x x0 x1) h4'.1 Fm.rf
      refine m129 (fun s6 h6 h64 f6 => ?_)
      have q6 : Fq s s6 := ((hf.tr q2).tr q4).tr (Fq.fm f6)
      have x6 : RX s6 0 b T A := (x2.fq q4).fq (Fq.fm f6)
      have e135' : s6 135 = s0 135 := by rw [f6.1 135 (by omega) (by omega), h4'.2.1 135 (by omega) (by omega), e135]
      refine ⟨fun u => ?_, fun u => ?_⟩
      · have m188 := ro_188 (g := g) (e := e + 7) (s := s6) (Q := fun r s' => r = (if k = -1 then (fldF (omS T A ^ omS T A) (stp T A (omS T A)) st).1 else (fldF (omS T A ^ omS T A) (stp T A (omS T A)) st).2 k) ∧ Fq s s') (k := k) (ways := ((omS T A ^ omS T A : Nat) : Int)) (v5 := (fwF T A (fun i => jhS T A (prD (omS T A) (omS T A) y i)) (omS T A)).2) (y := (y : Int)) m6 rfl hD (omS T A) 0 s6 (by omega) h6 h64 (fun x x0 x1 => by omega) Fr.rf
        refine m188 (fun s8 h8 h85 f8 => ?_)
        rw [w32_of (show _ ≤ (y : Int) + 1 by omega) (by omega)]
        have es : stp T A (omS T A) y (fldF y (stp T A (omS T A)) st) = ((fwF T A (fun i => jhS T A (prD (omS T A) (omS T A) y i)) (omS T A)).2, fun i => jhS T A (prD (omS T A) (omS T A) y i)) := by
          exact stp_a hfu u
        have q8 : Fq s6 s8 := Fq.fr (f8.wk (fun o z => Or.inr (Or.inr z)))
        have := ih (y + 1) s8 (by omega) (x6.fq q8) h8 (fun x x0 x1 => by rw [ef, es]; exact h85 x x0 x1) (q6.tr q8)
        rw [ef, es] at this
        exact this
      · rw [w32_of (show _ ≤ (y : Int) + 1 by omega) (by omega)]
        have es : stp T A (omS T A) y (fldF y (stp T A (omS T A)) st) = fldF y (stp T A (omS T A)) st := by
          exact stp_b hfu u
        have := ih (y + 1) s6 (by omega) x6 h6 (fun x x0 x1 => by rw [ef, es, e135']; exact h5 x x0 x1) q6
        rw [ef, es] at this
        exact this
    · have hfu : ¬ fU (prD (omS T A) (omS T A) y) (omS T A) = fuS (omS T A) := fun u => by rw [hr, if_pos u] at z; omega
      have es : stp T A (omS T A) y (fldF y (stp T A (omS T A)) st) = fldF y (stp T A (omS T A)) st := by
        exact stp_c hfu
      have := ih (y + 1) s2 (by omega) x2 s2h (fun x x0 x1 => by rw [ef, es, e135]; exact h5 x x0 x1) (hf.tr q2)
      rw [ef, es] at this
      exact this
theorem ro_41 {Q : Int → Sg → Prop} {k : Int} (hT : TOK T) (hW : WOK T A) (m6 : omS T A ≤ 6) (hq : ∀ s', RX s' 0 b T A → SHT s' T A → Fq s s' → P_X13_order_97 g (e + 7) Q s' k (omS T A) ((omS T A ^ omS T A : Nat) : Int) (-1) 0) :
    ∀ (j c : Nat) (s0 : Sg), (c : Int) + j = T 1 1 → RX s0 0 b T A → (∀ x : Nat, x < c → pS T A x = true → s0 133 (cntF x (pS T A)) = x) → Fq s s0 → P_X13_order_41 g (e + 7) Q s0 k (omS T A) (cntF c (pS T A)) ((omS T A ^ (cntF c (pS T A)).toNat : Nat) : Int) c := by
  have t8 := hT.2.1
  intro j
  induction j with
  | zero =>
    intro c s0 hc hx hs hf
    have b2 := hx.b2
    have ec : (cntF c (pS T A)).toNat = omS T A := by
      unfold omS
      rw [cntF_ext (p := pS T A) (n := c) 8 (by omega) (fun k k0 k1 => by unfold pS; rw [decide_eq_false (by omega)]; rfl)]
    refine S_X13_order_41 ?_
    rw [hx.bk, hx.nc, ec]
    refine ⟨⟨by omega, by omega⟩, fun _ => hq s0 hx (fun x x0 x1 => ?_) hf, fun q => absurd (by omega) q⟩
    have si := sh_in x0 x1
    have hp := pS_ok si.2.1
    have := hs (jhS T A x).toNat (by omega) (by rw [show (((jhS T A x).toNat : Nat) : Int) = jhS T A x by omega]; exact si.2.1)
    rw [si.2.2] at this
    rw [this]
    omega
  | succ j ih =>
    intro c s0 hc hx hs hf
    have b2 := hx.b2
    have cb := cntF_le c (pS T A)
    have eon : (if whS T A c = 2 then (1 : Int) else 0) = if pS T A c = true then 1 else 0 := by
      unfold pS
      rw [decide_eq_true (show 0 ≤ (c : Int) ∧ (c : Int) < T 1 1 by omega), Bool.true_and]
      by_cases z : whS T A c = 2
      · rw [if_pos z, if_pos (beq_iff_eq.mpr z)]
      · rw [if_neg z, if_neg (fun y => z (beq_iff_eq.mp y))]
    refine S_X13_order_41 ?_
    rw [hx.bk, hx.nc, w32_of (show _ ≤ (c : Int) + 1 by omega) (by omega)]
    refine ⟨⟨by omega, by omega⟩, fun q => by omega, fun _ => ?_⟩
    have hon := R_isOnShelf (g := g) (e := e + 3) hx hW (c := (c : Int)) (by omega) (by omega)
    rw [eon] at hon
    refine Mw.ex hon ⟨fun z => ?_, fun z => ?_⟩
    · have hp : pS T A c = true := Classical.byContradiction (fun u => z (if_neg u))
      have c1 : cntF (c + 1) (pS T A) = cntF c (pS T A) + 1 := cntF_s hp
      have c2 := cntF_le_n (p := pS T A) (c := c + 1) 8 (by omega)
      have om := om_c (T := T) (A := A)
      refine ⟨⟨by omega, by omega⟩, fun s3 e3 => ?_⟩
      have f3 : Fq s0 s3 := by rw [e3]; exact Fq.fr (Fr.up (Or.inl rfl))
      have := ih (c + 1) s3 (by omega) (hx.fq f3) (fun x hx2 hxp => ?_) (hf.tr f3)
      · rw [c1, show (cntF c (pS T A) + 1).toNat = (cntF c (pS T A)).toNat + 1 by omega, Nat.pow_succ] at this
        have pb := pow_bd (m := omS T A) (q := (cntF c (pS T A)).toNat + 1) m6 (by omega)
        rw [Nat.pow_succ] at pb
        have ew : w32 (((omS T A ^ (cntF c (pS T A)).toNat : Nat) : Int) * (omS T A : Int)) = ((omS T A ^ (cntF c (pS T A)).toNat * omS T A : Nat) : Int) := by
          rw [show ((omS T A ^ (cntF c (pS T A)).toNat : Nat) : Int) * (omS T A : Int) = ((omS T A ^ (cntF c (pS T A)).toNat * omS T A : Nat) : Int) by simp]
          exact w32_of (by omega) (by omega)
        rw [ew, w32_of (show _ ≤ cntF c (pS T A) + 1 by omega) (by omega)]
        exact this
      · by_cases y : x = c
        · rw [e3, y, ups_eq]
        · have x1 : cntF (x + 1) (pS T A) = cntF x (pS T A) + 1 := cntF_s hxp
          have x2 := cntF_le_n (p := pS T A) (c := x + 1) c (by omega)
          rw [e3, ups_k _ (by omega)]
          exact hs x (by omega) hxp
    · have hp : pS T A c = false := by
        apply Bool.eq_false_iff.mpr
        intro u
        rw [if_pos u] at z
        omega
      have := ih (c + 1) s0 (by omega) hx (fun x hx2 hxp => hs x (by
        have : x ≠ c := fun y => by rw [y, hp] at hxp; cases hxp
        omega) hxp) hf
      rw [cntF_n hp] at this
      exact this
theorem R_order {k : Int} (hx : RX s 0 b T A) (hW : WOK T A) : Mw g (e + 8) M_X13_order [(21, 92), (0, k)] s (fun r s' => r = odS T A k ∧ Fq s s') := by
  have hT := hx.ok
  have t8 := hT.2.1
  have sb := bits_bd (A := A) hT 2
  have ps := pop_sh (A := A) hT
  refine S_X13_order (fun hk => Mw.ex (R_onShelf hx hW) (Mw.ex (R_bits sb.1 (by omega)) ?_))
  rw [ps]
  unfold odS
  have go : omS T A ≤ 6 → -1 ≤ k → k < omS T A → P_X13_order_41 g (e + 7) (fun r s' => r = (if (omS T A : Int) ≤ 6 ∧ -1 ≤ k ∧ k < omS T A then (if k = -1 then (orR T A).1 else (orR T A).2 k) else -1) ∧ Fq s s') s k (omS T A) 0 1 0 := fun m6 k0 k1 => by
    rw [if_pos ⟨by omega, k0, k1⟩]
    have := ro_41 (g := g) (e := e) (s := s) (Q := fun r s' => r = (if k = -1 then (orR T A).1 else (orR T A).2 k) ∧ Fq s s') (k := k) hT hW m6 (fun s' x' h' f' => ?_) (T 1 1).toNat 0 s (by omega) hx (fun x hx _ => by omega) Fq.rf
    · exact this
    · have := ro_97 (g := g) (e := e) (s := s) (b := b) (k := k) (st := (-1, s' 135)) hW m6 ⟨k0, k1⟩ (omS T A ^ omS T A) 0 s' (by omega) x' h' (fun _ _ _ => rfl) f'
      rw [all_ways m6, or_any] at this
      exact this
  refine ⟨fun q => ⟨by rw [if_neg (fun z => by omega)], Fq.rf⟩, fun q => ⟨fun z => go (by omega) (by omega) (by omega), fun z => ?_⟩⟩
  rw [w32_of (show _ ≤ (omS T A : Int) - 1 by omega) (by omega)]
  refine Mw.ex R_is ⟨fun y => ?_, fun y => ⟨?_, Fq.rf⟩⟩
  · have : 0 ≤ k ∧ k ≤ (omS T A : Int) - 1 := Classical.byContradiction (fun u => y (if_neg u))
    exact go (by omega) (by omega) (by omega)
  · rw [if_neg (fun u => by rw [if_pos (by omega)] at y; omega)]
end RORDER
