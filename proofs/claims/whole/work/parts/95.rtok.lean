/-! the reference's reader -/
theorem lShl_8 {a : Int} (h0 : 0 ≤ a) (h1 : a < 36028797018963968) : lShl a 8 = a * 256 := by
  have hs : (((i3 (8 : Int)).toInt64 &&& 63).toBitVec.smod 64) = BitVec.ofNat 64 8 := sh_a6 8 (by decide)
  unfold lShl
  have : (i6 a <<< ((i3 8).toInt64 &&& 63)).toInt = ((a.toNat * 256 : Nat) : Int) := by
    refine bv_toL ?_ (by omega)
    rw [Int64.toBitVec_shiftLeft, hs, bv_i6 h0, BitVec.shiftLeft_eq', BitVec.toNat_ofNat, BitVec.toNat_shiftLeft, BitVec.toNat_ofNat, Nat.shiftLeft_eq]
    rw [Nat.mod_eq_of_lt (a := a.toNat) (by omega), Nat.mod_eq_of_lt (a := 8) (by decide), Nat.mod_eq_of_lt (by omega)]
  rw [this]
  omega
theorem lOr_b {a b : Int} (h0 : 0 ≤ a) (h1 : a < 36028797018963968) (b0 : 0 ≤ b) (b1 : b < 256) : lOr (a * 256) b = a * 256 + b := by
  unfold lOr
  have : (i6 (a * 256) ||| i6 b).toInt = ((a.toNat * 256 + b.toNat : Nat) : Int) := by
    refine bv_toL ?_ (by omega)
    rw [Int64.toBitVec_or, bv_i6 (by omega), bv_i6 b0, BitVec.toNat_or, BitVec.toNat_ofNat, BitVec.toNat_ofNat, Nat.mod_eq_of_lt (by omega), Nat.mod_eq_of_lt (by omega)]
    have e : (a * 256).toNat = a.toNat <<< 8 := by rw [Nat.shiftLeft_eq]; omega
    rw [e, ← Nat.shiftLeft_add_eq_or_of_lt (by omega), Nat.shiftLeft_eq]
  rw [this]
  omega
/-- the tape that is read -/
def RTt (s : Sg) (t : Tp) : Prop := s 92 2 = t.1 ∧ TpO t ∧ ∀ k, 0 ≤ k → k < t.1 → s 93 k = t.2 k
/-- token a is laid out, nothing blamed -/
def RTk (s : Sg) (t : Tp) (a : Int) : Prop := s 92 8 = 0 ∧ s 92 9 = -1 ∧ (0 ≤ a ∧ a ≤ t.1) ∧ s 92 4 = a ∧ s 92 5 = ndT t a ∧ s 92 3 = kdT t a ∧ s 92 12 = lxT t a ∧ (lxT t a = -1 → kdT t a = 1 → s 92 7 = kF (ltT t a) (lnL t a)) ∧ (lxT t a = -1 → kdT t a = 2 ∨ kdT t a = 3 → s 92 6 = vlT t a)
/-- behind lex -/
def RRs (s : Sg) (t : Tp) (st : Int × Int) : Prop := 0 ≤ st.1 ∧ (st.1 = 0 → RTk s t st.2 ∧ lxT t st.2 = -1) ∧ (st.1 ≠ 0 → s 92 8 = st.1 ∧ s 92 9 = st.2)
/-- ahead of lex -/
def RRw (s : Sg) (t : Tp) (st : Int × Int) : Prop := 0 ≤ st.1 ∧ (st.1 = 0 → RTk s t st.2 ∧ lxT t st.2 = -1) ∧ (st.1 ≠ 0 → (s 92 8 = st.1 ∧ s 92 9 = st.2) ∨ (st.1 = 1 ∧ ∃ a, RTk s t a ∧ lxT t a = st.2 ∧ st.2 ≠ -1))
def Ka (k : Int) : Prop := k = 3 ∨ k = 4 ∨ k = 5 ∨ k = 6 ∨ k = 7 ∨ k = 8 ∨ k = 9 ∨ k = 12
def Fa (s s2 : Sg) : Prop := (∀ o, o ≠ 92 → s2 o = s o) ∧ ∀ k, ¬ Ka k → s2 92 k = s 92 k
section RTOK
variable {g : GT} {e : Nat} {s : Sg} {t : Tp} {p : Int}
theorem Fa.rf : Fa s s := ⟨fun _ _ => rfl, fun _ _ => rfl⟩
theorem Fa.tr {s2 s3 : Sg} (h : Fa s s2) (h2 : Fa s2 s3) : Fa s s3 := ⟨fun o ho => (h2.1 o ho).trans (h.1 o ho), fun k hk => (h2.2 k hk).trans (h.2 k hk)⟩
theorem Fa.u {k v : Int} (h : Ka k) : Fa s (ups s 92 k v) := ⟨fun o ho => ups_at _ ho, fun j hj => ups_k _ (fun z => hj (z ▸ h))⟩
theorem RTt.fa {s2 : Sg} (h : RTt s t) (hf : Fa s s2) : RTt s2 t := ⟨by rw [hf.2 2 (by unfold Ka; omega)]; exact h.1, h.2.1, by rw [hf.1 93 (by decide)]; exact h.2.2⟩
theorem RRs.w {st : Int × Int} (h : RRs s t st) : RRw s t st := ⟨h.1, h.2.1, fun z => Or.inl (h.2.2 z)⟩
theorem R_isL {x : Int} : Mw g (e + 1) M_X13_isLetter [(0, x)] s (Ex (if isL x then 1 else 0) s) := by
  refine S_X13_isLetter (fun _ => ⟨fun q => ⟨?_, rfl⟩, fun q => ⟨fun q2 => ⟨?_, rfl⟩, fun q2 => ⟨?_, rfl⟩⟩⟩)
  · rw [if_neg (fun z => by have := isL_b z; omega)]
  · rw [if_neg (fun z => by have := isL_b z; omega)]
  · rw [if_pos (show isL x = true from decide_eq_true ⟨by omega, by omega⟩)]
theorem R_isD {x : Int} : Mw g (e + 1) M_X13_isDigit [(0, x)] s (Ex (if isD x then 1 else 0) s) := by
  refine S_X13_isDigit (fun _ => ⟨fun q => ⟨?_, rfl⟩, fun q => ⟨fun q2 => ⟨?_, rfl⟩, fun q2 => ⟨?_, rfl⟩⟩⟩)
  · rw [if_neg (fun z => by have := isD_b z; omega)]
  · rw [if_neg (fun z => by have := isD_b z; omega)]
  · rw [if_pos (show isD x = true from decide_eq_true ⟨by omega, by omega⟩)]
theorem R_blame {k x : Int} (k0 : 0 < k) : Mw g (e + 1) M_X13_blame [(21, 92), (0, k), (0, x)] s (fun _ s' => (s 92 8 = 0 → s' 92 8 = k ∧ s' 92 9 = x) ∧ (0 < s 92 8 → s' = s) ∧ (∀ j, j ≠ 8 → j ≠ 9 → s' 92 j = s 92 j) ∧ Fa s s') := by
  refine S_X13_blame (fun _ _ => ⟨fun q s1 e1 s2 e2 => ⟨fun _ => ⟨?_, ?_⟩, fun z => by omega, fun j j8 j9 => ?_, ?_⟩, fun q => ⟨fun z => by omega, fun _ => rfl, fun _ _ _ => rfl, Fa.rf⟩⟩)
  · rw [e2, ups_k _ (by decide), e1, ups_eq]
  · rw [e2, ups_eq]
  · rw [e2, ups_k _ j9, e1, ups_k _ j8]
  · rw [e2, e1]; exact (Fa.u (by unfold Ka; omega)).tr (Fa.u (by unfold Ka; omega))
theorem R_lex {st : Int × Int} (h : RRw s t st) : Mw g (e + 2) M_X13_lex [(21, 92)] s (fun _ s' => RRs s' t st ∧ Fa s s') := by
  obtain ⟨h0, h1, h2⟩ := h
  refine S_X13_lex ⟨fun q => ⟨⟨h0, h1, fun z => ?_⟩, Fa.rf⟩, fun q => (R_blame (by decide)).imp (fun _ s2 m => ?_)⟩
  · rcases h2 z with y | ⟨_, a, y1, y2, y3⟩
    · exact y
    · rw [y1.2.2.2.2.2.2.1, y2] at q; exact absurd q y3
  · obtain ⟨m1, m2, m3, m4⟩ := m
    by_cases z : st.1 = 0
    · have := h1 z
      rw [this.1.2.2.2.2.2.2.1, this.2] at q
      exact absurd rfl q
    · rcases h2 z with y | ⟨y0, a, y1, y2, y3⟩
      · have e2 := m2 (by rw [y.1]; omega)
        rw [e2]
        exact ⟨⟨h0, h1, fun _ => y⟩, Fa.rf⟩
      · have := m1 y1.1
        refine ⟨⟨h0, fun y => absurd y z, fun _ => ⟨by rw [this.1, y0], by rw [this.2, y1.2.2.2.2.2.2.1, y2]⟩⟩, m4⟩
/-- what ahead has noted of a fault -/
def lpS (t : Tp) (a : Int) (mo i : Nat) : Int := if jnB t (a - 1) then a else if mo < i then a + mo else -1
theorem ra_204 {Q : Int → Sg → Prop} {a l d : Int} {mo : Nat} {c : Int → Bool} (ht : RTt s t) (a0 : 0 ≤ a) (hl : (l ≠ 0 ∧ d = 0 ∧ c = isL ∧ mo = 6) ∨ (l = 0 ∧ d ≠ 0 ∧ c = isD ∧ mo = 4)) (an : a < t.1) (n : Nat) (sp : a + n ≤ t.1 ∧ (∀ i : Nat, i < n → c (t.2 (a + i)) = true) ∧ (a + n < t.1 → c (t.2 (a + n)) = false))
    (hq : ∀ s', Fa s s' → s' 92 5 = a + n → s' 92 12 = lpS t a mo n → (n ≤ mo → l ≠ 0 → s' 92 7 = kF (fun i => t.2 (a + i) - 96) n) → (n ≤ mo → d ≠ 0 → s' 92 6 = nuF t.2 a n) → (∀ k, k ≠ 5 → k ≠ 6 → k ≠ 7 → k ≠ 12 → s' 92 k = s 92 k) → Q 0 s') :
    ∀ (j i : Nat) (s0 : Sg), i + j = n → Fa s s0 → s0 92 12 = lpS t a mo i → (i ≤ mo → l ≠ 0 → s0 92 7 = kF (fun i => t.2 (a + i) - 96) i) → (i ≤ mo → d ≠ 0 → s0 92 6 = nuF t.2 a i) → (∀ k, k ≠ 5 → k ≠ 6 → k ≠ 7 → k ≠ 12 → s0 92 k = s 92 k) → P_X13_ahead_204 g (e + 1) Q s0 (a + i) l d mo i := by
  have n16 := ht.2.1.1
  have done : ∀ s0, Fa s s0 → s0 92 12 = lpS t a mo n → (n ≤ mo → l ≠ 0 → s0 92 7 = kF (fun i => t.2 (a + i) - 96) n) → (n ≤ mo → d ≠ 0 → s0 92 6 = nuF t.2 a n) → (∀ k, k ≠ 5 → k ≠ 6 → k ≠ 7 → k ≠ 12 → s0 92 k = s 92 k) → ∀ s1, s1 = ups s0 92 5 (a + n) → Q 0 s1 := fun s0 f0 h12 h7 h6 hk s1 e1 => by
    refine hq s1 (f0.tr (by rw [e1]; exact Fa.u (by unfold Ka; omega))) (by rw [e1, ups_eq]) (by rw [e1, ups_k _ (by decide)]; exact h12) (fun x y => by rw [e1, ups_k _ (by decide)]; exact h7 x y) (fun x y => by rw [e1, ups_k _ (by decide)]; exact h6 x y) (fun k k5 k6 k7 k12 => by rw [e1, ups_k _ k5]; exact hk k k5 k6 k7 k12)
  intro j
  induction j with
  | zero =>
    intro i s0 hi f0 h12 h7 h6 hk
    have : i = n := by omega
    subst this
    have t0 := ht.fa f0
    refine S_X13_ahead_204 ?_
    rw [t0.1]
    refine ⟨fun _ s1 e1 => done s0 f0 h12 h7 h6 hk s1 e1, fun q => ⟨fun ql => ⟨⟨by omega, by omega⟩, ?_⟩, fun ql => ⟨⟨by omega, by omega⟩, ?_⟩⟩⟩
    · have nc := sp.2.2 (by omega)
      have hc : c = isD := by rcases hl with z | z; exact absurd ql z.1; exact z.2.2.1
      rw [hc] at nc
      rw [t0.2.2 (a + (i : Int)) (by omega) (by omega)]
      refine Mw.ex R_isD ⟨fun _ s1 e1 => done s0 f0 h12 h7 h6 hk s1 e1, fun z => ?_⟩
      rw [nc] at z; exact absurd rfl z
    · have nc := sp.2.2 (by omega)
      have hc : c = isL := by rcases hl with z | z; exact z.2.2.1; exact absurd z.1 ql
      rw [hc] at nc
      rw [t0.2.2 (a + (i : Int)) (by omega) (by omega)]
      refine Mw.ex R_isL ⟨fun _ s1 e1 => done s0 f0 h12 h7 h6 hk s1 e1, fun z => ?_⟩
      rw [nc] at z; exact absurd rfl z
  | succ j ih =>
    intro i s0 hi f0 h12 h7 h6 hk
    have t0 := ht.fa f0
    have ct := sp.2.1 i (by omega)
    have eb := t0.2.2 (a + (i : Int)) (by omega) (by omega)
    have h293 : ∀ s1, Fa s s1 → s1 92 12 = lpS t a mo (i + 1) → (i + 1 ≤ mo → l ≠ 0 → s1 92 7 = kF (fun i => t.2 (a + i) - 96) (i + 1)) → (i ≤ mo → d ≠ 0 → s1 92 6 = nuF t.2 a i) → (∀ k, k ≠ 5 → k ≠ 6 → k ≠ 7 → k ≠ 12 → s1 92 k = s 92 k) → P_X13_ahead_293 g (e + 1) Q s1 (a + i) l d mo i := fun s1 f1 g12 g7 g6 gk => by
      have t1 := ht.fa f1
      have eb1 := t1.2.2 (a + (i : Int)) (by omega) (by omega)
      have nx : ∀ s2, Fa s s2 → s2 92 12 = lpS t a mo (i + 1) → (i + 1 ≤ mo → l ≠ 0 → s2 92 7 = kF (fun i => t.2 (a + i) - 96) (i + 1)) → (i + 1 ≤ mo → d ≠ 0 → s2 92 6 = nuF t.2 a (i + 1)) → (∀ k, k ≠ 5 → k ≠ 6 → k ≠ 7 → k ≠ 12 → s2 92 k = s 92 k) → P_X13_ahead_204 g (e + 1) Q s2 (w32 (a + (i : Int) + 1)) l d mo (w32 ((i : Int) + 1)) := fun s2 f2 m12 m7 m6 mk => by
        rw [w32_of (show _ ≤ a + (i : Int) + 1 by omega) (by omega), w32_of (show _ ≤ (i : Int) + 1 by omega) (by omega), show a + (i : Int) + 1 = a + ((i + 1 : Nat) : Int) by omega]
        exact ih (i + 1) s2 (by omega) f2 m12 m7 m6 mk
      refine S_X13_ahead_293 ⟨fun q => nx s1 f1 g12 g7 (fun z => by omega) gk, fun q => ⟨fun qd => nx s1 f1 g12 g7 (fun _ z => absurd qd z) gk, fun qd => ⟨⟨by omega, by omega⟩, fun s2 e2 => ?_⟩⟩⟩
      have hc : c = isD ∧ mo = 4 := by rcases hl with z | z; exact absurd z.2.1 qd; exact z.2.2
      have b : 48 ≤ t.2 (a + i) ∧ t.2 (a + i) ≤ 57 := by rw [hc.1] at ct; exact isD_b ct
      have nb := nu_bd (B := t.2) (a := a) i (by omega) (fun k hk2 => by have := sp.2.1 k (by omega); rw [hc.1] at this; exact isD_b this)
      have n4 : nuF t.2 a i < 10000 := by
        have : (10 : Int) ^ i ≤ 10 ^ 4 := by
          rcases (show i = 0 ∨ i = 1 ∨ i = 2 ∨ i = 3 ∨ i = 4 by omega) with z | z | z | z | z <;> rw [z] <;> decide
        have t4 : (10 : Int) ^ 4 = 10000 := by decide
        omega
      rw [g6 (by omega) qd, eb1, w32_of (show _ ≤ 10 * nuF t.2 a i by omega) (by omega), w32_of (show _ ≤ 10 * nuF t.2 a i + t.2 (a + i) by omega) (by omega), w32_of (show _ ≤ 10 * nuF t.2 a i + t.2 (a + i) - 48 by omega) (by omega)] at e2
      refine nx s2 (f1.tr (by rw [e2]; exact Fa.u (by unfold Ka; omega))) (by rw [e2, ups_k _ (by decide)]; exact g12) (fun x y => by rw [e2, ups_k _ (by decide)]; exact g7 x y) (fun _ _ => ?_) (fun k k5 k6 k7 k12 => by rw [e2, ups_k _ k6]; exact gk k k5 k6 k7 k12)
      rw [e2, ups_eq]
      show 10 * nuF t.2 a i + t.2 (a + i) - 48 = 10 * nuF t.2 a i + (t.2 (a + i) - 48)
      omega
    have h263 : ∀ s1, Fa s s1 → s1 92 12 = lpS t a mo (i + 1) → (i ≤ mo → l ≠ 0 → s1 92 7 = kF (fun i => t.2 (a + i) - 96) i) → (i ≤ mo → d ≠ 0 → s1 92 6 = nuF t.2 a i) → (∀ k, k ≠ 5 → k ≠ 6 → k ≠ 7 → k ≠ 12 → s1 92 k = s 92 k) → P_X13_ahead_263 g (e + 1) Q s1 (a + i) l d mo i := fun s1 f1 g12 g7 g6 gk => by
      have t1 := ht.fa f1
      have eb1 := t1.2.2 (a + (i : Int)) (by omega) (by omega)
      refine S_X13_ahead_263 ⟨fun q => h293 s1 f1 g12 (fun z => by omega) g6 gk, fun q => ⟨fun ql => h293 s1 f1 g12 (fun _ z => absurd ql z) g6 gk, fun ql => ⟨⟨by omega, by omega⟩, fun s2 e2 => ?_⟩⟩⟩
      have hc : c = isL ∧ mo = 6 := by rcases hl with z | z; exact z.2.2; exact absurd z.1 ql
      have b : 97 ≤ t.2 (a + i) ∧ t.2 (a + i) ≤ 122 := by rw [hc.1] at ct; exact isL_b ct
      have kb : 0 ≤ kF (fun i => t.2 (a + i) - 96) i ∧ kF (fun i => t.2 (a + i) - 96) i < 256 ^ i := by
        have : ∀ m : Nat, m ≤ i → 0 ≤ kF (fun i => t.2 (a + i) - 96) m ∧ kF (fun i => t.2 (a + i) - 96) m < 256 ^ m := by
          intro m
          induction m with
          | zero => intro _; exact ⟨Int.le_refl 0, by show (0 : Int) < 1; decide⟩
          | succ m ihm =>
            intro hm
            have im := ihm (by omega)
            have bm := sp.2.1 m (by omega)
            rw [hc.1] at bm
            have bm := isL_b bm
            rw [Int.pow_succ]
            show 0 ≤ 256 * kF (fun i => t.2 (a + i) - 96) m + (96 + (t.2 (a + m) - 96)) ∧ 256 * kF (fun i => t.2 (a + i) - 96) m + (96 + (t.2 (a + m) - 96)) < _
            omega
        exact this i (Nat.le_refl i)
      have k5 : (256 : Int) ^ i ≤ 256 ^ 5 := by
        rcases (show i = 0 ∨ i = 1 ∨ i = 2 ∨ i = 3 ∨ i = 4 ∨ i = 5 by omega) with z | z | z | z | z | z <;> rw [z] <;> decide
      have k55 : (256 : Int) ^ 5 = 1099511627776 := by decide
      rw [g7 (by omega) ql, eb1, lShl_8 kb.1 (by omega), lOr_b kb.1 (by omega) (by omega) (by omega)] at e2
      refine h293 s2 (f1.tr (by rw [e2]; exact Fa.u (by unfold Ka; omega))) (by rw [e2, ups_k _ (by decide)]; exact g12) (fun _ _ => ?_) (fun x y => by rw [e2, ups_k _ (by decide)]; exact g6 x y) (fun k k5 k6 k7 k12 => by rw [e2, ups_k _ k7]; exact gk k k5 k6 k7 k12)
      rw [e2, ups_eq]
      show kF (fun i => t.2 (a + i) - 96) i * 256 + t.2 (a + i) = 256 * kF (fun i => t.2 (a + i) - 96) i + (96 + (t.2 (a + i) - 96))
      omega
    have h243 : P_X13_ahead_243 g (e + 1) Q s0 (a + i) l d mo i := by
      have same : ¬ (i = mo ∧ lpS t a mo i = -1) → lpS t a mo (i + 1) = lpS t a mo i := fun z => by
        unfold lpS at z ⊢
        by_cases y : jnB t (a - 1) = true
        · rw [if_pos y, if_pos y]
        · rw [if_neg y, if_neg y]
          rw [if_neg y] at z
          by_cases x : mo < i
          · rw [if_pos x, if_pos (by omega)]
          · rw [if_neg x] at z ⊢
            rw [if_neg (fun u => z ⟨by omega, rfl⟩)]
      refine S_X13_ahead_243 ⟨fun q => h263 s0 f0 (by rw [same (fun z => q (by omega))]; exact h12) h7 h6 hk, fun q => ?_⟩
      rw [h12]
      refine ⟨fun q2 => h263 s0 f0 (by rw [same (fun z => q2 z.2)]; exact h12) h7 h6 hk, fun q2 s1 e1 => h263 s1 (f0.tr (by rw [e1]; exact Fa.u (by unfold Ka; omega))) ?_ (fun x y => by rw [e1, ups_k _ (by decide)]; exact h7 x y) (fun x y => by rw [e1, ups_k _ (by decide)]; exact h6 x y) (fun k k5 k6 k7 k12 => by rw [e1, ups_k _ k12]; exact hk k k5 k6 k7 k12)⟩
      rw [e1, ups_eq]
      unfold lpS at q2 ⊢
      by_cases y : jnB t (a - 1) = true
      · rw [if_pos y] at q2; omega
      · rw [if_neg y, if_pos (show mo < i + 1 by omega)]
        omega
    refine S_X13_ahead_204 ?_
    rw [t0.1]
    refine ⟨fun q => absurd q (by omega), fun _ => ⟨fun ql => ⟨⟨by omega, by omega⟩, ?_⟩, fun ql => ⟨⟨by omega, by omega⟩, ?_⟩⟩⟩
    · have hc : c = isD := by rcases hl with z | z; exact absurd ql z.1; exact z.2.2.1
      rw [hc] at ct
      rw [eb]
      exact Mw.ex R_isD ⟨fun z => by rw [if_pos ct] at z; omega, fun _ => h243⟩
    · have hc : c = isL := by rcases hl with z | z; exact z.2.2.1; exact absurd z.1 ql
      rw [hc] at ct
      rw [eb]
      exact Mw.ex R_isL ⟨fun z => by rw [if_pos ct] at z; omega, fun _ => h243⟩
theorem kF_congr {l l2 : Nat → Int} : ∀ n : Nat, (∀ i, i < n → l i = l2 i) → kF l n = kF l2 n := by
  intro n
  induction n with
  | zero => intro _; rfl
  | succ n ih =>
    intro h
    unfold kF
    rw [ih (fun i hi => h i (by omega)), h n (by omega)]
theorem R_ahead (ht : RTt s t) (h8 : s 92 8 = 0) (h9 : s 92 9 = -1) (h5 : s 92 5 = p) (p0 : 0 ≤ p) (p1 : p ≤ t.1) : Mw g (e + 2) M_X13_ahead [(21, 92)] s (fun _ s' => RTk s' t (atT t p) ∧ RRw s' t (nxT t p) ∧ Fa s s') := by
  have n16 := ht.2.1.1
  suffices H : Mw g (e + 2) M_X13_ahead [(21, 92)] s (fun _ s' => RTk s' t (atT t p) ∧ Fa s s') by
    refine H.imp (fun _ s' h => ⟨h.1, ?_, h.2⟩)
    unfold nxT
    by_cases z : lxT t (atT t p) = -1
    · rw [if_pos z]
      exact ⟨Int.le_refl 0, fun _ => ⟨h.1, z⟩, fun y => absurd rfl y⟩
    · rw [if_neg z]
      exact ⟨by show (0 : Int) ≤ 1; decide, fun y => absurd y (by show ¬ ((1 : Int) = 0); decide), fun _ => Or.inr ⟨rfl, _, h.1, rfl, z⟩⟩
  have al := at_le p1
  have h41 : P_X13_ahead_41 g (e + 1) (fun _ s' => RTk s' t (atT t p) ∧ Fa s s') s (atT t p) := by
    generalize atT t p = a at al
    refine S_X13_ahead_41 (fun s1 e1 s2 e2 s3 e3 s4 e4 => ?_)
    have f4 : Fa s s4 := by
      rw [e4, e3, e2, e1]
      exact (((Fa.u (by unfold Ka; omega)).tr (Fa.u (by unfold Ka; omega))).tr (Fa.u (by unfold Ka; omega))).tr (Fa.u (by unfold Ka; omega))
    have t4 := ht.fa f4
    have w4 : s4 92 4 = a := by rw [e4, ups_k _ (by decide), e3, ups_k _ (by decide), e2, ups_k _ (by decide), e1, ups_eq]
    have w5 : s4 92 5 = a := by rw [e4, ups_k _ (by decide), e3, ups_k _ (by decide), e2, ups_eq]
    have w3 : s4 92 3 = 0 := by rw [e4, ups_k _ (by decide), e3, ups_eq]
    have w12 : s4 92 12 = -1 := by rw [e4, ups_eq]
    have w8 : s4 92 8 = 0 := by rw [e4, ups_k _ (by decide), e3, ups_k _ (by decide), e2, ups_k _ (by decide), e1, ups_k _ (by decide)]; exact h8
    have w9 : s4 92 9 = -1 := by rw [e4, ups_k _ (by decide), e3, ups_k _ (by decide), e2, ups_k _ (by decide), e1, ups_k _ (by decide)]; exact h9
    rw [t4.1]
    refine ⟨fun an => ⟨⟨by omega, by omega⟩, ?_⟩, fun an => ⟨⟨w8, w9, ⟨by omega, al.2⟩, w4, ?_, ?_, ?_, ?_, ?_⟩, f4⟩⟩
    · have eb := t4.2.2 a (by omega) an
      rw [eb]
      refine Mw.ex R_isL ⟨⟨by omega, by omega⟩, ?_⟩
      rw [eb]
      refine Mw.ex R_isD ?_
      -- behind the look for a lacking blank
      have h135 : ∀ s5, Fa s s5 → (∀ k, k ≠ 12 → s5 92 k = s4 92 k) → (isL (t.2 a) = true ∨ isD (t.2 a) = true → s5 92 12 = if jnB t (a - 1) then a else -1) → (isL (t.2 a) = false → isD (t.2 a) = false → s5 92 12 = -1) → P_X13_ahead_135 g (e + 1) (fun _ s' => RTk s' t a ∧ Fa s s') s5 a (if isL (t.2 a) then 1 else 0) (if isD (t.2 a) then 1 else 0) := fun s5 f5 g5 gj gn => by
        refine S_X13_ahead_135 (fun x1 d1 x2 d2 x3 d3 x4 d4 => ?_)
        rw [w32_of (show _ ≤ a + 1 by omega) (by omega)] at d4
        have fx : Fa s x4 := f5.tr (by
          rw [d4, d3, d2, d1]
          exact (((Fa.u (by unfold Ka; omega)).tr (Fa.u (by unfold Ka; omega))).tr (Fa.u (by unfold Ka; omega))).tr (Fa.u (by unfold Ka; omega)))
        have tx := ht.fa fx
        have y6 : x4 92 6 = 0 := by rw [d4, ups_k _ (by decide), d3, ups_k _ (by decide), d2, ups_k _ (by decide), d1, ups_eq]
        have y7 : x4 92 7 = 0 := by rw [d4, ups_k _ (by decide), d3, ups_k _ (by decide), d2, ups_eq]
        have y3 : x4 92 3 = 3 := by rw [d4, ups_k _ (by decide), d3, ups_eq]
        have y5 : x4 92 5 = a + 1 := by rw [d4, ups_eq]
        have yk : ∀ k, k ≠ 3 → k ≠ 5 → k ≠ 6 → k ≠ 7 → x4 92 k = s5 92 k := fun k k3 k5 k6 k7 => by rw [d4, ups_k _ k5, d3, ups_k _ k3, d2, ups_k _ k7, d1, ups_k _ k6]
        have y8 : x4 92 8 = 0 := by rw [yk 8 (by decide) (by decide) (by decide) (by decide), g5 8 (by decide)]; exact w8
        have y9 : x4 92 9 = -1 := by rw [yk 9 (by decide) (by decide) (by decide) (by decide), g5 9 (by decide)]; exact w9
        have y4 : x4 92 4 = a := by rw [yk 4 (by decide) (by decide) (by decide) (by decide), g5 4 (by decide)]; exact w4
        have y12 : x4 92 12 = s5 92 12 := yk 12 (by decide) (by decide) (by decide) (by decide)
        by_cases l : isL (t.2 a) = true
        · have k1 : kdT t a = 1 := by unfold kdT; rw [if_pos an, if_pos l]
          have nd : isD (t.2 a) = false := by
            apply Bool.eq_false_iff.mpr
            intro z
            have := isL_b l
            have := isD_b z
            omega
          rw [if_pos l, nd]
          refine ⟨fun _ => S_X13_ahead_176 ⟨fun z => absurd z (by decide), fun _ => S_X13_ahead_186 (fun x5 d5 => ⟨fun z => absurd z (by decide), fun _ => ?_⟩)⟩, fun z => absurd z (by decide)⟩
          have fx5 : Fa s x5 := fx.tr (by rw [d5]; exact Fa.u (by unfold Ka; omega))
          have sp := lnL_spec (t := t) (a := a) (by omega)
          have elx : lxT t a = lpS t a 6 (lnL t a) := by unfold lxT lpS; rw [if_pos k1]; rfl
          have := ra_204 (g := g) (e := e) (s := x5) (Q := fun _ s' => RTk s' t a ∧ Fa s s') (a := a) (l := 1) (d := 0) (mo := 6) (c := isL) (ht.fa fx5) (by omega) (Or.inl ⟨by decide, rfl, rfl, rfl⟩) an (lnL t a) sp (fun s' f' m5 m12 m7 m6 mk => ⟨⟨?_, ?_, ⟨by omega, al.2⟩, ?_, ?_, ?_, ?_, ?_, ?_⟩, fx5.tr f'⟩) (lnL t a) 0 x5 (by omega) Fa.rf ?_ (fun _ _ => ?_) (fun _ z => absurd rfl z) (fun _ _ _ _ _ => rfl)
          · rw [show a + ((0 : Nat) : Int) = a by omega] at this
            exact this
          · rw [mk 8 (by decide) (by decide) (by decide) (by decide), d5, ups_k _ (by decide)]; exact y8
          · rw [mk 9 (by decide) (by decide) (by decide) (by decide), d5, ups_k _ (by decide)]; exact y9
          · rw [mk 4 (by decide) (by decide) (by decide) (by decide), d5, ups_k _ (by decide)]; exact y4
          · rw [m5]; unfold ndT; rw [if_pos k1]
          · rw [mk 3 (by decide) (by decide) (by decide) (by decide), d5, ups_eq, k1]
          · rw [m12, elx]
          · intro hx _
            have l6 : lnL t a ≤ 6 := by
              rw [elx] at hx
              unfold lpS at hx
              split at hx
              · omega
              · split at hx <;> omega
            rw [m7 l6 (by decide)]
            exact kF_congr _ (fun i hi => by unfold ltT; rw [if_pos hi])
          · intro _ z; omega
          · rw [d5, ups_k _ (by decide), y12, gj (Or.inl l)]
            unfold lpS
            rfl
          · rw [d5, ups_k _ (by decide)]; exact y7
        · have nl := Bool.eq_false_iff.mpr l
          rw [nl]
          by_cases d : isD (t.2 a) = true
          · have k2 : kdT t a = 2 := by unfold kdT; rw [if_pos an, if_neg l, if_pos d]
            rw [if_pos d]
            refine ⟨fun z => absurd rfl z, fun _ => ⟨fun _ => S_X13_ahead_176 ⟨fun _ => S_X13_ahead_186 (fun x5 d5 => ⟨fun _ => ?_, fun z => absurd rfl z⟩), fun z => absurd rfl z⟩, fun z => absurd z (by decide)⟩⟩
            have fx5 : Fa s x5 := fx.tr (by rw [d5]; exact Fa.u (by unfold Ka; omega))
            have sp := lnD_spec (t := t) (a := a) (by omega)
            have elx : lxT t a = lpS t a 4 (lnD t a) := by unfold lxT lpS; rw [k2]; rfl
            have := ra_204 (g := g) (e := e) (s := x5) (Q := fun _ s' => RTk s' t a ∧ Fa s s') (a := a) (l := 0) (d := 1) (mo := 4) (c := isD) (ht.fa fx5) (by omega) (Or.inr ⟨rfl, by decide, rfl, rfl⟩) an (lnD t a) sp (fun s' f' m5 m12 m7 m6 mk => ⟨⟨?_, ?_, ⟨by omega, al.2⟩, ?_, ?_, ?_, ?_, ?_, ?_⟩, fx5.tr f'⟩) (lnD t a) 0 x5 (by omega) Fa.rf ?_ (fun _ z => absurd rfl z) (fun _ _ => ?_) (fun _ _ _ _ _ => rfl)
            · rw [show a + ((0 : Nat) : Int) = a by omega] at this
              exact this
            · rw [mk 8 (by decide) (by decide) (by decide) (by decide), d5, ups_k _ (by decide)]; exact y8
            · rw [mk 9 (by decide) (by decide) (by decide) (by decide), d5, ups_k _ (by decide)]; exact y9
            · rw [mk 4 (by decide) (by decide) (by decide) (by decide), d5, ups_k _ (by decide)]; exact y4
            · rw [m5]; unfold ndT; rw [k2]; rfl
            · rw [mk 3 (by decide) (by decide) (by decide) (by decide), d5, ups_eq, k2]
            · rw [m12, elx]
            · intro _ z; omega
            · intro hx _
              have l4 : lnD t a ≤ 4 := by
                rw [elx] at hx
                unfold lpS at hx
                split at hx
                · omega
                · split at hx <;> omega
              rw [m6 l4 (by decide)]
              unfold vlT
              rw [k2]
              rfl
            · rw [d5, ups_k _ (by decide), y12, gj (Or.inr d)]
              unfold lpS
              rfl
            · rw [d5, ups_k _ (by decide)]; exact y6
          · have nd := Bool.eq_false_iff.mpr d
            have k3 : kdT t a = 3 := by unfold kdT; rw [if_pos an, if_neg l, if_neg d]
            rw [nd]
            refine ⟨fun z => absurd rfl z, fun _ => ⟨fun z => absurd rfl z, fun _ => ⟨⟨by omega, by omega⟩, fun x5 d5 => ?_⟩⟩⟩
            rw [tx.2.2 a (by omega) an] at d5
            refine ⟨⟨?_, ?_, ⟨by omega, al.2⟩, ?_, ?_, ?_, ?_, fun _ z => by omega, fun _ _ => ?_⟩, fx.tr (by rw [d5]; exact Fa.u (by unfold Ka; omega))⟩
            · rw [d5, ups_k _ (by decide)]; exact y8
            · rw [d5, ups_k _ (by decide)]; exact y9
            · rw [d5, ups_k _ (by decide)]; exact y4
            · rw [d5, ups_k _ (by decide), y5]; unfold ndT; rw [k3]; rfl
            · rw [d5, ups_k _ (by decide), y3, k3]
            · rw [d5, ups_k _ (by decide), y12, gn nl nd]; unfold lxT; rw [k3]; rfl
            · rw [d5, ups_eq]; unfold vlT; rw [k3]; rfl
      have jn : ∀ x : Int, jnB t x = (decide (0 ≤ x ∧ x < t.1) && (isL (t.2 x) || isD (t.2 x))) := fun x => rfl
      have h98 : isL (t.2 a) = true ∨ isD (t.2 a) = true → P_X13_ahead_98 g (e + 1) (fun _ s' => RTk s' t a ∧ Fa s s') s4 a (if isL (t.2 a) then 1 else 0) (if isD (t.2 a) then 1 else 0) := fun hld => by
        have no : jnB t (a - 1) = false → P_X13_ahead_135 g (e + 1) (fun _ s' => RTk s' t a ∧ Fa s s') s4 a (if isL (t.2 a) then 1 else 0) (if isD (t.2 a) then 1 else 0) := fun z => h135 s4 f4 (fun _ _ => rfl) (fun _ => by rw [z]; exact w12) (fun _ _ => w12)
        have yes : jnB t (a - 1) = true → P_X13_ahead_130 g (e + 1) (fun _ s' => RTk s' t a ∧ Fa s s') s4 a (if isL (t.2 a) then 1 else 0) (if isD (t.2 a) then 1 else 0) := fun z => S_X13_ahead_130 (fun s5 e5 => h135 s5 (f4.tr (by rw [e5]; exact Fa.u (by unfold Ka; omega))) (fun k hk => by rw [e5, ups_k _ hk]) (fun _ => by rw [z, e5, ups_eq]; rfl) (fun x y => by rcases hld with u | u; rw [x] at u; cases u; rw [y] at u; cases u))
        refine S_X13_ahead_98 ⟨fun q => no (by rw [jn, decide_eq_false (by omega), Bool.false_and]), fun q => ?_⟩
        rw [w32_of (show _ ≤ a - 1 by omega) (by omega), t4.2.2 (a - 1) (by omega) (by omega)]
        refine ⟨⟨by omega, by omega⟩, Mw.ex R_isL ⟨fun z => yes ?_, fun z => ⟨⟨by omega, by omega⟩, ?_⟩⟩⟩
        · have : isL (t.2 (a - 1)) = true := Classical.byContradiction (fun y => z (if_neg y))
          rw [jn, this, decide_eq_true (by omega)]; rfl
        · rw [t4.2.2 (a - 1) (by omega) (by omega)]
          have n1 : isL (t.2 (a - 1)) = false := Bool.eq_false_iff.mpr (fun y => by rw [if_pos y] at z; omega)
          refine Mw.ex R_isD ⟨fun y => no ?_, fun y => yes ?_⟩
          · have n2 : isD (t.2 (a - 1)) = false := Bool.eq_false_iff.mpr (fun x => by rw [if_pos x] at y; omega)
            rw [jn, n1, n2]; simp
          · have n2 : isD (t.2 (a - 1)) = true := Classical.byContradiction (fun x => y (if_neg x))
            rw [jn, n1, n2, decide_eq_true (by omega)]; rfl
      refine ⟨fun z => h98 (Or.inl (Classical.byContradiction (fun y => z (if_neg y)))), fun z => ⟨fun y => ?_, fun y => h98 (Or.inr (Classical.byContradiction (fun x => y (if_neg x))))⟩⟩
      have n1 : isL (t.2 a) = false := Bool.eq_false_iff.mpr (fun x => by rw [if_pos x] at z; omega)
      have n2 : isD (t.2 a) = false := Bool.eq_false_iff.mpr (fun x => by rw [if_pos x] at y; omega)
      exact h135 s4 f4 (fun _ _ => rfl) (fun x => by rw [n1, n2] at x; simp at x) (fun _ _ => w12)
    · rw [w5]; unfold ndT kdT; rw [if_neg an]; rfl
    · rw [w3]; unfold kdT; rw [if_neg an]
    · rw [w12]; unfold lxT kdT; rw [if_neg an]; rfl
    · intro _ z; unfold kdT at z; rw [if_neg an] at z; omega
    · intro _ z; unfold kdT at z; rw [if_neg an] at z; omega
  have lp : ∀ (k : Nat) (q : Int), 0 ≤ q → q + k = t.1 → blF t.2 k q = atT t p → P_X13_ahead_5 g (e + 1) (fun _ s' => RTk s' t (atT t p) ∧ Fa s s') s q := by
    intro k
    induction k with
    | zero =>
      intro q q0 hk hb
      refine S_X13_ahead_5 ?_
      rw [ht.1]
      refine ⟨fun _ => ?_, fun z => absurd (by omega) z⟩
      have : q = atT t p := hb
      rw [this]; exact h41
    | succ k ih =>
      intro q q0 hk hb
      have eb := ht.2.2 q q0 (by omega)
      have stop : isK (t.2 q) = false → P_X13_ahead_41 g (e + 1) (fun _ s' => RTk s' t (atT t p) ∧ Fa s s') s q := fun z => by
        have : blF t.2 (k + 1) q = q := by unfold blF; rw [z]; rfl
        rw [← hb, this] at h41
        rw [← hb, this]
        exact h41
      have go : isK (t.2 q) = true → P_X13_ahead_5 g (e + 1) (fun _ s' => RTk s' t (atT t p) ∧ Fa s s') s (w32 (q + 1)) := fun z => by
        have : blF t.2 (k + 1) q = blF t.2 k (q + 1) := by
          show (if isK (t.2 q) then blF t.2 k (q + 1) else q) = _
          rw [if_pos z]
        rw [w32_of (by omega) (by omega)]
        exact ih (q + 1) (by omega) (by omega) (by rw [← this]; exact hb)
      refine S_X13_ahead_5 ?_
      rw [ht.1, eb]
      exact ⟨fun z => absurd z (by omega), fun _ => ⟨⟨by omega, by omega⟩, fun z => go (decide_eq_true (Or.inr z)), fun z => ⟨⟨by omega, by omega⟩, fun y => stop (decide_eq_false (fun x => by rcases x with x | x; exact y x; exact z x)), fun y => go (decide_eq_true (Or.inl y))⟩⟩⟩
  refine S_X13_ahead ?_
  rw [h5]
  exact lp (t.1 - p).toNat p p0 (by omega) rfl
/-- ahead behind a good token -/
theorem R_adv {a : Int} (ht : RTt s t) (h : RTk s t a) : Mw g (e + 2) M_X13_ahead [(21, 92)] s (fun _ s' => RRw s' t (avT t a) ∧ Fa s s') := by
  obtain ⟨h8, h9, hr, h4, h5, _⟩ := h
  have nd := nd_le hr.2
  exact (R_ahead ht h8 h9 h5 (by omega) nd.2.1).imp (fun _ s' h' => h'.2)
end RTOK
