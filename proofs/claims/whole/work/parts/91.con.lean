/-! on: what an image must be; the class -/
def hmO (B : Int → Int) (c : Int) : Int := B (2 + 6 * c)
def stO (B : Int → Int) (c : Int) : Int := B (2 + 6 * c + 1) * 256 + B (2 + 6 * c + 2)
def wlO (B : Int → Int) (c : Int) : Int := B (2 + 6 * c + 3) - 1
def clO (B : Int → Int) (c : Int) : Int := B (2 + 6 * c + 4)
def cuO (B : Int → Int) (c : Int) : Int := B (2 + 6 * c + 5)
def plO (B : Int → Int) (c : Int) : Int := if wlO B c = -1 then -1 else 16 * wlO B c + 4 * clO B c + cuO B c
def yrO (B : Int → Int) : Int := B 0 * 256 + B 1
/-- a child's bytes -/
def ckO (T : Tn) (B : Int → Int) (c : Int) : Prop := hmO B c < T 1 0 ∧ stO B c ≤ 999 ∧ (wlO B c = -1 → clO B c = 0 ∧ cuO B c = 0) ∧ (wlO B c ≠ -1 → wlO B c < T 1 2 ∧ T 0 15 ≤ yrO B - T 9 c ∧ clO B c < T 11 (wlO B c) ∧ cuO B c < T 12 (wlO B c))
/-- none ahead of it lies there -/
def dsO (B : Int → Int) (c : Int) : Prop := plO B c ≠ -1 → ∀ k, 0 ≤ k → k < c → plO B k ≠ plO B c
def rsO (T : Tn) (B : Int → Int) (c : Int) : Prop := plO B c ≠ -1 → 0 < cuO B c → ∃ k, 0 ≤ k ∧ k < T 1 1 ∧ plO B k = plO B c - 1
def feO (T : Tn) : Int := 2 + 6 * T 1 1
def enO (B : Int → Int) (fe : Int) : Nat → Int
  | 0 => 0
  | f + 1 => bOr (enO B fe f) (bShl (B (fe + f)) f)
def okO (T : Tn) (n : Int) (B : Int → Int) : Prop := n = feO T + T 0 13 + 1 ∧ suI B (n - 1).toNat 0 167 = B (n - 1) ∧ yrO B ≤ 999 ∧ (∀ c, 0 ≤ c → c < T 1 1 → ckO T B c ∧ dsO B c) ∧ (∀ f, 0 ≤ f → f < T 0 13 → B (feO T + f) ≤ 1) ∧ ∀ c, 0 ≤ c → c < T 1 1 → rsO T B c
def OnW (T : Tn) (B : Int → Int) (W : Wd) : Prop := W 0 1 = yrO B ∧ W 0 2 = enO B (feO T) (T 0 13).toNat ∧ W 0 9 = 0 ∧ ∀ c, 0 ≤ c → c < T 1 1 → W 1 c = hmO B c ∧ W 2 c = stO B c ∧ W 3 c = plO B c
/-- heights count what lies -/
def HC (W : Wd) : Prop := ∀ q, 0 ≤ q → q < 16 → W 5 q = (if W 4 (4 * q) = -1 then 0 else 1) + (if W 4 (4 * q + 1) = -1 then 0 else 1) + (if W 4 (4 * q + 2) = -1 then 0 else 1) + (if W 4 (4 * q + 3) = -1 then 0 else 1)
/-- c children are read -/
def OnP (T : Tn) (B : Int → Int) (W : Wd) (c : Int) : Prop := W 0 1 = yrO B ∧ W 0 2 = 0 ∧ W 0 9 = 0 ∧ (∀ k, 0 ≤ k → k < c → W 1 k = hmO B k ∧ W 2 k = stO B k ∧ W 3 k = plO B k) ∧ (∀ k, c ≤ k → k < 8 → W 1 k = T 8 k ∧ W 2 k = 0 ∧ W 3 k = -1) ∧ WI0 W ∧ HC W
def J58 (o : Int) : Prop := Jw 58 o
theorem bShl_01 : ∀ f : Nat, f < 10 → bShl 0 f = 0 := by decide +kernel
theorem enO_bd {B : Int → Int} {fe : Int} : ∀ n : Nat, n ≤ 10 → (∀ f : Nat, f < n → B (fe + f) = 0 ∨ B (fe + f) = 1) → 0 ≤ enO B fe n ∧ enO B fe n < 1024 := by
  intro n
  induction n with
  | zero => intro _ _; exact ⟨Int.le_refl 0, by show (0 : Int) < 1024; decide⟩
  | succ n ih =>
    intro hn h
    have i := ih (by omega) (fun f hf => h f (by omega))
    unfold enO
    rcases h n (by omega) with z | z
    · rw [z, bShl_01 n (by omega)]
      exact bOr_lt (n := 10) i.1 i.2 (by decide) (by decide) (by decide)
    · rw [z]
      have b := bS10 (f := (n : Int)) (by omega) (by omega)
      exact bOr_lt (n := 10) i.1 i.2 b.1 b.2 (by decide)
theorem HC.b {W : Wd} (h : HC W) {q : Int} (q0 : 0 ≤ q) (q1 : q < 16) : 0 ≤ W 5 q ∧ W 5 q ≤ 4 := by
  have := h q q0 q1
  rw [this]
  split <;> split <;> split <;> split <;> omega
section CON
variable {g : GT} {e : Nat} {s : Sg} {T : Tn} {tw n : Int} {B : Int → Int}
theorem ok_wl (hT : TOK T) {c : Int} (c0 : 0 ≤ c) (c1 : c < T 1 1) (hB : ∀ k, 0 ≤ k → k < n → 0 ≤ B k ∧ B k ≤ 255) (hn : feO T ≤ n) (h : ckO T B c) : plO B c = -1 ∨ ((0 ≤ wlO B c ∧ wlO B c < 4) ∧ (0 ≤ clO B c ∧ clO B c < 4) ∧ (0 ≤ cuO B c ∧ cuO B c < 4) ∧ plO B c = 16 * wlO B c + 4 * clO B c + cuO B c ∧ wlO B c ≠ -1) := by
  unfold feO at hn
  have b3 := hB (2 + 6 * c + 3) (by omega) (by omega)
  have b4 := hB (2 + 6 * c + 4) (by omega) (by omega)
  have b5 := hB (2 + 6 * c + 5) (by omega) (by omega)
  have t2 := hT.2.2.1
  by_cases z : wlO B c = -1
  · left; unfold plO; rw [if_pos z]
  · right
    obtain ⟨h1, h2, h3, h4⟩ := h
    have q := h4 z
    have w0 : 0 ≤ wlO B c := by unfold wlO at z ⊢; omega
    have tw := hT.2.2.2.2.2.2.2.1 (wlO B c) w0 q.1
    refine ⟨⟨w0, by omega⟩, ⟨b4.1, by omega⟩, ⟨b5.1, by omega⟩, ?_, z⟩
    unfold plO
    rw [if_neg z]
theorem OnP.wn {W : Wd} {c : Int} (hT : TOK T) (h : OnP T B W c) (c1 : c ≤ T 1 1) (hy : 0 ≤ yrO B ∧ yrO B ≤ 999) (hk : ∀ k, 0 ≤ k → k < c → 0 ≤ hmO B k ∧ hmO B k < T 1 0 ∧ 0 ≤ stO B k ∧ stO B k ≤ 999) : WN T W := by
  obtain ⟨h1, h2, h3, h4, h5, h6, h7⟩ := h
  have t8 := hT.2.1
  have t0 := hT.1
  refine ⟨by omega, by omega, by omega, fun k k0 k8 => ?_, fun k k0 k8 => ?_⟩
  · by_cases z : k < c
    · have := h4 k k0 z
      have := hk k k0 z
      omega
    · have := h5 k (by omega) k8
      have := (hT.2.2.2.2.2.1 k k0 k8).1
      omega
  · by_cases z : k < c
    · have := h4 k k0 z
      have := hk k k0 z
      omega
    · have := h5 k (by omega) (by omega)
      have := hT.2.2.2.2.2.2.1 k k0 k8
      omega
theorem put_HC {W : Wd} {c p : Int} (h : HC W) (hl : W 4 p = -1) (c0 : 0 ≤ c) (p0 : 0 ≤ p) (p1 : p < 64) : HC (putA W c p) := by
  intro q q0 q1
  have hq := h q q0 q1
  rw [putA_5, putA_4, putA_4, putA_4, putA_4]
  by_cases z : q = p / 4
  · rw [if_pos z]
    rcases (show p = 4 * q ∨ p = 4 * q + 1 ∨ p = 4 * q + 2 ∨ p = 4 * q + 3 by omega) with y | y | y | y
    · rw [← y] at hq ⊢
      rw [hl, if_pos rfl] at hq
      rw [if_pos rfl, if_neg (show ¬ p + 1 = p by omega), if_neg (show ¬ p + 2 = p by omega), if_neg (show ¬ p + 3 = p by omega), if_neg (show ¬ c = -1 by omega), hq]
      omega
    · rw [← y] at hq ⊢
      rw [hl, if_pos (show (-1 : Int) = -1 from rfl)] at hq
      rw [if_pos (show p = p from rfl), if_neg (show ¬ 4 * q = p by omega), if_neg (show ¬ 4 * q + 2 = p by omega), if_neg (show ¬ 4 * q + 3 = p by omega), if_neg (show ¬ c = -1 by omega), hq]
      omega
    · rw [← y] at hq ⊢
      rw [hl, if_pos (show (-1 : Int) = -1 from rfl)] at hq
      rw [if_pos (show p = p from rfl), if_neg (show ¬ 4 * q = p by omega), if_neg (show ¬ 4 * q + 1 = p by omega), if_neg (show ¬ 4 * q + 3 = p by omega), if_neg (show ¬ c = -1 by omega), hq]
      omega
    · rw [← y] at hq ⊢
      rw [hl, if_pos (show (-1 : Int) = -1 from rfl)] at hq
      rw [if_pos (show p = p from rfl), if_neg (show ¬ 4 * q = p by omega), if_neg (show ¬ 4 * q + 1 = p by omega), if_neg (show ¬ 4 * q + 2 = p by omega), if_neg (show ¬ c = -1 by omega), hq]
      omega
  · rw [if_neg z, if_neg (show ¬ 4 * q = p by omega), if_neg (show ¬ 4 * q + 1 = p by omega), if_neg (show ¬ 4 * q + 2 = p by omega), if_neg (show ¬ 4 * q + 3 = p by omega)]
    exact hq
theorem put_WI {W : Wd} {c p : Int} (hI : WI0 W) (h3 : W 3 c = -1) (hl : W 4 p = -1) (c0 : 0 ≤ c) (c8 : c < 8) (p0 : 0 ≤ p) (p1 : p < 64) : WI0 (putA W c p) := by
  refine ⟨fun k k0 k8 => ?_, fun q q0 q1 => ?_⟩
  · rw [putA_3]
    by_cases z : k = c
    · rw [if_pos z, putA_4, if_pos rfl]
      right; exact ⟨p0, p1, z.symm⟩
    · rw [if_neg z]
      rcases hI.1 k k0 k8 with y | ⟨y1, y2, y3⟩
      · left; exact y
      · right
        refine ⟨y1, y2, ?_⟩
        rw [putA_4, if_neg (fun x => by rw [x, hl] at y3; omega)]
        exact y3
  · rw [putA_4]
    by_cases z : q = p
    · rw [if_pos z, putA_3, if_pos rfl]
      right; exact ⟨c0, c8, z.symm⟩
    · rw [if_neg z]
      rcases hI.2 q q0 q1 with y | ⟨y1, y2, y3⟩
      · left; exact y
      · right
        refine ⟨y1, y2, ?_⟩
        rw [putA_3, if_neg (fun x => by rw [x, h3] at y3; omega)]
        exact y3
theorem J58_i {o : Int} (h : 58 ≤ o) (h2 : o ≤ 64) : J58 o := Or.inl ⟨h, by omega⟩
theorem CT.j58 {s2 : Sg} (hw : isT tw) (h : CT s tw T) (hf : Fr J58 s s2) : CT s2 tw T := h.fr hf (fun o o1 o2 o3 z => by unfold isT at hw; unfold J58 Jw Jk at z; omega)
theorem CTp.j58 {s2 : Sg} (h : CTp s n B) (hf : Fr J58 s s2) : CTp s2 n B := h.fr hf (fun z => by unfold J58 Jw Jk at z; omega) (fun z => by unfold J58 Jw Jk at z; omega)
theorem sum_fit (ht : CTp s n B) (hn : 1 ≤ n) (n99 : n ≤ 99) : ∀ (j k : Nat) (v : Int), (k : Int) + j = n - 1 → 0 ≤ v → v ≤ 250 → P_X3_sumFits_6 g (e + 1) (Ex (if suI B j k v = B (n - 1) then 1 else 0) s) s v k := by
  intro j
  induction j with
  | zero =>
    intro k v hk v0 v9
    refine S_X3_sumFits_6 ?_
    rw [ht.1, w32_of (show _ ≤ n - 1 by omega) (by omega)]
    refine ⟨fun _ => Mw.ex (C_byteAt ht (by omega) (by omega)) ⟨fun z => ⟨?_, rfl⟩, fun z => ⟨?_, rfl⟩⟩, fun q => absurd (by omega) q⟩
    · show 0 = if v = B (n - 1) then 1 else 0
      rw [if_neg (fun y => z y.symm)]
    · show 1 = if v = B (n - 1) then 1 else 0
      rw [if_pos z.symm]
  | succ j ih =>
    intro k v hk v0 v9
    have b := ht.2.2 k (by omega) (by omega)
    refine S_X3_sumFits_6 ?_
    rw [ht.1, w32_of (show _ ≤ n - 1 by omega) (by omega)]
    refine ⟨fun q => absurd q (by omega), fun _ => Mw.ex (C_byteAt ht (by omega) (by omega)) (S_X3_sumWith (fun _ _ => ?_))⟩
    rw [w32_of (show _ ≤ 5 * v by omega) (by omega), w32_of (show _ ≤ 5 * v + B k by omega) (by omega), tm_of (by omega), w32_of (show _ ≤ (k : Int) + 1 by omega) (by omega)]
    exact ih (k + 1) _ (by omega) (by omega) (by omega)
/-- behind a fault only the feuds are gone through -/
theorem rd_no {Q : Int → Sg → Prop} (hw : isT tw) (hT : TOK T) (hn : n = feO T + T 0 13 + 1) (hq : ∀ s', Fr J58 s s' → Q 0 s') : ∀ (j f : Nat) (s0 : Sg), (f : Int) + j = T 0 13 → CT s0 tw T → CTp s0 n B → Fr J58 s s0 → P_X3_read_100 g (e + 1) Q s0 tw 58 (feO T) 0 f := by
  have t8 := hT.2.1
  have t13 := hT.2.2.2.1
  have nf : feO T = 2 + 6 * T 1 1 := rfl
  intro j
  induction j with
  | zero =>
    intro f s0 hf hx ht hfr
    refine S_X3_read_100 ?_
    rw [hx.1]
    exact ⟨fun _ => ⟨fun _ => hq s0 hfr, fun z => absurd rfl z⟩, fun q => absurd (by omega) q⟩
  | succ j ih =>
    intro f s0 hf hx ht hfr
    refine S_X3_read_100 ?_
    rw [hx.1, w32_of (show _ ≤ feO T + (f : Int) by omega) (by omega)]
    have nx : ∀ x s1, Fr J58 s0 s1 → P_X3_read_100 g (e + 1) Q s1 tw 58 (feO T) (bAnd 0 x) (w32 ((f : Int) + 1)) := fun x s1 f1 => by
      have z : bAnd 0 x = 0 := by
        unfold bAnd
        rw [i3_0, Int32.zero_and]
        rfl
      rw [z, w32_of (by omega) (by omega)]
      exact ih (f + 1) s1 (by omega) (hx.j58 hw f1) (ht.j58 f1) (hfr.tr f1)
    have u : ∀ (k v : Int), Fr J58 s0 (ups s0 58 k v) := fun k v => Fr.up (J58_i (by decide) (by decide))
    refine ⟨fun q => absurd q (by omega), fun _ => Mw.ex (C_byteAt ht (by omega) (by omega)) ⟨fun _ => S_X3_read_132 ⟨fun _ s1 e1 => nx 0 s1 (by rw [e1]; exact u _ _), fun _ s1 e1 => nx 0 s1 (by rw [e1]; exact u _ _)⟩, fun _ => S_X3_read_132 ⟨fun _ s1 e1 => nx 1 s1 (by rw [e1]; exact u _ _), fun _ s1 e1 => nx 1 s1 (by rw [e1]; exact u _ _)⟩⟩⟩
theorem rd_stone {W : Wd} {c : Int} (hT : TOK T) (hx : CZ s 58 tw T (W, 0, 0) 0) (ht : CTp s n B) (hn : n = feO T + T 0 13 + 1) (hy : 0 ≤ yrO B ∧ yrO B ≤ 999) (c0 : 0 ≤ c) (c1 : c < T 1 1) (hP : OnP T B W c) (hk : ∀ k, 0 ≤ k → k < c → ckO T B k) :
    Mw g (e + 3) M_X3_readStone [(17, 2), (0, c), (19, 58)] s (fun r s' => (ckO T B c ∧ dsO B c → r = 1 ∧ ∃ V, CZ s' 58 tw T (V, 0, 0) 0 ∧ OnP T B V (c + 1)) ∧ (¬ (ckO T B c ∧ dsO B c) → r = 0) ∧ Fr J58 s s') := by
  have t8 := hT.2.1
  have t13 := hT.2.2.2.1
  have t2 := hT.2.2.1
  have nf : feO T = 2 + 6 * T 1 1 := rfl
  have bB : ∀ k, 0 ≤ k → k < n → 0 ≤ B k ∧ B k ≤ 255 := fun k k0 k1 => (ht.2.2 k k0 k1).2
  have b0 := bB (2 + 6 * c) (by omega) (by omega)
  have b1 := bB (2 + 6 * c + 1) (by omega) (by omega)
  have b2 := bB (2 + 6 * c + 2) (by omega) (by omega)
  have b3 := bB (2 + 6 * c + 3) (by omega) (by omega)
  have b4 := bB (2 + 6 * c + 4) (by omega) (by omega)
  have b5 := bB (2 + 6 * c + 5) (by omega) (by omega)
  have hkb : ∀ k, 0 ≤ k → k < c → 0 ≤ hmO B k ∧ hmO B k < T 1 0 ∧ 0 ≤ stO B k ∧ stO B k ≤ 999 := fun k k0 k1 => by
    have q := hk k k0 k1
    have a0 := bB (2 + 6 * k) (by omega) (by omega)
    have a1 := bB (2 + 6 * k + 1) (by omega) (by omega)
    have a2 := bB (2 + 6 * k + 2) (by omega) (by omega)
    refine ⟨a0.1, q.1, ?_, q.2.1⟩
    unfold stO; omega
  have no : ∀ s', ¬ ckO T B c → Fr J58 s s' → ((ckO T B c ∧ dsO B c → (0 : Int) = 1 ∧ ∃ V, CZ s' 58 tw T (V, 0, 0) 0 ∧ OnP T B V (c + 1)) ∧ (¬ (ckO T B c ∧ dsO B c) → (0 : Int) = 0) ∧ Fr J58 s s') := fun s' z f => ⟨fun y => absurd y.1 z, fun _ => rfl, f⟩
  have f6 : w32 (2 + w32 (6 * c)) = 2 + 6 * c := by rw [w32_of (show _ ≤ 6 * c by omega) (by omega), w32_of (by omega) (by omega)]
  refine S_X3_readStone (fun _ _ => ?_)
  rw [f6, w32_of (show _ ≤ 2 + 6 * c + 1 by omega) (by omega), w32_of (show _ ≤ 2 + 6 * c + 3 by omega) (by omega), w32_of (show _ ≤ 2 + 6 * c + 4 by omega) (by omega), w32_of (show _ ≤ 2 + 6 * c + 5 by omega) (by omega), hx.1.tp]
  refine Mw.ex (C_byteAt ht (by omega) (by omega)) (Mw.ex (C_pairAt ht (by omega) (by omega)) (Mw.ex (C_byteAt ht (by omega) (by omega)) (Mw.ex (C_byteAt ht (by omega) (by omega)) (Mw.ex (C_byteAt ht (by omega) (by omega)) (Mw.ex (C_homeCount hx.1) ?_)))))
  rw [show 2 + 6 * c + 1 + 1 = 2 + 6 * c + 2 by omega]
  have e1 : B (2 + 6 * c) = hmO B c := rfl
  have e2 : B (2 + 6 * c + 1) * 256 + B (2 + 6 * c + 2) = stO B c := rfl
  have e3 : w32 (B (2 + 6 * c + 3) - 1) = wlO B c := w32_of (by omega) (by omega)
  have e4 : B (2 + 6 * c + 4) = clO B c := rfl
  have e5 : B (2 + 6 * c + 5) = cuO B c := rfl
  rw [e1, e2, e3, e4, e5]
  refine ⟨fun q => no s (fun z => by have := z.1; omega) Fr.rf, fun q => ⟨fun q2 => ⟨⟨c0, by omega⟩, fun s13 e13 => ⟨⟨c0, by omega⟩, fun s14 e14 => ?_⟩⟩, fun q2 => no s (fun z => q2 z.2.1) Fr.rf⟩⟩
  have f14 : Fr J58 s s14 := by
    rw [e14, e13]
    exact (Fr.up (show J58 (58 + 1) from J58_i (by decide) (by decide))).tr (Fr.up (show J58 (58 + 2) from J58_i (by decide) (by decide)))
  have n1 := hx.1.n
  have st0 : 0 ≤ stO B c := by unfold stO; omega
  have hm0 : 0 ≤ hmO B c := b0.1
  have t0 := hT.1
  have w13 : WN T (ups W 1 c (hmO B c)) := n1.upA hm0 (by omega) (fun _ => by omega)
  have w14 : WN T (ups (ups W 1 c (hmO B c)) 2 c (stO B c)) := w13.upB st0 q2
  have x14 : CZ s14 58 tw T (ups (ups W 1 c (hmO B c)) 2 c (stO B c), 0, 0) 0 := by
    have a := hx.1.up (a := 1) (i := c) (v := hmO B c) (by decide) (by decide) w13
    rw [← e13] at a
    have a2 := a.up (a := 2) (i := c) (v := stO B c) (by decide) (by decide) w14
    rw [← e14] at a2
    refine ⟨a2, ?_, ?_, ?_⟩
    · rw [e14, ups_at _ (by decide), e13, ups_at _ (by decide)]; exact hx.2.1
    · rw [e14, ups_at _ (by decide), e13, ups_at _ (by decide)]; exact hx.2.2.1
    · rw [e14, ups_at _ (by decide), e13, ups_at _ (by decide)]; exact hx.2.2.2
  generalize hV : ups (ups W 1 c (hmO B c)) 2 c (stO B c) = V at x14
  have v0 : V 0 = W 0 := by rw [← hV, ups_at _ (by decide), ups_at _ (by decide)]
  have v3 : V 3 = W 3 := by rw [← hV, ups_at _ (by decide), ups_at _ (by decide)]
  have v4 : V 4 = W 4 := by rw [← hV, ups_at _ (by decide), ups_at _ (by decide)]
  have v5 : V 5 = W 5 := by rw [← hV, ups_at _ (by decide), ups_at _ (by decide)]
  have v1 : ∀ k, V 1 k = if k = c then hmO B c else W 1 k := fun k => by
    rw [← hV, ups_at _ (by decide)]
    by_cases z : k = c
    · rw [z, ups_eq, if_pos rfl]
    · rw [ups_k _ z, if_neg z]
  have v2 : ∀ k, V 2 k = if k = c then stO B c else W 2 k := fun k => by
    rw [← hV]
    by_cases z : k = c
    · rw [z, ups_eq, if_pos rfl]
    · rw [ups_k _ z, if_neg z, ups_at _ (by decide)]
  obtain ⟨p1, p2, p3, p4, p5, p6, p7⟩ := hP
  have vI : WI0 V := by unfold WI0; rw [v3, v4]; exact p6
  have vH : HC V := by unfold HC; rw [v4, v5]; exact p7
  have pc := p5 c (Int.le_refl _) (by omega)
  have mk : ∀ Z : Wd, Z 0 = V 0 → Z 1 = V 1 → Z 2 = V 2 → (∀ k, Z 3 k = if k = c then plO B c else W 3 k) → WI0 Z → HC Z → OnP T B Z (c + 1) := fun Z z0 z1 z2 z3 zI zH => by
    refine ⟨by rw [z0, v0]; exact p1, by rw [z0, v0]; exact p2, by rw [z0, v0]; exact p3, fun k k0 k1 => ?_, fun k k0 k1 => ?_, zI, zH⟩
    · rw [z1, z2, v1, v2, z3]
      by_cases y : k = c
      · rw [if_pos y, if_pos y, if_pos y, y]; exact ⟨rfl, rfl, rfl⟩
      · rw [if_neg y, if_neg y, if_neg y]; exact p4 k k0 (by omega)
    · rw [z1, z2, v1, v2, z3, if_neg (by omega), if_neg (by omega), if_neg (by omega)]
      exact p5 k (by omega) k1
  refine ⟨fun q3 => Mw.ex (C_wallCount x14.1) ⟨fun q4 => no s14 (fun z => by have := (z.2.2.2 q3).1; omega) f14, fun q4 => Mw.ex (C_isDone x14.1 c0 (by omega)) ?_⟩, fun q3 => ?_⟩
  · have w0 : 0 ≤ wlO B c := by unfold wlO at q3 ⊢; omega
    have tw11 := hT.2.2.2.2.2.2.2.1 (wlO B c) w0 (by omega)
    have ea : ageS T V c = yrO B - T 9 c := by unfold ageS; rw [v0, p1]
    rw [x14.1.t11, x14.1.t12, ea]
    refine ⟨fun q5 => ⟨⟨w0, by omega⟩, fun q6 => no s14 (fun z => by have := (z.2.2.2 q3).2.2.1; omega) f14, fun q6 => ⟨⟨w0, by omega⟩, fun q7 => ?_, fun q7 => no s14 (fun z => q7 (z.2.2.2 q3).2.2.2) f14⟩⟩, fun q5 => no s14 (fun z => by rw [if_pos (z.2.2.2 q3).2.1] at q5; omega) f14⟩
    have hd : T 0 15 ≤ yrO B - T 9 c := Classical.byContradiction (fun z => q5 (if_neg z))
    have ok : ckO T B c := ⟨by omega, q2, fun z => absurd z q3, fun _ => ⟨by omega, hd, by omega, q7⟩⟩
    have cl0 : 0 ≤ clO B c := b4.1
    have cu0 : 0 ≤ cuO B c := b5.1
    have epl : plO B c = 16 * wlO B c + 4 * clO B c + cuO B c := by unfold plO; rw [if_neg q3]
    refine Mw.ex (C_spot w0 (by omega) cl0 (by omega) cu0 (by omega)) ?_
    have w4' : s14 (58 + 4) = W 4 := x14.1.w4.trans v4
    rw [w4', ← epl]
    have pr : 0 ≤ plO B c ∧ plO B c < 64 := by omega
    have free : W 4 (plO B c) = -1 ↔ dsO B c := by
      constructor
      · intro z _ k k0 k1 y
        have e3 := (p4 k k0 k1).2.2
        rcases p6.1 k k0 (by omega) with x | ⟨x1, x2, x3⟩
        · omega
        · rw [e3, y, z] at x3; omega
      · intro z
        rcases p6.2 (plO B c) pr.1 pr.2 with x | ⟨x1, x2, x3⟩
        · exact x
        · exfalso
          by_cases y : W 4 (plO B c) < c
          · have e3 := (p4 _ x1 y).2.2
            exact z (by omega) _ x1 y (by omega)
          · have := (p5 _ (by omega) x2).2.2
            omega
    refine ⟨pr, fun q8 => ?_, fun q8 => ?_⟩
    · have hb := vH.b (q := plO B c / 4) (by omega) (by omega)
      refine (C_put x14 c0 (by omega) pr.1 pr.2 hb).imp (fun _ s22 h22 => ?_)
      have f22 : Fr J58 s s22 := f14.tr h22.2
      refine ⟨fun _ => ⟨rfl, putA V c (plO B c), h22.1, ?_⟩, fun z => absurd ⟨ok, free.mp q8⟩ z, f22⟩
      refine mk _ (putA_0 _ _ _) (putA_1 _ _ _) (putA_2 _ _ _) (fun k => by rw [putA_3, v3]) ?_ ?_
      · exact put_WI vI (by rw [v3]; exact pc.2.2) (by rw [v4]; exact q8) c0 (by omega) pr.1 pr.2
      · exact put_HC vH (by rw [v4]; exact q8) c0 pr.1 pr.2
    · exact ⟨fun z => absurd (free.mpr z.2) q8, fun _ => rfl, f14⟩
  · have epl : plO B c = -1 := by unfold plO; rw [if_pos q3]
    refine ⟨fun q4 => no s14 (fun z => q4 (z.2.2.1 q3).1) f14, fun q4 => ⟨fun q5 => no s14 (fun z => q5 (z.2.2.1 q3).2) f14, fun q5 => ?_⟩⟩
    have ok : ckO T B c := ⟨by omega, q2, fun _ => ⟨q4, q5⟩, fun z => absurd q3 z⟩
    refine ⟨fun _ => ⟨rfl, V, x14, mk V rfl rfl rfl (fun k => ?_) vI vH⟩, fun z => absurd ⟨ok, fun y => absurd epl y⟩ z, f14⟩
    rw [v3]
    by_cases y : k = c
    · rw [if_pos y, y, epl]; exact pc.2.2
    · rw [if_neg y]
end CON
