/-! pulling: the reference's table of all that can be left -/
def dgS (c : Int) : Int → Int := fun k => if k = 0 then c % 5 else if k = 1 then c / 5 % 5 else if k = 2 then c / 25 % 5 else c / 125 % 5
/-- one less in column k -/
def deS (d : Int → Int) (k : Int) : Int → Int := fun j => if j = k then d j - 1 else d j
def sm4 (d : Int → Int) : Int := d 0 + d 1 + d 2 + d 3
/-- no more than there are -/
def vdS (A : Wd) (w : Int) (d : Int → Int) : Prop := ∀ k, 0 ≤ k → k < 4 → 0 ≤ d k ∧ d k ≤ A 5 (4 * w + k)
def wdS (T : Tn) (A : Wd) (w c : Int) : Bool := winF T w 16 (cutA A w (dgS c))
def cmS (T : Tn) (A : Wd) (w : Int) (n : Nat) (d : Int → Int) (k : Int) : Bool := decide (0 < d k) && (weaS T (cutA A w (deS d k)) w == -1 && !winF T w n (cutA A w (deS d k)))
section RPULL
variable {g : GT} {e : Nat} {s : Sg} {b : Int} {T : Tn} {A : Wd} {w : Int} {d : Int → Int}
theorem vd_de (h : vdS A w d) {k : Int} (k0 : 0 ≤ k) (k4 : k < 4) (hn : 0 < d k) : vdS A w (deS d k) := by
  intro j j0 j4
  have := h j j0 j4
  unfold deS
  by_cases z : j = k
  · rw [if_pos z]; rw [z] at this ⊢; omega
  · rw [if_neg z]; exact this
theorem cut_lift (hW : WOK T A) (w0 : 0 ≤ w) (w4 : w < 4) (h : vdS A w d) {k : Int} (k0 : 0 ≤ k) (k4 : k < 4) (hn : 0 < d k) : WEq (liftA (cutA A w d) (topS (cutA A w d) w k)) (cutA A w (deS d k)) := by
  have hk := h k k0 k4
  have hC : WOK T (cutA A w d) := cut_ok hW (fun j j0 j4 => (h j j0 j4).1)
  have e5 : cutA A w d 5 (4 * w + k) = d k := by
    rw [cutA_5, if_pos (by omega), show (4 * w + k) % 4 = k by omega]; omega
  obtain ⟨t1, t2, t3, t4⟩ := top_ok hC w0 w4 k0 k4 (by rw [e5]; exact hn)
  rw [e5] at t2 t3
  have n3 : cutA A w d 3 (topS (cutA A w d) w k) ≠ -1 := by omega
  have a3 : A 3 (topS (cutA A w d) w k) = 16 * w + 4 * k + d k - 1 := by
    rw [cutA_3] at t2
    split at t2
    · omega
    · exact t2
  have oi : ∀ p, outS A w (deS d k) p = true ↔ outS A w d p = true ∨ p = 16 * w + 4 * k + d k - 1 := by
    intro p
    unfold outS
    rw [decide_eq_true_eq, decide_eq_true_eq]
    unfold deS
    by_cases z : p / 4 % 4 = k
    · rw [if_pos z, z]; omega
    · rw [if_neg z]; omega
  have c0 : ∀ f : Int → Int, cutA A w f 0 = A 0 := fun f => cutA_o (by decide) (by decide) (by decide)
  have c1 : ∀ f : Int → Int, cutA A w f 1 = A 1 := fun f => cutA_o (by decide) (by decide) (by decide)
  have c2 : ∀ f : Int → Int, cutA A w f 2 = A 2 := fun f => cutA_o (by decide) (by decide) (by decide)
  refine ⟨?_, ?_, fun c q0 q8 => ⟨?_, ?_, ?_⟩, fun p p0 p1 => ?_, fun q q0 q1 => ?_⟩
  · rw [liftA_0, c0, c0]
  · rw [liftA_0, c0, c0]
  · rw [liftA_1, c1, c1]
  · rw [liftA_2, c2, c2]
  · rw [liftA_3, cutA_3, cutA_3]
    by_cases z : c = topS (cutA A w d) w k
    · rw [if_pos z, if_pos ((oi _).mpr (Or.inr (by rw [z]; exact a3)))]
    · rw [if_neg z]
      by_cases y : outS A w d (A 3 c) = true
      · rw [if_pos y, if_pos ((oi _).mpr (Or.inl y))]
      · rw [if_neg y, if_neg (fun x => ?_)]
        rcases (oi _).mp x with u | u
        · exact y u
        · apply z
          have p1 := (hW.2.1.1 c q0 q8).resolve_left (by omega)
          have p2 := (hW.2.1.1 _ t1.1 t1.2).resolve_left (by omega)
          rw [← p1.2.2, ← p2.2.2, u, a3]
  · rw [liftA_4, cutA_4, cutA_4, t2]
    by_cases z : p = 16 * w + 4 * k + d k - 1
    · rw [if_pos ((oi p).mpr (Or.inr z)), if_pos (show 16 * w + 4 * k + d k - 1 ≠ -1 ∧ p = 16 * w + 4 * k + d k - 1 from ⟨by omega, z⟩)]
    · rw [if_neg (show ¬ (16 * w + 4 * k + d k - 1 ≠ -1 ∧ p = 16 * w + 4 * k + d k - 1) from fun y => z y.2)]
      by_cases y : outS A w d p = true
      · rw [if_pos y, if_pos ((oi _).mpr (Or.inl y))]
      · rw [if_neg y, if_neg (show ¬ outS A w (deS d k) p = true from fun x => by rcases (oi _).mp x with u | u; exact y u; exact z u)]
  · have hq := hW.2.2.1 q q0 q1
    rw [liftA_5, cutA_5, cutA_5, t2]
    unfold deS
    by_cases z : q / 4 = w
    · have hv := h (q % 4) (by omega) (by omega)
      rw [show 4 * w + q % 4 = q by omega] at hv
      rw [if_pos z, if_pos z]
      by_cases y : q % 4 = k
      · rw [if_pos y, if_pos ⟨by omega, by omega⟩]
        omega
      · rw [if_neg y, if_neg (fun x => by omega)]
    · rw [if_neg z, if_neg z, if_neg (fun x => by omega)]
theorem win_cut (hT : TOK T) (hW : WOK T A) (w0 : 0 ≤ w) (w4 : w < 4) (h : vdS A w d) (n : Nat) : winF T w (n + 1) (cutA A w d) = anyF 4 0 (cmS T A w n d) := by
  unfold winF
  refine anyF_congr 4 (fun k k0 k1 => ?_)
  have hk := h k k0 (by omega)
  have hC : WOK T (cutA A w d) := cut_ok hW (fun j j0 j4 => (h j j0 j4).1)
  have e5 : cutA A w d 5 (4 * w + k) = d k := by
    rw [cutA_5, if_pos (by omega), show (4 * w + k) % 4 = k by omega]; omega
  unfold mvS cmS
  rw [e5]
  by_cases hn : 0 < d k
  · obtain ⟨t1, t2, t3, t4⟩ := top_ok hC w0 w4 k0 (by omega) (by rw [e5]; exact hn)
    have hl := cut_lift hW w0 w4 h k0 (by omega) hn
    rw [← hl.wea hT t4.2.1 w0 w4, ← hl.win hT w0 w4 n _ _ t4]
  · rw [decide_eq_false hn]; rfl
theorem win_fuel (hT : TOK T) (hW : WOK T A) (w0 : 0 ≤ w) (w4 : w < 4) : ∀ (n : Nat) (d : Int → Int), vdS A w d → sm4 d ≤ n → winF T w n (cutA A w d) = winF T w (n + 1) (cutA A w d) := by
  intro n
  induction n with
  | zero =>
    intro d h hs
    have h0 := h 0 (by decide) (by decide)
    have h1 := h 1 (by decide) (by decide)
    have h2 := h 2 (by decide) (by decide)
    have h3 := h 3 (by decide) (by decide)
    unfold sm4 at hs
    rw [win_cut hT hW w0 w4 h]
    have : anyF 4 0 (cmS T A w 0 d) = anyF 4 0 (fun _ => false) := anyF_congr 4 (fun k k0 k1 => by
      have : d k ≤ 0 := by
        rcases (show k = 0 ∨ k = 1 ∨ k = 2 ∨ k = 3 by omega) with z | z | z | z <;> rw [z] <;> omega
      unfold cmS
      rw [decide_eq_false (by omega)]
      rfl)
    rw [this]
    rfl
  | succ n ih =>
    intro d h hs
    rw [win_cut hT hW w0 w4 h, win_cut hT hW w0 w4 h]
    refine anyF_congr 4 (fun k k0 k1 => ?_)
    by_cases hn : 0 < d k
    · unfold cmS
      rw [ih (deS d k) (vd_de h k0 (by omega) hn) ?_]
      unfold sm4 at hs ⊢
      unfold deS
      rcases (show k = 0 ∨ k = 1 ∨ k = 2 ∨ k = 3 by omega) with z | z | z | z <;> subst z <;> simp <;> omega
    · unfold cmS
      rw [decide_eq_false hn]; rfl
theorem win_more (hT : TOK T) (hW : WOK T A) (w0 : 0 ≤ w) (w4 : w < 4) (h : vdS A w d) {n : Nat} (hs : sm4 d ≤ n) : ∀ m : Nat, winF T w (n + m) (cutA A w d) = winF T w n (cutA A w d) := by
  intro m
  induction m with
  | zero => rfl
  | succ m ih => rw [← ih]; exact (win_fuel hT hW w0 w4 (n + m) d h (by omega)).symm
theorem dg_bd (c : Int) (k : Int) : 0 ≤ dgS c k ∧ dgS c k < 5 := by
  unfold dgS
  split
  · omega
  · split
    · omega
    · split <;> omega
theorem wd_eq (hT : TOK T) (hW : WOK T A) (w0 : 0 ≤ w) (w4 : w < 4) {c : Int} (h : vdS A w (dgS c)) : wdS T A w c = anyF 4 0 (cmS T A w 16 (dgS c)) := by
  unfold wdS
  have s16 : sm4 (dgS c) ≤ ((16 : Nat) : Int) := by
    have h0 := dg_bd c 0
    have h1 := dg_bd c 1
    have h2 := dg_bd c 2
    have h3 := dg_bd c 3
    unfold sm4
    omega
  rw [win_fuel hT hW w0 w4 16 _ h s16, win_cut hT hW w0 w4 h]
/-- the state of the table -/
def TB (s : Sg) (T : Tn) (A : Wd) (w c : Int) : Prop := (∀ k, 0 ≤ k → k < c → vdS A w (dgS k) → s 139 k = if wdS T A w k then 1 else 0)
theorem TB.up140 {c i x : Int} (h : TB s T A w c) : TB (ups s 140 i x) T A w c := fun k k0 k1 hv => by rw [ups_o _ (by decide)]; exact h k k0 k1 hv
theorem TB.fm {s2 : Sg} {c : Int} (h : TB s T A w c) (hf : Fm 1 s s2) : TB s2 T A w c := fun k k0 k1 hv => by rw [hf.1 139 (by omega) (by omega)]; exact h k k0 k1 hv
theorem pl_105 {Q : Int → Sg → Prop} {all c wt k v5 c2 : Int} (hW : WOK T A) (w0 : 0 ≤ w) (w4 : w < 4) (hx : RX s 0 b T A) (ht : TB s T A w c) (c20 : 0 ≤ c2) (c21 : c2 < 625) (hv : v5 = 0 ∨ v5 = 1)
    (hq : ∀ (s' : Sg) (r : Int), RX s' 0 b T A → TB s' T A w c → Fl s s' → r = (if v5 = 1 ∨ weaS T (cutA A w (dgS c2)) w = -1 then 1 else 0) → P_X13_pulling_52 g (e + 6) Q s' w all c (w32 (wt * 5)) r (w32 (k + 1))) : P_X13_pulling_105 g (e + 6) Q s w all c wt v5 k c2 0 := by
  refine S_X13_pulling_105 ⟨fun q => absurd q (by decide), fun _ => ⟨by decide, fun s1 e1 => ?_⟩⟩
  rw [tm_of c20] at e1
  rw [td_of c20, w32_of (show _ ≤ c2 / 5 by omega) (by omega), show w32 (0 + 1) = 1 from rfl]
  refine S_X13_pulling_105 ⟨fun q => absurd q (by decide), fun _ => ⟨by decide, fun s2 e2 => ?_⟩⟩
  rw [tm_of (by omega)] at e2
  rw [td_of (by omega), w32_of (show _ ≤ c2 / 5 / 5 by omega) (by omega), show w32 (1 + 1) = 2 from rfl]
  refine S_X13_pulling_105 ⟨fun q => absurd q (by decide), fun _ => ⟨by decide, fun s3 e3 => ?_⟩⟩
  rw [tm_of (by omega)] at e3
  rw [td_of (by omega), w32_of (show _ ≤ c2 / 5 / 5 / 5 by omega) (by omega), show w32 (2 + 1) = 3 from rfl]
  refine S_X13_pulling_105 ⟨fun q => absurd q (by decide), fun _ => ⟨by decide, fun s4 e4 => ?_⟩⟩
  rw [tm_of (by omega)] at e4
  rw [show w32 (3 + 1) = 4 from rfl]
  have f4 : Fl s s4 := by
    rw [e4, e3, e2, e1]
    exact (((Fl.up (Or.inr rfl)).tr (Fl.up (Or.inr rfl))).tr (Fl.up (Or.inr rfl))).tr (Fl.up (Or.inr rfl))
  have t4 : TB s4 T A w c := by
    rw [e4, e3, e2, e1]
    exact ht.up140.up140.up140.up140
  have x4 := hx.fl0 f4
  have h140 : ∀ j, 0 ≤ j → j < 4 → s4 140 j = dgS c2 j := fun j j0 j4 => by
    unfold dgS
    rcases (show j = 0 ∨ j = 1 ∨ j = 2 ∨ j = 3 by omega) with z | z | z | z <;> subst z
    · rw [e4, ups_k _ (by decide), e3, ups_k _ (by decide), e2, ups_k _ (by decide), e1, ups_eq, if_pos rfl]
    · rw [e4, ups_k _ (by decide), e3, ups_k _ (by decide), e2, ups_eq, if_neg (by decide), if_pos rfl]
    · rw [e4, ups_k _ (by decide), e3, ups_eq, if_neg (by decide), if_neg (by decide), if_pos rfl]; omega
    · rw [e4, ups_eq, if_neg (by decide), if_neg (by decide), if_neg (by decide)]; omega
  refine S_X13_pulling_105 ⟨fun _ => ⟨fun z => hq s4 1 x4 t4 f4 (by rw [if_pos (Or.inl (by omega))]), fun z => ?_⟩, fun q => absurd (by decide) q⟩
  refine (R_areLeft x4 hW w0 w4 (fun j _ _ => (dg_bd c2 j).1) h140).imp (fun r s5 h5 => ?_)
  have x5 := x4.fo h5.2 (by decide) (by decide)
  have f5 := f4.tr (Fl.fm h5.2)
  have t5 := t4.fm h5.2
  refine ⟨fun y => hq s5 0 x5 t5 f5 ?_, fun y => hq s5 1 x5 t5 f5 ?_⟩
  · rw [if_neg]
    rintro (x | x)
    · omega
    · rw [h5.1, if_pos x] at y; omega
  · rw [if_pos]
    right
    apply Classical.byContradiction
    intro x
    rw [h5.1, if_neg x] at y
    exact y rfl
/-- one column of the table's row c -/
theorem pl_52 {Q : Int → Sg → Prop} {all c wt k v5 : Int} (hW : WOK T A) (w0 : 0 ≤ w) (w4 : w < 4) (hx : RX s 0 b T A) (ht : TB s T A w c) (c0 : 0 ≤ c) (c1 : c < 625)
    (hk : (k = 0 ∧ wt = 1) ∨ (k = 1 ∧ wt = 5) ∨ (k = 2 ∧ wt = 25) ∨ (k = 3 ∧ wt = 125)) (hv : v5 = 0 ∨ v5 = 1)
    (hq : ∀ (s' : Sg) (r : Int), RX s' 0 b T A → TB s' T A w c → Fl s s' → (r = 0 ∨ r = 1) → (vdS A w (dgS c) → r = (if v5 = 1 ∨ cmS T A w 16 (dgS c) k = true then 1 else 0)) → P_X13_pulling_52 g (e + 6) Q s' w all c (w32 (wt * 5)) r (w32 (k + 1))) : P_X13_pulling_52 g (e + 6) Q s w all c wt v5 k := by
  have ed : Int.tmod (w32 (Int.tdiv c wt)) 5 = dgS c k := by
    rw [td_of c0]
    rcases hk with z | z | z | z <;> obtain ⟨z1, z2⟩ := z <;> subst z1 z2
    · rw [w32_of (by omega) (by omega), tm_of (by omega)]; unfold dgS; rw [if_pos rfl]; omega
    · rw [w32_of (by omega) (by omega), tm_of (by omega)]; unfold dgS; rw [if_neg (by decide), if_pos rfl]
    · rw [w32_of (by omega) (by omega), tm_of (by omega)]; unfold dgS; rw [if_neg (by decide), if_neg (by decide), if_pos rfl]
    · rw [w32_of (by omega) (by omega), tm_of (by omega)]; unfold dgS; rw [if_neg (by decide), if_neg (by decide), if_neg (by decide)]
  have db := dg_bd c k
  have k4 : 0 ≤ k ∧ k < 4 := by omega
  refine S_X13_pulling_52 ⟨fun q => absurd q (by omega), fun _ => ⟨by omega, ?_⟩⟩
  rw [ed]
  have keep : (vdS A w (dgS c) → cmS T A w 16 (dgS c) k = false) → P_X13_pulling_52 g (e + 6) Q s w all c (w32 (wt * 5)) v5 (w32 (k + 1)) := fun z => hq s v5 hx ht Fl.rf hv (fun y => by
    rw [z y]
    rcases hv with x | x
    · rw [if_neg (fun u => by rcases u with u | u; omega; cases u)]; exact x
    · rw [if_pos (Or.inl x)]; exact x)
  refine ⟨fun z => keep (fun _ => ?_), fun z => Mw.ex (R_tall hx hW w0 w4 k4.1 k4.2) ⟨fun y => keep (fun u => ?_), fun y => ?_⟩⟩
  · unfold cmS; rw [decide_eq_false (by omega)]; rfl
  · have := (u k k4.1 k4.2).2; omega
  · have ge : wt ≤ c := by
      apply Classical.byContradiction
      intro x
      have : dgS c k = 0 := by
        unfold dgS
        rcases hk with z | z | z | z <;> obtain ⟨z1, z2⟩ := z <;> subst z1 z2
        · rw [if_pos rfl]; omega
        · rw [if_neg (by decide), if_pos rfl]; omega
        · rw [if_neg (by decide), if_neg (by decide), if_pos rfl]; omega
        · rw [if_neg (by decide), if_neg (by decide), if_neg (by decide)]; omega
      omega
    have de : ∀ j, 0 ≤ j → j < 4 → dgS (c - wt) j = deS (dgS c) k j := fun j j0 j4 => by
      have z' : 0 < dgS c k := by omega
      unfold deS
      rcases (show j = 0 ∨ j = 1 ∨ j = 2 ∨ j = 3 by omega) with x | x | x | x <;> subst x <;> rcases hk with u | u | u | u <;> obtain ⟨u1, u2⟩ := u <;> subst u1 u2 <;> unfold dgS at z' ⊢ <;> simp at z' ⊢ <;> omega
    have ev : vdS A w (dgS c) → vdS A w (dgS (c - wt)) := fun h j j0 j4 => by
      rw [de j j0 j4]
      exact vd_de h k4.1 k4.2 (by omega) j j0 j4
    have ec : cutA A w (dgS (c - wt)) = cutA A w (deS (dgS c) k) := by
      have eo : ∀ p, outS A w (dgS (c - wt)) p = outS A w (deS (dgS c) k) p := fun p => by unfold outS; rw [de (p / 4 % 4) (by omega) (by omega)]
      funext a i
      unfold cutA
      rw [eo, eo, de (i % 4) (by omega) (by omega)]
    rw [w32_of (show _ ≤ c - wt by omega) (by omega)]
    refine ⟨⟨by omega, by omega⟩, fun x => keep (fun u => ?_), fun x => ?_⟩
    · have tb := ht (c - wt) (by omega) (by omega) (ev u)
      have : wdS T A w (c - wt) = true := Classical.byContradiction (fun t => x (by rw [tb]; exact if_neg t))
      unfold wdS at this
      rw [ec] at this
      unfold cmS
      rw [this]
      simp
    · refine pl_105 hW w0 w4 hx ht (by omega) (by omega) hv (fun s' r x' t' f' hr => hq s' r x' t' f' ?_ (fun u => ?_))
      · rw [hr]; split
        · right; rfl
        · left; rfl
      · have tb := ht (c - wt) (by omega) (by omega) (ev u)
        have nw : wdS T A w (c - wt) = false := by
          apply Bool.eq_false_iff.mpr
          intro t
          rw [tb, if_pos t] at x
          omega
        unfold wdS at nw
        rw [ec] at nw
        rw [hr, ec]
        have : cmS T A w 16 (dgS c) k = (weaS T (cutA A w (deS (dgS c) k)) w == -1) := by
          unfold cmS
          rw [nw, decide_eq_true (show 0 < dgS c k by omega)]
          simp
        rw [this]
        simp only [beq_iff_eq]
theorem pl_38 {Q : Int → Sg → Prop} {all : Int} (hW : WOK T A) (w0 : 0 ≤ w) (w4 : w < 4) (a0 : 0 ≤ all) (a1 : all < 625) (hva : vdS A w (dgS all)) (hT : TOK T) (hq : ∀ s', Fl s s' → Q (if wdS T A w all then 1 else 0) s') :
    ∀ (n : Nat) (c : Int) (s0 : Sg), 0 ≤ c → c + n = all + 1 → RX s0 0 b T A → TB s0 T A w c → Fl s s0 → P_X13_pulling_38 g (e + 6) Q s0 w all c := by
  intro n
  induction n with
  | zero =>
    intro c s0 c0 hc hx ht hf
    have tb := ht all a0 (by omega) hva
    have hQ := hq s0 hf
    refine S_X13_pulling_38 ⟨fun _ => ⟨⟨a0, a1⟩, fun z => ?_, fun z => ?_⟩, fun q => absurd (by omega) q⟩
    · rw [← tb, z] at hQ; exact hQ
    · by_cases y : wdS T A w all = true
      · rw [if_pos y] at hQ; exact hQ
      · rw [tb, if_neg y] at z; exact absurd rfl z
  | succ n ih =>
    intro c s0 c0 hc hx ht hf
    refine S_X13_pulling_38 ⟨fun q => absurd q (by omega), fun _ => ?_⟩
    refine pl_52 hW w0 w4 hx ht c0 (by omega) (Or.inl ⟨rfl, rfl⟩) (Or.inl rfl) (fun s1 r1 x1 t1 f1 h1 g1 => ?_)
    rw [show w32 (1 * 5) = 5 from rfl, show w32 (0 + 1) = 1 from rfl]
    refine pl_52 hW w0 w4 x1 t1 c0 (by omega) (Or.inr (Or.inl ⟨rfl, rfl⟩)) h1 (fun s2 r2 x2 t2 f2 h2 g2 => ?_)
    rw [show w32 (5 * 5) = 25 from rfl, show w32 (1 + 1) = 2 from rfl]
    refine pl_52 hW w0 w4 x2 t2 c0 (by omega) (Or.inr (Or.inr (Or.inl ⟨rfl, rfl⟩))) h2 (fun s3 r3 x3 t3 f3 h3 g3 => ?_)
    rw [show w32 (25 * 5) = 125 from rfl, show w32 (2 + 1) = 3 from rfl]
    refine pl_52 hW w0 w4 x3 t3 c0 (by omega) (Or.inr (Or.inr (Or.inr ⟨rfl, rfl⟩))) h3 (fun s4 r4 x4 t4 f4 h4 g4 => ?_)
    rw [show w32 (125 * 5) = 625 from rfl, show w32 (3 + 1) = 4 from rfl]
    refine S_X13_pulling_52 ⟨fun _ => ⟨⟨by omega, by omega⟩, h4, fun s5 e5 => ?_⟩, fun q => absurd (by decide) q⟩
    rw [w32_of (by omega) (by omega)]
    have f5 : Fl s4 s5 := by rw [e5]; exact Fl.up (Or.inl rfl)
    refine ih (c + 1) s5 (by omega) (by omega) (x4.fl0 f5) (fun k k0 k1 hv => ?_) (((((hf.tr f1).tr f2).tr f3).tr f4).tr f5)
    by_cases z : k = c
    · subst z
      rw [e5, ups_eq, g4 hv, g3 hv, g2 hv, g1 hv, wd_eq hT hW w0 w4 hv]
      have p0 : ((0 : Int) = 1) = False := by simp
      simp only [anyF, show (0 : Int) + 1 = 1 from rfl, show (1 : Int) + 1 = 2 from rfl, show (2 : Int) + 1 = 3 from rfl]
      cases cmS T A w 16 (dgS k) 0 <;> cases cmS T A w 16 (dgS k) 1 <;> cases cmS T A w 16 (dgS k) 2 <;> cases cmS T A w 16 (dgS k) 3 <;> simp
    · rw [e5, ups_k _ z]; exact t4 k k0 (by omega) hv
theorem R_pulling (hx : RX s 0 b T A) (hW : WOK T A) : Mw g (e + 7) M_X13_pulling [(21, 92), (0, w)] s (fun r s' => r = pgS T A w ∧ Fl s s') := by
  have hT := hx.ok
  have t2 := hT.2.2.1
  refine S_X13_pulling (fun _ => Mw.ex (R_isWall hx.1) ⟨fun q => ?_, fun q => ⟨?_, Fl.rf⟩⟩)
  · have hw : 0 ≤ w ∧ w < T 1 2 := Classical.byContradiction (fun z => q (if_neg z))
    have w4 : w < 4 := by omega
    have h0 := hW.2.2.1 (4 * w + 0) (by omega) (by omega)
    have h1 := hW.2.2.1 (4 * w + 1) (by omega) (by omega)
    have h2 := hW.2.2.1 (4 * w + 2) (by omega) (by omega)
    have h3 := hW.2.2.1 (4 * w + 3) (by omega) (by omega)
    refine S_X13_pulling_14 ⟨fun z => absurd z (by decide), fun _ => Mw.ex (R_tall hx hW hw.1 w4 (by decide) (by decide)) ?_⟩
    rw [show w32 (5 * 0) = 0 from rfl, w32_of (show _ ≤ 0 + A 5 (4 * w + 3) by omega) (by omega), show w32 (3 + -1) = 2 from rfl]
    refine S_X13_pulling_14 ⟨fun z => absurd z (by decide), fun _ => Mw.ex (R_tall hx hW hw.1 w4 (by decide) (by decide)) ?_⟩
    rw [w32_of (show _ ≤ 5 * (0 + A 5 (4 * w + 3)) by omega) (by omega), w32_of (show _ ≤ 5 * (0 + A 5 (4 * w + 3)) + A 5 (4 * w + 2) by omega) (by omega), show w32 (2 + -1) = 1 from rfl]
    refine S_X13_pulling_14 ⟨fun z => absurd z (by decide), fun _ => Mw.ex (R_tall hx hW hw.1 w4 (by decide) (by decide)) ?_⟩
    rw [w32_of (show _ ≤ 5 * (5 * (0 + A 5 (4 * w + 3)) + A 5 (4 * w + 2)) by omega) (by omega), w32_of (show _ ≤ 5 * (5 * (0 + A 5 (4 * w + 3)) + A 5 (4 * w + 2)) + A 5 (4 * w + 1) by omega) (by omega), show w32 (1 + -1) = 0 from rfl]
    refine S_X13_pulling_14 ⟨fun z => absurd z (by decide), fun _ => Mw.ex (R_tall hx hW hw.1 w4 (by decide) (by decide)) ?_⟩
    rw [w32_of (show _ ≤ 5 * (5 * (5 * (0 + A 5 (4 * w + 3)) + A 5 (4 * w + 2)) + A 5 (4 * w + 1)) by omega) (by omega), w32_of (show _ ≤ 5 * (5 * (5 * (0 + A 5 (4 * w + 3)) + A 5 (4 * w + 2)) + A 5 (4 * w + 1)) + A 5 (4 * w + 0) by omega) (by omega), show w32 (0 + -1) = -1 from rfl]
    refine S_X13_pulling_14 ⟨fun _ => ?_, fun z => absurd (by decide) z⟩
    generalize hall : 5 * (5 * (5 * (0 + A 5 (4 * w + 3)) + A 5 (4 * w + 2)) + A 5 (4 * w + 1)) + A 5 (4 * w + 0) = all
    have dga : ∀ k, 0 ≤ k → k < 4 → dgS all k = A 5 (4 * w + k) := fun k k0 k4 => by
      unfold dgS
      rcases (show k = 0 ∨ k = 1 ∨ k = 2 ∨ k = 3 by omega) with z | z | z | z <;> subst z
      · rw [if_pos rfl]; omega
      · rw [if_neg (by decide), if_pos rfl]; omega
      · rw [if_neg (by decide), if_neg (by decide), if_pos rfl]; omega
      · rw [if_neg (by decide), if_neg (by decide), if_neg (by decide)]; omega
    have hva : vdS A w (dgS all) := fun k k0 k4 => by
      rw [dga k k0 k4]
      have := hW.2.2.1 (4 * w + k) (by omega) (by omega)
      omega
    refine pl_38 hW hw.1 w4 (by omega) (by omega) hva hT (fun s' f => ⟨?_, f⟩) (all + 1).toNat 0 s (by decide) (by omega) hx (fun k k0 k1 => by omega) Fl.rf
    have s8 : sm4 (dgS all) ≤ ((8 : Nat) : Int) := by
      have c := cnt_wall hT hW hw.1 w4
      have cl := cntF_le (T 1 1).toNat (fun c => waP (A 3 c) == w)
      have t8 := hT.2.1
      unfold sm4
      rw [dga 0 (by decide) (by decide), dga 1 (by decide) (by decide), dga 2 (by decide) (by decide), dga 3 (by decide) (by decide), Int.add_zero]
      omega
    have e8 := win_more hT hW hw.1 w4 hva s8 8
    have eq : WEq A (cutA A w (dgS all)) := by
      have no : ∀ p, 0 ≤ p → p < 64 → outS A w (dgS all) p = true → A 4 p = -1 := fun p p0 p1 z => by
        unfold outS at z
        rw [decide_eq_true_eq, dga (p / 4 % 4) (by omega) (by omega)] at z
        have := (hW.2.2.1 (p / 4) (by omega) (by omega)).2.2 (p % 4) (by omega) (by omega)
        rw [show 4 * (p / 4) + p % 4 = p by omega] at this
        rw [show 4 * w + p / 4 % 4 = p / 4 by omega] at z
        exact this.mpr z.2.2
      refine ⟨by rw [cutA_o (a := 0) (by decide) (by decide) (by decide)], by rw [cutA_o (a := 0) (by decide) (by decide) (by decide)], fun c c0 c8 => ⟨by rw [cutA_o (a := 1) (by decide) (by decide) (by decide)], by rw [cutA_o (a := 2) (by decide) (by decide) (by decide)], ?_⟩, fun p p0 p1 => ?_, fun q q0 q1 => ?_⟩
      · rw [cutA_3]
        split
        · rename_i z
          rcases hW.2.1.1 c c0 c8 with y | ⟨y1, y2, y3⟩
          · exact y.symm
          · have := no _ y1 y2 z; omega
        · rfl
      · rw [cutA_4]
        split
        · rename_i z; exact (no p p0 p1 z).symm
        · rfl
      · rw [cutA_5]
        split
        · rw [dga (q % 4) (by omega) (by omega), show 4 * w + q % 4 = q by omega]; omega
        · rfl
    have e9 := eq.win hT hw.1 w4 8 _ _ hW
    unfold pgS wdS
    rw [if_pos hw, ← e9, ← e8]
  · unfold pgS
    rw [if_neg (fun z => by rw [if_pos z] at q; omega)]
end RPULL
