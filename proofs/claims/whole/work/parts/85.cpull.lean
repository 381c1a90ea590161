/-! pulling: the masons' game, the class -/
def anyF : Nat → Int → (Int → Bool) → Bool
  | 0, _, _ => false
  | n + 1, a, p => p a || anyF n (a + 1) p
theorem anyF_congr : ∀ (n : Nat) {a : Int} {p q : Int → Bool}, (∀ k, a ≤ k → k < a + n → p k = q k) → anyF n a p = anyF n a q := by
  intro n
  induction n with
  | zero => intros; rfl
  | succ n ih =>
    intro a p q h
    unfold anyF
    rw [h a (by omega) (by omega), ih (fun k k0 k1 => h k (by omega) (by omega))]
/-- the topmost stone of a column -/
def topS (A : Wd) (w k : Int) : Int := A 4 (16 * w + 4 * k + A 5 (4 * w + k) - 1)
def mvS (T : Tn) (w : Int) (f : Wd → Bool) (A : Wd) (k : Int) : Bool := decide (0 < A 5 (4 * w + k)) && (weaS T (liftA A (topS A w k)) w == -1 && !f (liftA A (topS A w k)))
def winF (T : Tn) (w : Int) : Nat → Wd → Bool
  | 0, _ => false
  | n + 1, A => anyF 4 0 (mvS T w (winF T w n) A)
def pgS (T : Tn) (A : Wd) (w : Int) : Int := if 0 ≤ w ∧ w < T 1 2 then (if winF T w 8 A then 1 else 0) else -1
section CPULL
variable {g : GT} {e : Nat} {s : Sg} {T : Tn} {A : Wd} {tw w : Int}
theorem top_ok (hW : WOK T A) (w0 : 0 ≤ w) (w4 : w < 4) {k : Int} (k0 : 0 ≤ k) (k4 : k < 4) (hn : 0 < A 5 (4 * w + k)) :
    (0 ≤ topS A w k ∧ topS A w k < 8) ∧ A 3 (topS A w k) = 16 * w + 4 * k + A 5 (4 * w + k) - 1 ∧ A 5 (4 * w + k) ≤ 4 ∧ WOK T (liftA A (topS A w k)) := by
  have hh := hW.2.2.1 (4 * w + k) (by omega) (by omega)
  have hl : A 4 (16 * w + 4 * k + A 5 (4 * w + k) - 1) ≠ -1 := fun z => by
    have := hh.2.2 (A 5 (4 * w + k) - 1) (by omega) (by omega)
    rw [show 4 * (4 * w + k) + (A 5 (4 * w + k) - 1) = 16 * w + 4 * k + A 5 (4 * w + k) - 1 by omega] at this
    have := this.mp z
    omega
  obtain ⟨z1, z2, z3⟩ := (hW.2.1.2 (16 * w + 4 * k + A 5 (4 * w + k) - 1) (by omega) (by omega)).resolve_left hl
  have z3' : A 3 (topS A w k) = 16 * w + 4 * k + A 5 (4 * w + k) - 1 := z3
  have ne : A 3 (topS A w k) ≠ -1 := by omega
  have d4 : A 3 (topS A w k) / 4 = 4 * w + k := by omega
  refine ⟨⟨z1, z2⟩, z3, hh.2.1, ?_, liftA_I hW.2.1 z1 z2, ⟨fun q q0 q1 => ?_, fun c c0 c8 hc => ?_⟩⟩
  · unfold WN
    rw [liftA_0, liftA_1, liftA_2]
    exact hW.1
  · have hq := hW.2.2.1 q q0 q1
    rw [liftA_5]
    by_cases y : q = 4 * w + k
    · rw [if_pos ⟨ne, by omega⟩, y]
      refine ⟨by omega, by omega, fun j j0 j1 => ?_⟩
      rw [liftA_4]
      by_cases x : j = A 5 (4 * w + k) - 1
      · rw [if_pos ⟨ne, by omega⟩]
        constructor <;> intro _ <;> first | rfl | omega
      · rw [if_neg (fun u => by omega), hh.2.2 j j0 j1]
        omega
    · rw [if_neg (fun u => by omega)]
      refine ⟨hq.1, hq.2.1, fun j j0 j1 => ?_⟩
      rw [liftA_4, if_neg (fun u => by omega)]
      exact hq.2.2 j j0 j1
  · rw [liftA_3] at hc ⊢
    by_cases y : c = topS A w k
    · rw [if_pos y] at hc; exact absurd rfl hc
    · rw [if_neg y] at hc ⊢
      have := hW.2.2.2 c c0 c8 hc
      unfold ageS at this ⊢
      rw [liftA_0]
      exact this
theorem put_lift {c : Int} (h3 : A 3 c ≠ -1) (h4 : A 4 (A 3 c) = c) : putA (liftA A c) c (A 3 c) = A := by
  funext a k
  by_cases z3 : a = 3
  · rw [z3, putA_3, liftA_3]
    by_cases y : k = c
    · rw [if_pos y, y]
    · rw [if_neg y, if_neg y]
  · by_cases z4 : a = 4
    · rw [z4, putA_4, liftA_4]
      by_cases y : k = A 3 c
      · rw [if_pos y, y, h4]
      · rw [if_neg y, if_neg (fun x => y x.2)]
    · by_cases z5 : a = 5
      · rw [z5, putA_5, liftA_5]
        by_cases y : k = A 3 c / 4
        · rw [if_pos y, if_pos ⟨h3, y⟩]; omega
        · rw [if_neg y, if_neg (fun x => y x.2)]
      · unfold putA
        rw [ups_at _ z5, ups_at _ z4, ups_at _ z3]
        unfold liftA
        rw [if_neg h3, ups_at _ z5, ups_at _ z4, ups_at _ z3]
theorem WEq.rf : WEq A A := ⟨rfl, rfl, fun _ _ _ => ⟨rfl, rfl, rfl⟩, fun _ _ _ => rfl, fun _ _ _ => rfl⟩
theorem WEq.win (hT : TOK T) (w0 : 0 ≤ w) (w4 : w < 4) : ∀ (n : Nat) (A B : Wd), WOK T A → WEq A B → winF T w n B = winF T w n A := by
  intro n
  induction n with
  | zero => intros; rfl
  | succ n ih =>
    intro A B hW h
    unfold winF
    refine anyF_congr 4 (fun k k0 k1 => ?_)
    have e5 := h.h5 (c := 4 * w + k) (by omega) (by omega)
    by_cases z : 0 < A 5 (4 * w + k)
    · obtain ⟨t1, t2, t3, t4⟩ := top_ok hW w0 w4 k0 (by omega) z
      have et : topS B w k = topS A w k := by unfold topS; rw [e5, h.h4 (by omega) (by omega)]
      have hl := h.lift t1.1 t1.2
      unfold mvS
      rw [e5, et, hl.wea hT t4.2.1 w0 w4, ih _ _ t4 hl]
    · unfold mvS
      rw [e5, decide_eq_false z]
      rfl
/-- the contract of the recursion -/
theorem cw_all (w0 : 0 ≤ w) (w4 : w < 4) : ∀ (n : Nat) (s : Sg) (X : WX) (bb d : Int), d + n = 8 → 0 ≤ d → CZ s 58 tw T X bb → WOK T X.1 →
    Mw g (e + 4 + n) M_X5_winsFrom [(14, 55), (0, w), (0, d)] s (fun r s' => r = (if winF T w n X.1 then 1 else 0) ∧ CZ s' 58 tw T X bb ∧ Fr (Jw 58) s s') := by
  intro n
  induction n with
  | zero =>
    intro s X bb d hd d0 hx hW
    have lp : ∀ (m : Nat) (k : Int), 0 ≤ k → k + m = 4 → P_X5_winsFrom_11 g (e + 3) (fun r s' => r = (if winF T w 0 X.1 then 1 else 0) ∧ CZ s' 58 tw T X bb ∧ Fr (Jw 58) s s') s w d 0 (4 * w) (4 * w + k) := by
      intro m
      induction m with
      | zero =>
        intro k k0 hk
        refine S_X5_winsFrom_11 ⟨fun _ => ⟨Or.inl rfl, rfl, hx, Fr.rf⟩, fun q => absurd ?_ q⟩
        rw [w32_of (by omega) (by omega)]; omega
      | succ m ih =>
        intro k k0 hk
        have nx := ih (k + 1) (by omega) (by omega)
        rw [show 4 * w + (k + 1) = 4 * w + k + 1 by omega] at nx
        have h70 : ∀ x v6, P_X5_winsFrom_70 g (e + 3) (fun r s' => r = (if winF T w 0 X.1 then 1 else 0) ∧ CZ s' 58 tw T X bb ∧ Fr (Jw 58) s s') s w d 0 (4 * w) (4 * w + k) v6 x := fun x v6 => by
          refine S_X5_winsFrom_70 ⟨fun _ => ?_, fun _ => ⟨fun _ => ?_, fun q => absurd (by omega) q⟩⟩
          · rw [w32_of (show _ ≤ 4 * w + k + 1 by omega) (by omega)]; exact nx
          · rw [w32_of (show _ ≤ 4 * w + k + 1 by omega) (by omega)]; exact nx
        have hh := hW.2.2.1 (4 * w + k) (by omega) (by omega)
        refine S_X5_winsFrom_11 ⟨fun q => absurd q ?_, fun _ => ⟨fun q => absurd rfl q, fun _ => ⟨⟨by omega, by omega⟩, ⟨by omega, by omega⟩, fun _ => h70 _ _, fun q => ⟨?_, h70 _ _⟩⟩⟩⟩
        · rw [w32_of (by omega) (by omega)]; omega
        · have e63 : s 63 = X.1 5 := hx.1.w5
          rw [e63] at q ⊢
          rw [w32_of (show _ ≤ (4 * w + k) * 4 by omega) (by omega), w32_of (show _ ≤ (4 * w + k) * 4 + X.1 5 (4 * w + k) by omega) (by omega), w32_of (by omega) (by omega)]
          omega
    refine S_X5_winsFrom (fun _ _ => ?_)
    rw [w32_of (by omega) (by omega), Int.mul_comm w 4]
    have := lp 4 0 (by decide) (by decide)
    rw [Int.add_zero] at this
    exact this
  | succ n ihn =>
    intro s X bb d hd d0 hx hW
    have lp : ∀ (m : Nat) (k : Int) (s0 : Sg), 0 ≤ k → k + m = 4 → CZ s0 58 tw T X bb → Fr (Jw 58) s s0 → anyF 4 0 (mvS T w (winF T w n) X.1) = anyF m k (mvS T w (winF T w n) X.1) →
        P_X5_winsFrom_11 g (e + 4 + n) (fun r s' => r = (if winF T w (n + 1) X.1 then 1 else 0) ∧ CZ s' 58 tw T X bb ∧ Fr (Jw 58) s s') s0 w d 0 (4 * w) (4 * w + k) := by
      intro m
      induction m with
      | zero =>
        intro k s0 k0 hk hx0 hf ha
        refine S_X5_winsFrom_11 ⟨fun _ => ⟨Or.inl rfl, ?_, hx0, hf⟩, fun q => absurd ?_ q⟩
        · unfold winF; rw [ha]; rfl
        · rw [w32_of (by omega) (by omega)]; omega
      | succ m ih =>
        intro k s0 k0 hk hx0 hf ha
        have hh := hW.2.2.1 (4 * w + k) (by omega) (by omega)
        have e63 : s0 63 = X.1 5 := hx0.1.w5
        have e62 : s0 62 = X.1 4 := hx0.1.w4
        have nx : ∀ s1, CZ s1 58 tw T X bb → Fr (Jw 58) s s1 → mvS T w (winF T w n) X.1 k = false → P_X5_winsFrom_11 g (e + 4 + n) (fun r s' => r = (if winF T w (n + 1) X.1 then 1 else 0) ∧ CZ s' 58 tw T X bb ∧ Fr (Jw 58) s s') s1 w d 0 (4 * w) (w32 (4 * w + k + 1)) := fun s1 x1 f1 z => by
          have a2 : anyF 4 0 (mvS T w (winF T w n) X.1) = (mvS T w (winF T w n) X.1 k || anyF m (k + 1) (mvS T w (winF T w n) X.1)) := ha
          rw [z, Bool.false_or] at a2
          have := ih (k + 1) s1 (by omega) (by omega) x1 f1 a2
          rw [show 4 * w + (k + 1) = 4 * w + k + 1 by omega] at this
          rw [w32_of (by omega) (by omega)]
          exact this
        refine S_X5_winsFrom_11 ⟨fun q => absurd q ?_, fun _ => ⟨fun q => absurd rfl q, fun _ => ⟨⟨by omega, by omega⟩, ⟨by omega, by omega⟩, ?_⟩⟩⟩
        · rw [w32_of (by omega) (by omega)]; omega
        rw [e63, e62]
        refine ⟨fun q => S_X5_winsFrom_70 ⟨fun _ => nx s0 hx0 hf ?_, fun q2 => absurd rfl q2⟩, fun q => ?_⟩
        · unfold mvS; rw [decide_eq_false (by omega)]; rfl
        have hn : 0 < X.1 5 (4 * w + k) := by omega
        obtain ⟨t1, t2, t3, t4⟩ := top_ok hW w0 w4 k0 (by omega) hn
        have esp : w32 (w32 (w32 ((4 * w + k) * 4) + X.1 5 (4 * w + k)) - 1) = X.1 3 (topS X.1 w k) := by
          rw [t2, w32_of (show _ ≤ (4 * w + k) * 4 by omega) (by omega), w32_of (show _ ≤ (4 * w + k) * 4 + X.1 5 (4 * w + k) by omega) (by omega), w32_of (by omega) (by omega)]
          omega
        have e4 : X.1 4 (X.1 3 (topS X.1 w k)) = topS X.1 w k := by rw [t2]; rfl
        have n3 : X.1 3 (topS X.1 w k) ≠ -1 := by omega
        have d4 : X.1 3 (topS X.1 w k) / 4 = 4 * w + k := by omega
        rw [esp, e4]
        refine ⟨⟨by omega, by omega⟩, S_X5_winsFrom_70 ⟨fun y => by omega, fun _ => ⟨fun y => by omega, fun _ => ?_⟩⟩⟩
        have hL := C_lift (g := g) (e := e + 3 + n) (c := topS X.1 w k) hx0 hW.2.1 t1.1 t1.2 (fun _ => by rw [d4]; exact ⟨hh.1, hh.2.1⟩)
        rw [show e + 3 + n + 1 = e + 4 + n by omega] at hL
        refine hL.imp (fun _ s2 h2 => ?_)
        have hK := C_weakSpot (g := g) (e := e + 1 + n) h2.1.1 t4.2.1 t4.2.2 w0 w4
        rw [show e + 1 + n + 3 = e + 4 + n by omega] at hK
        refine Mw.ex hK ?_
        have back : ∀ (s6 : Sg) (x : Int), CZ s6 58 tw T (liftA X.1 (topS X.1 w k), X.2) bb → Fr (Jw 58) s s6 → (∀ s7, CZ s7 58 tw T X bb → Fr (Jw 58) s s7 → P_X5_winsFrom_11 g (e + 4 + n) (fun r s' => r = (if winF T w (n + 1) X.1 then 1 else 0) ∧ CZ s' 58 tw T X bb ∧ Fr (Jw 58) s s') s7 w d x (4 * w) (w32 (4 * w + k + 1))) →
            P_X5_winsFrom_121 g (e + 4 + n) (fun r s' => r = (if winF T w (n + 1) X.1 then 1 else 0) ∧ CZ s' 58 tw T X bb ∧ Fr (Jw 58) s s') s6 w d (4 * w) (4 * w + k) (X.1 3 (topS X.1 w k)) (topS X.1 w k) x := fun s6 x x6 f6 hq => by
          have hP := C_put (g := g) (e := e + 3 + n) (c := topS X.1 w k) (p := X.1 3 (topS X.1 w k)) x6 t1.1 t1.2 (by omega) (by omega) (by
            show 0 ≤ liftA X.1 (topS X.1 w k) 5 (X.1 3 (topS X.1 w k) / 4) ∧ liftA X.1 (topS X.1 w k) 5 (X.1 3 (topS X.1 w k) / 4) ≤ 4
            rw [liftA_5, if_pos ⟨n3, rfl⟩, d4]
            omega)
          rw [show e + 3 + n + 1 = e + 4 + n by omega] at hP
          refine S_X5_winsFrom_121 (hP.imp (fun _ s7 h7 => ?_))
          · have e7 : putA (liftA X.1 (topS X.1 w k), X.2).1 (topS X.1 w k) (X.1 3 (topS X.1 w k)) = X.1 := put_lift n3 e4
            have c7 := h7.1
            rw [e7] at c7
            exact hq s7 c7 (f6.tr h7.2)
        refine ⟨fun y => S_X5_winsFrom_120 (back s2 0 h2.1 (hf.tr h2.2) (fun s7 x7 f7 => nx s7 x7 f7 ?_)), fun y => ?_⟩
        · unfold mvS
          rw [show (weaS T (liftA X.1 (topS X.1 w k)) w == -1) = false from beq_eq_false_iff_ne.mpr y]
          simp
        have ihm := ihn s2 (liftA X.1 (topS X.1 w k), X.2) bb (d + 1) (by omega) (by omega) h2.1 t4
        rw [w32_of (show _ ≤ d + 1 by omega) (by omega)]
        refine ihm.imp (fun r s6 h6 => ?_)
        obtain ⟨r6, x6, f6⟩ := h6
        refine ⟨fun u => S_X5_winsFrom_120 (back s6 0 x6 ((hf.tr h2.2).tr f6) (fun s7 x7 f7 => nx s7 x7 f7 ?_)), fun u => back s6 1 x6 ((hf.tr h2.2).tr f6) (fun s7 x7 f7 => ?_)⟩
        · have : winF T w n (liftA X.1 (topS X.1 w k)) = true := Classical.byContradiction (fun v => u (by rw [r6]; exact if_neg v))
          unfold mvS
          rw [this]
          simp
        · have : winF T w n (liftA X.1 (topS X.1 w k)) = false := by
            apply Bool.eq_false_iff.mpr
            intro v
            have v2 : winF T w n (liftA X.1 (topS X.1 w k), X.2).1 = true := v
            rw [r6, if_pos v2] at u
            omega
          have hm : mvS T w (winF T w n) X.1 k = true := by
            unfold mvS
            rw [this, decide_eq_true hn, show (weaS T (liftA X.1 (topS X.1 w k)) w == -1) = true from beq_iff_eq.mpr y]
            rfl
          have hw : winF T w (n + 1) X.1 = true := by
            unfold winF
            rw [ha]
            unfold anyF
            rw [hm]
            rfl
          refine S_X5_winsFrom_11 ⟨fun _ => ⟨Or.inr rfl, by rw [if_pos hw], x7, f7⟩, fun _ => ⟨fun _ => ⟨Or.inr rfl, by rw [if_pos hw], x7, f7⟩, fun v => absurd v (by decide)⟩⟩
    rw [show e + 4 + (n + 1) = e + 4 + n + 1 by omega]
    refine S_X5_winsFrom (fun _ _ => ?_)
    rw [w32_of (by omega) (by omega), Int.mul_comm w 4]
    have := lp 4 0 s (by decide) (by decide) hx Fr.rf rfl
    rw [Int.add_zero] at this
    exact this
theorem C_pulling (h8 : s 1 8 = tw) (hx : CX s 48 tw T A) (hW : WOK T A) : Mw g (e + 14) M_X12_pulling [(20, 1), (0, w)] s (fun r s' => r = pgS T A w ∧ Fr (Jw 58) s s') := by
  have hT := hx.ok
  have t2 := hT.2.2.1
  refine S_X12_pulling (fun _ => Mw.ex (C_isWall h8 hx) ⟨fun q => ?_, fun q => ⟨?_, Fr.rf⟩⟩)
  · have hw : 0 ≤ w ∧ w < T 1 2 := Classical.byContradiction (fun z => q (if_neg z))
    refine S_X5_firstWins (fun _ _ => (C_copy hx (Or.inr rfl) (by decide)).imp (fun _ s2 h2 => ?_))
    obtain ⟨B, x2, hE, h9, f2⟩ := h2
    have hB : WOK T B := hW.weq hE (by omega) hT.2.1.2
    have := cw_all (g := g) (e := e) hw.1 (by omega) 8 s2 (B, 0, 0) 0 0 (by decide) (by decide) x2 hB
    refine this.imp (fun r s4 h4 => ?_)
    obtain ⟨r4, x4, f4⟩ := h4
    have f : Fr (Jw 58) s s4 := (f2.wk (fun o z => Or.inl z)).tr f4
    have ew : winF T w 8 (B, (0 : Int), (0 : Int)).1 = winF T w 8 A := hE.win hT hw.1 (by omega) 8 A B hW
    rw [ew] at r4
    unfold pgS
    rw [if_pos hw]
    refine ⟨?_, fun z => ⟨?_, f⟩, fun z => ⟨?_, f⟩⟩
    · rw [r4]; split
      · right; rfl
      · left; rfl
    · rw [← r4, z]
    · by_cases y : winF T w 8 A = true
      · rw [if_pos y]
      · rw [r4, if_neg y] at z; exact absurd rfl z
  · unfold pgS
    rw [if_neg (fun z => by rw [if_pos z] at q; omega)]
end CPULL
