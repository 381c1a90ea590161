/-! worlds that differ outside what counts (what is kept, places beyond their rows) go the same way -/
section CONG
variable {T : Tn} {A B : Wd}
theorem WEq.h1 (h : WEq A B) {c : Int} (c0 : 0 ≤ c) (c8 : c < 8) : B 1 c = A 1 c := (h.2.2.1 c c0 c8).1
theorem WEq.h2 (h : WEq A B) {c : Int} (c0 : 0 ≤ c) (c8 : c < 8) : B 2 c = A 2 c := (h.2.2.1 c c0 c8).2.1
theorem WEq.h3 (h : WEq A B) {c : Int} (c0 : 0 ≤ c) (c8 : c < 8) : B 3 c = A 3 c := (h.2.2.1 c c0 c8).2.2
theorem WEq.h4 (h : WEq A B) {c : Int} (c0 : 0 ≤ c) (c8 : c < 64) : B 4 c = A 4 c := h.2.2.2.1 c c0 c8
theorem WEq.h5 (h : WEq A B) {c : Int} (c0 : 0 ≤ c) (c8 : c < 16) : B 5 c = A 5 c := h.2.2.2.2 c c0 c8
theorem WEq.age (h : WEq A B) (c : Int) : ageS T B c = ageS T A c := ageS_eq h.1 c
theorem WEq.wh (h : WEq A B) {c : Int} (c0 : 0 ≤ c) (c8 : c < 8) : whS T B c = whS T A c := by
  unfold whS
  rw [h.h3 c0 c8, h.age]
theorem WEq.bea (hT : TOK T) (h : WEq A B) {c l : Int} (c0 : 0 ≤ c) (c8 : c < 8) : beaS T B c l = beaS T A c l := by
  have b8 := hT.2.1
  have bt := (hT.2.2.2.2.2.1 c c0 c8).2.2
  unfold beaS nearS
  rw [h.h2 c0 c8, h.h3 c0 c8]
  by_cases z : T 10 c = -1
  · simp [z]
  · rw [h.h3 (show 0 ≤ T 10 c by omega) (by omega)]
theorem WEq.loa (h : WEq A B) {p : Int} (p0 : 0 ≤ p) (p1 : p < 64) : loaS T B p = loaS T A p := by
  unfold loaS
  rw [h.h5 (by omega) (by omega)]
theorem WEq.weak (hT : TOK T) (hI : WI0 A) (h : WEq A B) {p : Int} (p0 : 0 ≤ p) (p1 : p < 64) : weakP T B p = weakP T A p := by
  unfold weakP
  rw [h.h4 p0 p1]
  rcases hI.2 p p0 p1 with z | ⟨z1, z2, z3⟩
  · simp [z]
  · rw [h.bea hT z1 z2, h.loa p0 p1]
theorem WEq.wea (hT : TOK T) (hI : WI0 A) (h : WEq A B) {w : Int} (w0 : 0 ≤ w) (w4 : w < 4) : weaS T B w = weaS T A w :=
  scanF_congr 16 (fun k k0 k1 => h.weak hT hI (by omega) (by omega))
theorem WEq.looF (hT : TOK T) (hI : WI0 A) (h : WEq A B) : ∀ (n : Nat) (w : Int), 0 ≤ w → w + n ≤ 4 → looF T B n w = looF T A n w := by
  intro n
  induction n with
  | zero => intro w _ _; rfl
  | succ n ih =>
    intro w w0 w4
    show (if weaS T B w = -1 then Jvm.Pilot.CStoneRaisedLaw_law_r9909_766940.looF T B n (w + 1) else weaS T B w) = (if weaS T A w = -1 then Jvm.Pilot.CStoneRaisedLaw_law_r9909_766940.looF T A n (w + 1) else weaS T A w)
    rw [h.wea hT hI w0 (by omega), ih (w + 1) (by omega) (by omega)]
theorem WEq.loo (hT : TOK T) (hI : WI0 A) (h : WEq A B) : looS T B = looS T A := by
  have t := hT.2.2.1
  exact WEq.looF hT hI h (T 1 2).toNat 0 (by decide) (by omega)
theorem WEq.put (h : WEq A B) {c p : Int} : WEq (putA A c p) (putA B c p) := by
  refine ⟨by rw [putA_0, putA_0]; exact h.1, by rw [putA_0, putA_0]; exact h.2.1, fun k k0 k1 => ?_, fun k k0 k1 => ?_, fun k k0 k1 => ?_⟩
  · rw [putA_1, putA_1, putA_2, putA_2, putA_3, putA_3, h.h1 k0 k1, h.h2 k0 k1, h.h3 k0 k1]
    exact ⟨rfl, rfl, rfl⟩
  · rw [putA_4, putA_4, h.h4 k0 k1]
  · rw [putA_5, putA_5, h.h5 k0 k1]
theorem WEq.lift (h : WEq A B) {c : Int} (c0 : 0 ≤ c) (c8 : c < 8) : WEq (liftA A c) (liftA B c) := by
  refine ⟨by rw [liftA_0, liftA_0]; exact h.1, by rw [liftA_0, liftA_0]; exact h.2.1, fun k k0 k1 => ?_, fun k k0 k1 => ?_, fun k k0 k1 => ?_⟩
  · rw [liftA_1, liftA_1, liftA_2, liftA_2, liftA_3, liftA_3, h.h1 k0 k1, h.h2 k0 k1, h.h3 k0 k1]
    exact ⟨rfl, rfl, rfl⟩
  · rw [liftA_4, liftA_4, h.h4 k0 k1, h.h3 c0 c8]
  · rw [liftA_5, liftA_5, h.h5 k0 k1, h.h3 c0 c8]
theorem WEq.keep (h : WEq A B) {c w b : Int} : WEq (keepA A c w b) (keepA B c w b) := by
  refine ⟨by rw [keepA_01 _ _ _ _ (by decide), keepA_01 _ _ _ _ (by decide)]; exact h.1, by rw [keepA_01 _ _ _ _ (by decide), keepA_01 _ _ _ _ (by decide)]; exact h.2.1, fun k k0 k1 => ?_, fun k k0 k1 => ?_, fun k k0 k1 => ?_⟩
  · rw [keepA_at A _ _ _ (show (1 : Int) ≠ 0 by decide) (by decide), keepA_at A _ _ _ (show (2 : Int) ≠ 0 by decide) (by decide), keepA_at A _ _ _ (show (3 : Int) ≠ 0 by decide) (by decide), keepA_at B _ _ _ (show (1 : Int) ≠ 0 by decide) (by decide), keepA_at B _ _ _ (show (2 : Int) ≠ 0 by decide) (by decide), keepA_at B _ _ _ (show (3 : Int) ≠ 0 by decide) (by decide)]
    exact h.2.2.1 k k0 k1
  · rw [keepA_at A _ _ _ (show (4 : Int) ≠ 0 by decide) (by decide), keepA_at B _ _ _ (show (4 : Int) ≠ 0 by decide) (by decide)]
    exact h.h4 k0 k1
  · rw [keepA_at A _ _ _ (show (5 : Int) ≠ 0 by decide) (by decide), keepA_at B _ _ _ (show (5 : Int) ≠ 0 by decide) (by decide)]
    exact h.h5 k0 k1
theorem WEq.up2 (h : WEq A B) {c v : Int} : WEq (ups A 2 c v) (ups B 2 c v) := by
  have ea : ∀ o, o ≠ 2 → ups A 2 c v o = A o := fun o ho => ups_at _ ho
  have eb : ∀ o, o ≠ 2 → ups B 2 c v o = B o := fun o ho => ups_at _ ho
  refine ⟨by rw [ea 0 (by decide), eb 0 (by decide)]; exact h.1, by rw [ea 0 (by decide), eb 0 (by decide)]; exact h.2.1, fun k k0 k1 => ?_, fun k k0 k1 => ?_, fun k k0 k1 => ?_⟩
  · rw [ea 1 (by decide), eb 1 (by decide), ea 3 (by decide), eb 3 (by decide)]
    refine ⟨h.h1 k0 k1, ?_, h.h3 k0 k1⟩
    by_cases z : k = c
    · rw [z, ups_eq, ups_eq]
    · rw [ups_k _ z, ups_k _ z]; exact h.h2 k0 k1
  · rw [ea 4 (by decide), eb 4 (by decide)]; exact h.h4 k0 k1
  · rw [ea 5 (by decide), eb 5 (by decide)]; exact h.h5 k0 k1
theorem WEq.dropL : ∀ (n : Nat) (X Y : WX) (k : Int), WEq X.1 Y.1 → X.2 = Y.2 → WI0 X.1 → 0 ≤ k → k + n ≤ 64 → WEq (dropL n X k).1 (dropL n Y k).1 ∧ (dropL n X k).2 = (dropL n Y k).2 := by
  intro n
  induction n with
  | zero => intro X Y k h h2 _ _ _; exact ⟨h, h2⟩
  | succ n ih =>
    intro X Y k h h2 hI k0 k1
    have e4 := h.h4 k0 (show k < 64 by omega)
    show WEq (Jvm.Pilot.CStoneRaisedLaw_law_r9909_766940.dropL n (drop1 X k) (k + 1)).1 (Jvm.Pilot.CStoneRaisedLaw_law_r9909_766940.dropL n (drop1 Y k) (k + 1)).1 ∧ (Jvm.Pilot.CStoneRaisedLaw_law_r9909_766940.dropL n (drop1 X k) (k + 1)).2 = (Jvm.Pilot.CStoneRaisedLaw_law_r9909_766940.dropL n (drop1 Y k) (k + 1)).2
    by_cases z : X.1 4 k = -1
    · have z2 : Y.1 4 k = -1 := by rw [e4]; exact z
      have d1 : drop1 X k = X := by unfold drop1; rw [if_pos z]
      have d2 : drop1 Y k = Y := by unfold drop1; rw [if_pos z2]
      rw [d1, d2]
      exact ih X Y (k + 1) h h2 hI (by omega) (by omega)
    · have z2 : ¬ Y.1 4 k = -1 := by rw [e4]; exact z
      obtain ⟨c0, c8, cp⟩ := (hI.2 k k0 (by omega)).resolve_left z
      have d1 : drop1 X k = (keepA (liftA X.1 (X.1 4 k)) (X.1 4 k) (k / 16) 0, bOr X.2.1 (bShl 1 (X.1 4 k)), w32 (X.2.2 + 1)) := by unfold drop1; rw [if_neg z]
      have d2 : drop1 Y k = (keepA (liftA Y.1 (X.1 4 k)) (X.1 4 k) (k / 16) 0, bOr X.2.1 (bShl 1 (X.1 4 k)), w32 (X.2.2 + 1)) := by unfold drop1; rw [if_neg z2, e4, h2]
      rw [d1, d2]
      exact ih _ _ (k + 1) (h.lift c0 c8).keep rfl (keepA_I (liftA_I hI c0 c8)) (by omega) (by omega)
theorem WEq.dropX {X Y : WX} {p : Int} (h : WEq X.1 Y.1) (h2 : X.2 = Y.2) (hW : WOK T X.1) (p0 : 0 ≤ p) (p1 : p < 64) : WEq (dropX X p).1 (dropX Y p).1 ∧ (dropX X p).2 = (dropX Y p).2 := by
  have hh := hW.2.2.1 (p / 4) (by omega) (by omega)
  have e5 := h.h5 (show 0 ≤ p / 4 by omega) (by omega)
  unfold Jvm.Pilot.CStoneRaisedLaw_law_r9909_766940.dropX
  rw [e5]
  exact WEq.dropL _ X Y p h h2 hW.2.1 p0 (by omega)
theorem WEq.fall (hT : TOK T) : ∀ (m : Nat) (X Y : WX), WEq X.1 Y.1 → X.2 = Y.2 → WOK T X.1 → WEq (fallX T m X).1 (fallX T m Y).1 ∧ (fallX T m X).2 = (fallX T m Y).2 := by
  intro m
  induction m with
  | zero => intro X Y h h2 _; exact ⟨h, h2⟩
  | succ m ih =>
    intro X Y h h2 hW
    have el := h.loo hT hW.2.1
    show WEq (if looS T X.1 = -1 then X else fallX T m (Jvm.Pilot.CStoneRaisedLaw_law_r9909_766940.dropX X (looS T X.1))).1 (if looS T Y.1 = -1 then Y else fallX T m (Jvm.Pilot.CStoneRaisedLaw_law_r9909_766940.dropX Y (looS T Y.1))).1 ∧ (if looS T X.1 = -1 then X else fallX T m (Jvm.Pilot.CStoneRaisedLaw_law_r9909_766940.dropX X (looS T X.1))).2 = (if looS T Y.1 = -1 then Y else fallX T m (Jvm.Pilot.CStoneRaisedLaw_law_r9909_766940.dropX Y (looS T Y.1))).2
    rw [el]
    by_cases z : looS T X.1 = -1
    · rw [if_pos z, if_pos z]; exact ⟨h, h2⟩
    · rw [if_neg z, if_neg z]
      obtain ⟨z1, z2, z3⟩ := loo_in hT z
      obtain ⟨d1, d2⟩ := h.dropX (T := T) h2 hW z1 z2
      exact ih _ _ d1 d2 (dropX_spec hW z1 z2 z3).1
theorem WEq.bes (h : WEq A B) : ∀ (n : Nat) (b k : Int), 0 ≤ b → b < 16 → 0 ≤ k → k + n ≤ 16 → besF B n b k = besF A n b k := by
  intro n
  induction n with
  | zero => intro b k _ _ _ _; rfl
  | succ n ih =>
    intro b k b0 b1 k0 k1
    unfold besF
    rw [h.h5 b0 b1, h.h5 k0 (show k < 16 by omega)]
    split
    · exact ih b (k + 1) b0 b1 (by omega) (by omega)
    · exact ih k (k + 1) k0 (by omega) (by omega) (by omega)
theorem WEq.fre (hT : TOK T) (h : WEq A B) {w : Int} (w0 : 0 ≤ w) (w4 : w < T 1 2) : freS T B w = freS T A w := by
  have b4 := hT.2.2.1
  have bw := hT.2.2.2.2.2.2.2.1 w w0 w4
  have e1 : besS T B w = besS T A w := h.bes _ _ _ (by omega) (by omega) (by omega) (by omega)
  have hb := besS_in (A := A) hT w0 w4
  unfold freS
  rw [e1, h.h5 (show 0 ≤ besS T A w by omega) (by omega)]
theorem WEq.left (h : WEq A B) {p : Int} (p0 : 0 ≤ p) (p1 : p < 64) : leftS B p = leftS A p := by
  unfold leftS
  by_cases z : p % 16 < 4
  · rw [if_pos z, if_pos z]
  · rw [if_neg z, if_neg z, h.h4 (by omega) (by omega)]
theorem WEq.rite (h : WEq A B) {p : Int} (p0 : 0 ≤ p) (p1 : p < 64) : riteS B p = riteS A p := by
  unfold riteS
  by_cases z : 12 ≤ p % 16
  · rw [if_pos z, if_pos z]
  · rw [if_neg z, if_neg z, h.h4 (by omega) (by omega)]
theorem WEq.und (h : WEq A B) {p : Int} (p0 : 0 ≤ p) (p1 : p < 64) : undS B p = undS A p := by
  unfold undS
  by_cases z : p % 4 ≤ 0
  · rw [if_pos z, if_pos z]
  · rw [if_neg z, if_neg z, h.h4 (by omega) (by omega)]
theorem WEq.stg (h : WEq A B) {x : Int} (hx : x = -1 ∨ (0 ≤ x ∧ x < 8)) : stgS B x = stgS A x := by
  unfold stgS
  by_cases z : x = -1
  · rw [if_pos z, if_pos z]
  · rw [if_neg z, if_neg z, h.h2 (by omega) (by omega)]
theorem WEq.pea (h : WEq A B) {c p : Int} (p0 : 0 ≤ p) (p1 : p < 64) : peaS T B c p = peaS T A c p := by
  unfold peaS nebS
  rw [h.left p0 p1, h.rite p0 p1, h.2.1]
theorem WEq.may (hT : TOK T) (hW : WOK T A) (h : WEq A B) {c p : Int} (c0 : 0 ≤ c) (c8 : c < 8) (p0 : 0 ≤ p) (p1 : p < 64) : mayS T B c p = mayS T A c p := by
  have b8 := hT.2.1
  have l := left_c hW p0 p1
  have u := und_c hW p0 p1
  unfold mayS
  rw [h.left p0 p1, h.und p0 p1, h.h1 c0 c8, h.h2 c0 c8, h.age, h.1, h.stg (x := leftS A p) (by omega), h.stg (x := undS A p) (by omega)]
theorem WEq.try (hT : TOK T) (hW : WOK T A) (h : WEq A B) {c w : Int} (c0 : 0 ≤ c) (c1 : c < T 1 1) (h3 : A 3 c = -1) (hd : T 0 15 ≤ ageS T A c) (w0 : 0 ≤ w) (w4 : w < T 1 2) : tryS T B c w = tryS T A c w := by
  have b8 := hT.2.1
  have b4 := hT.2.2.1
  unfold tryS
  rw [h.fre hT w0 w4]
  by_cases z : freS T A w = -1
  · simp [z]
  · obtain ⟨f1, f2, f3, f4, f5, f6⟩ := freS_ok hT hW.2.2 w0 w4 z
    have hP := put_ok (X := (A, 0, 0)) hT hW c0 c1 h3 hd w0 w4 z
    rw [h.pea f1.1 f1.2, h.may hT hW c0 (by omega) f1.1 f1.2, (h.put (c := c) (p := freS T A w)).wea hT hP.2.1 w0 (by omega)]
theorem WEq.bW (hT : TOK T) (hW : WOK T A) (h : WEq A B) {c : Int} (c0 : 0 ≤ c) (c1 : c < T 1 1) (h3 : A 3 c = -1) (hd : T 0 15 ≤ ageS T A c) : bldW T B c = bldW T A c := by
  have b4 := hT.2.2.1
  exact scanF_congr _ (fun k k0 k1 => h.try hT hW c0 c1 h3 hd k0 (by omega))
theorem WEq.bld (hT : TOK T) (hW : WOK T A) (h : WEq A B) {c : Int} (c0 : 0 ≤ c) (c1 : c < T 1 1) (h3 : A 3 c = -1) (hd : T 0 15 ≤ ageS T A c) : WEq (bldA T A c) (bldA T B c) := by
  unfold bldA
  rw [h.bW hT hW c0 c1 h3 hd]
  rcases bldW_in (A := A) c hT with z | ⟨z1, z2, z3⟩
  · rw [if_pos z, if_pos z]; exact h
  · rw [if_neg (by omega), if_neg (by omega), h.fre hT z1 z2]
    exact h.put.keep
theorem WEq.rai (hT : TOK T) : ∀ (n : Nat) (c : Int) (A B : Wd), 0 ≤ c → c + n ≤ 8 → WEq A B → WEq (raiF T n c A) (raiF T n c B) := by
  intro n
  induction n with
  | zero => intro c A B _ _ h; exact h
  | succ n ih =>
    intro c A B c0 c8 h
    refine ih (c + 1) _ _ (by omega) (by omega) ?_
    unfold rai1
    rw [h.wh c0 (by omega), h.h1 c0 (by omega), h.h2 c0 (by omega), h.age, h.1]
    split
    · exact h.up2
    · exact h
theorem WEq.frz (hT : TOK T) : ∀ (n : Nat) (c : Int) (A B : Wd), 0 ≤ c → c + n ≤ 8 → WEq A B → WEq (freF T n c A) (freF T n c B) := by
  intro n
  induction n with
  | zero => intro c A B _ _ h; exact h
  | succ n ih =>
    intro c A B c0 c8 h
    refine ih (c + 1) _ _ (by omega) (by omega) ?_
    unfold fre1
    rw [h.h3 c0 (by omega), h.h2 c0 (by omega)]
    split
    · exact h
    · exact h.up2
theorem WEq.yeR (h : WEq A B) : WEq (yeR A) (yeR B) := by
  unfold Jvm.Pilot.CStoneRaisedLaw_law_r9909_766940.yeR
  rw [h.1]
  have ea : ∀ o, o ≠ 0 → ups A 0 1 (A 0 1 + 1) o = A o := fun o ho => ups_at _ ho
  have eb : ∀ o, o ≠ 0 → ups B 0 1 (A 0 1 + 1) o = B o := fun o ho => ups_at _ ho
  refine ⟨by rw [ups_eq, ups_eq], by rw [ups_k _ (by decide), ups_k _ (by decide)]; exact h.2.1, fun k k0 k1 => ?_, fun k k0 k1 => ?_, fun k k0 k1 => ?_⟩
  · rw [ea 1 (by decide), eb 1 (by decide), ea 2 (by decide), eb 2 (by decide), ea 3 (by decide), eb 3 (by decide)]; exact h.2.2.1 k k0 k1
  · rw [ea 4 (by decide), eb 4 (by decide)]; exact h.h4 k0 k1
  · rw [ea 5 (by decide), eb 5 (by decide)]; exact h.h5 k0 k1
theorem WEq.blu (hT : TOK T) {w : Int} : ∀ (n : Nat) (c : Int) (X Y : Wd × Int), 0 ≤ c → c + n ≤ T 1 1 → WEq X.1 Y.1 → X.2 = Y.2 → WOK T X.1 → WEq (bluF T w n c X).1 (bluF T w n c Y).1 ∧ (bluF T w n c X).2 = (bluF T w n c Y).2 := by
  intro n
  have b8 := hT.2.1
  induction n with
  | zero => intro c X Y _ _ h h2 _; exact ⟨h, h2⟩
  | succ n ih =>
    intro c X Y c0 c1 h h2 hW
    have e1 : WEq (blu1 T w X c).1 (blu1 T w Y c).1 ∧ (blu1 T w X c).2 = (blu1 T w Y c).2 := by
      unfold blu1
      rw [h.wh c0 (by omega)]
      by_cases z : whS T X.1 c = 2 ∧ bAnd w (bShl 1 c) = 0
      · rw [if_pos z, if_pos z]
        have hw := wh2 z.1
        refine ⟨h.bld hT hW c0 (by omega) hw.1 hw.2, ?_⟩
        show (if bldW T X.1 c = -1 then X.2 else w32 (X.2 + 1)) = (if bldW T Y.1 c = -1 then Y.2 else w32 (Y.2 + 1))
        rw [h.bW hT hW c0 (by omega) hw.1 hw.2, h2]
      · rw [if_neg z, if_neg z]; exact ⟨h, h2⟩
    exact ih (c + 1) _ _ (by omega) (by omega) e1.1 e1.2 (blu1_ok hT hW c0 (by omega))
theorem WEq.pas (hT : TOK T) (hW : WOK T A) (hy : A 0 1 ≤ 999) (h : WEq A B) {fr : Int} : WEq (pasR T fr A).1 (pasR T fr B).1 ∧ (pasR T fr A).2 = (pasR T fr B).2 ∧ (falR T fr A).2.1 = (falR T fr B).2.1 := by
  have b8 := hT.2.1
  have hp : WEq (preR T fr A) (preR T fr B) := by
    have h1 := (WEq.rai hT (T 1 1).toNat 0 A B (by decide) (by omega) h).yeR
    unfold preR
    split
    · exact h1
    · exact WEq.frz hT _ _ _ _ (by decide) (by omega) h1
  have hpo := preR_ok (fr := fr) hT hW hy
  obtain ⟨f1, f2⟩ := WEq.fall hT 8 (preR T fr A, 0, 0) (preR T fr B, 0, 0) hp rfl hpo
  have e2 : (falR T fr A).2.1 = (falR T fr B).2.1 := congrArg Prod.fst f2
  have := WEq.blu hT (w := (falR T fr A).2.1) (T 1 1).toNat 0 ((falR T fr A).1, 0) ((falR T fr B).1, 0) (by decide) (by omega) f1 rfl (fallX_ok 8 _ hT hpo)
  unfold pasR
  rw [← e2]
  exact ⟨this.1, this.2, rfl⟩
theorem WEq.ahe (hT : TOK T) : ∀ (n : Nat) (A B : Wd), WOK T A → A 0 1 + n ≤ 1000 → WEq A B → WEq (aheA T n A) (aheA T n B) ∧ aheF T n A = aheF T n B := by
  intro n
  induction n with
  | zero => intro A B _ _ h; exact ⟨h, rfl⟩
  | succ n ih =>
    intro A B hW hy h
    obtain ⟨p1, p2, p3⟩ := h.pas hT hW (by omega) (fr := 0)
    have i := ih _ _ (pasR_ok (fr := 0) hT hW (by omega)) (by rw [(pasR_y hT hW (by omega)).1]; omega) p1
    refine ⟨i.1, ?_⟩
    show popF (falR T 0 A).2.1 + aheF T n (pasR T 0 A).1 = popF (falR T 0 B).2.1 + aheF T n (pasR T 0 B).1
    rw [p3, i.2]
theorem WEq.bits (hT : TOK T) (h : WEq A B) (w : Int) : bitsS T B w = bitsS T A w := by
  have b8 := hT.2.1
  exact setF_congr (fun k hk => by rw [h.wh (by omega) (by omega)])
theorem sumF_congr {n : Nat} {f q : Int → Int} (h : ∀ k : Nat, k < n → f k = q k) : sumF n f = sumF n q := by
  induction n with
  | zero => rfl
  | succ n ih =>
    unfold sumF
    rw [ih (fun k hk => h k (by omega)), h n (by omega)]
theorem WEq.tog (hT : TOK T) (h : WEq A B) : togS T B = togS T A := by
  have b8 := hT.2.1
  exact sumF_congr (fun k hk => h.h2 (by omega) (by omega))
theorem WEq.fb (hT : TOK T) {c y : Int} (c0 : 0 ≤ c) (c8 : c < 8) : ∀ (n : Nat) (k : Int) (A B : Wd), WOK T A → (y + k ≤ 999 → A 0 1 ≤ 999) → (∀ j : Nat, y + k + j ≤ 999 → A 0 1 + j ≤ 999) → WEq A B → fbF T c y n k B = fbF T c y n k A := by
  intro n
  induction n with
  | zero => intro k A B _ _ _ _; rfl
  | succ n ih =>
    intro k A B hW hy hj h
    show (if 60 < k ∨ 999 < y + k then (-1 : Int) else if B 3 c ≠ -1 then k else fbF T c y n (k + 1) (pasR T 0 B).1) = (if 60 < k ∨ 999 < y + k then (-1 : Int) else if A 3 c ≠ -1 then k else fbF T c y n (k + 1) (pasR T 0 A).1)
    by_cases z : 60 < k ∨ 999 < y + k
    · rw [if_pos z, if_pos z]
    · have hyA := hy (by omega)
      rw [if_neg z, if_neg z, h.h3 c0 c8, ih (k + 1) (pasR T 0 A).1 (pasR T 0 B).1 (pasR_ok hT hW hyA) (fun q => ?_) (fun j q => ?_) (h.pas hT hW hyA).1]
      · rw [(pasR_y hT hW hyA).1]
        have := hj 1 (by omega)
        omega
      · rw [(pasR_y hT hW hyA).1]
        have := hj (j + 1) (by omega)
        omega
end CONG
