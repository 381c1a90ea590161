/-! the class: buildIn, raise, freeze, passYear -/
def rai1 (T : Tn) (A : Wd) (c : Int) : Wd := if whS T A c = 1 then ups A 2 c (groS T (A 1 c) (ageS T A c) (A 2 c) (A 0 1)) else A
def raiF (T : Tn) : Nat → Int → Wd → Wd
  | 0, _, A => A
  | n + 1, c, A => raiF T n (c + 1) (rai1 T A c)
def fre1 (T : Tn) (A : Wd) (c : Int) : Wd := if A 3 c = -1 then A else ups A 2 c (max 0 (A 2 c - T 0 18))
def freF (T : Tn) : Nat → Int → Wd → Wd
  | 0, _, A => A
  | n + 1, c, A => freF T n (c + 1) (fre1 T A c)
def yeaA (A : Wd) : Wd := ups A 0 1 (min 999 (A 0 1 + 1))
def blu1 (T : Tn) (w : Int) (Y : Wd × Int) (c : Int) : Wd × Int := if whS T Y.1 c = 2 ∧ bAnd w (bShl 1 c) = 0 then (bldA T Y.1 c, if bldW T Y.1 c = -1 then Y.2 else w32 (Y.2 + 1)) else Y
def bluF (T : Tn) (w : Int) : Nat → Int → Wd × Int → Wd × Int
  | 0, _, Y => Y
  | n + 1, c, Y => bluF T w n (c + 1) (blu1 T w Y c)
def preA (T : Tn) (fr : Int) (A : Wd) : Wd := if fr = 0 then yeaA (raiF T (T 1 1).toNat 0 A) else freF T (T 1 1).toNat 0 (yeaA (raiF T (T 1 1).toNat 0 A))
/-- a year of the world A, f fell so far: the world, who wait, how many fell -/
def falY (T : Tn) (fr : Int) (A : Wd) (f : Int) : WX := fallX T 8 (preA T fr A, 0, f)
def pasA (T : Tn) (fr : Int) (A : Wd) (f b : Int) : Wd × Int := bluF T (falY T fr A f).2.1 (T 1 1).toNat 0 ((falY T fr A f).1, b)
section YEAR
variable {g : GT} {e : Nat} {s : Sg} {th tw : Int} {T : Tn} {A : Wd}
theorem ageS_eq {B : Wd} (h : B 0 1 = A 0 1) (c : Int) : ageS T B c = ageS T A c := by unfold ageS; rw [h]
theorem WOK.put {c p : Int} (hW : WOK T A) (c0 : 0 ≤ c) (c1 : c < T 1 1) (h8 : T 1 1 ≤ 8) (h3 : A 3 c = -1) (hd : T 0 15 ≤ ageS T A c) (p0 : 0 ≤ p) (p1 : p < 64) (h16 : p / 16 < T 1 2) (h44 : p / 4 % 4 < T 11 (p / 16)) (h4 : p % 4 < T 12 (p / 16)) (h5 : A 5 (p / 4) = p % 4) (hl : A 4 p = -1) : WOK T (putA A c p) := by
  obtain ⟨hN, hI, hH⟩ := hW
  refine ⟨?_, ⟨fun k k0 k8 => ?_, fun q q0 q8 => ?_⟩, fun k k0 k1 => ?_, fun k k0 k8 hk => ?_⟩
  · unfold WN
    rw [putA_0, putA_1, putA_2]
    exact hN
  · rw [putA_3]
    by_cases z : k = c
    · rw [if_pos z]
      right
      refine ⟨p0, p1, ?_⟩
      rw [putA_4, if_pos rfl, z]
    · rw [if_neg z]
      rcases hI.1 k k0 k8 with h | ⟨h, h', h''⟩
      · left; exact h
      · right
        refine ⟨h, h', ?_⟩
        rw [putA_4, if_neg]
        · exact h''
        · intro q; rw [q, hl] at h''; omega
  · rw [putA_4]
    by_cases z : q = p
    · rw [if_pos z]
      right
      refine ⟨c0, by omega, ?_⟩
      rw [putA_3, if_pos rfl, z]
    · rw [if_neg z]
      rcases hI.2 q q0 q8 with h | ⟨h, h', h''⟩
      · left; exact h
      · right
        refine ⟨h, h', ?_⟩
        rw [putA_3, if_neg]
        · exact h''
        · intro y; rw [y, h3] at h''; omega
  · have hk := hH.1 k k0 k1
    rw [putA_5]
    by_cases z : k = p / 4
    · rw [if_pos z]
      have h5' : A 5 k = p % 4 := by rw [z]; exact h5
      refine ⟨by omega, by omega, fun j j0 j1 => ?_⟩
      rw [putA_4]
      by_cases y : 4 * k + j = p
      · rw [if_pos y]; constructor <;> intro _ <;> omega
      · rw [if_neg y]
        have := hk.2.2 j j0 j1
        rw [this]
        omega
    · rw [if_neg z]
      refine ⟨hk.1, hk.2.1, fun j j0 j1 => ?_⟩
      rw [putA_4, if_neg (by omega)]
      exact hk.2.2 j j0 j1
  · rw [putA_3] at hk ⊢
    have ea : ageS T (putA A c p) k = ageS T A k := ageS_eq (by rw [putA_0]) k
    rw [ea]
    by_cases z : k = c
    · rw [if_pos z, z]
      exact ⟨c1, h16, h44, h4, hd⟩
    · rw [if_neg z] at hk ⊢
      exact hH.2 k k0 k8 hk
theorem WOK.same {B : Wd} (hW : WOK T A) (h01 : B 0 1 = A 0 1) (h02 : B 0 2 = A 0 2) (h09 : 0 ≤ B 0 9 ∧ B 0 9 ≤ 60) (h1 : B 1 = A 1) (h2 : ∀ c, 0 ≤ c → c < 8 → 0 ≤ B 2 c ∧ B 2 c ≤ 999) (h3 : B 3 = A 3) (h4 : B 4 = A 4) (h5 : B 5 = A 5) : WOK T B := by
  obtain ⟨⟨n1, n2, n3, n4, n5⟩, hI, hH⟩ := hW
  refine ⟨?_, hI.eq h3 h4, ?_⟩
  · unfold WN
    rw [h01, h02, h1]
    exact ⟨n1, n2, h09, fun c c0 c8 => ⟨(n4 c c0 c8).1, h2 c c0 c8⟩, n5⟩
  · unfold WH
    rw [h3, h4, h5]
    refine ⟨hH.1, fun c c0 c8 hc => ?_⟩
    rw [ageS_eq h01]
    exact hH.2 c c0 c8 hc
theorem WOK.keep {c w b : Int} (hW : WOK T A) : WOK T (keepA A c w b) := by
  have h9 := hW.1.2.2.1
  refine hW.same (keepA_01 _ _ _ _ (by decide)) (keepA_01 _ _ _ _ (by decide)) ?_ (keepA_at _ _ _ _ (by decide) (by decide)) (fun k k0 k8 => ?_) (keepA_at _ _ _ _ (by decide) (by decide)) (keepA_at _ _ _ _ (by decide) (by decide)) (keepA_at _ _ _ _ (by decide) (by decide))
  · rw [keepA_9]; split <;> omega
  · rw [keepA_at _ _ _ _ (by decide) (by decide)]; exact (hW.1.2.2.2.1 k k0 k8).2
theorem WOK.up2 {c v : Int} (hW : WOK T A) (h0 : 0 ≤ v) (h9 : v ≤ 999) : WOK T (ups A 2 c v) := by
  refine hW.same (ups_o _ (by decide)) (ups_o _ (by decide)) (by rw [ups_o _ (by decide)]; exact hW.1.2.2.1) (ups_at _ (by decide)) (fun k k0 k8 => ?_) (ups_at _ (by decide)) (ups_at _ (by decide)) (ups_at _ (by decide))
  by_cases z : k = c
  · rw [z, ups_eq]; exact ⟨h0, h9⟩
  · rw [ups_k _ z]; exact (hW.1.2.2.2.1 k k0 k8).2
theorem WOK.year (hW : WOK T A) (hT : TOK T) : WOK T (yeaA A) := by
  obtain ⟨⟨n1, n2, n3, n4, n5⟩, hI, hH⟩ := hW
  have e1 : yeaA A 0 1 = min 999 (A 0 1 + 1) := ups_eq _ _ _ _
  have ea : ∀ a, a ≠ 0 → yeaA A a = A a := fun a ha => ups_at _ ha
  refine ⟨?_, hI.eq (ea 3 (by decide)) (ea 4 (by decide)), ?_⟩
  · unfold WN
    rw [e1, ea 1 (by decide), ea 2 (by decide), show yeaA A 0 2 = A 0 2 from ups_k _ (by decide), show yeaA A 0 9 = A 0 9 from ups_k _ (by decide)]
    exact ⟨by omega, n2, n3, n4, n5⟩
  · unfold WH
    rw [ea 3 (by decide), ea 4 (by decide), ea 5 (by decide)]
    refine ⟨hH.1, fun c c0 c8 hc => ?_⟩
    have := hH.2 c c0 c8 hc
    have b1 := (hT.2.2.2.2.2.1 c c0 c8).2.1
    have b2 := hT.2.2.2.2.2.2.2.2.2.1
    unfold ageS at this ⊢
    rw [e1]
    exact ⟨this.1, this.2.1, this.2.2.1, this.2.2.2.1, by omega⟩
theorem lift_put {c p : Int} (h3 : A 3 c = -1) (hl : A 4 p = -1) (hp : p ≠ -1) : liftA (putA A c p) c = A := by
  funext a k
  have e3 : putA A c p 3 c = p := by rw [putA_3, if_pos rfl]
  by_cases a3 : a = 3
  · rw [a3, liftA_3, putA_3]
    split
    · rename_i z; rw [z, h3]
    · rfl
  · by_cases a4 : a = 4
    · rw [a4, liftA_4, e3, putA_4]
      by_cases z : k = p
      · rw [if_pos ⟨hp, z⟩, z, hl]
      · rw [if_neg (fun y => z y.2), if_neg z]
    · by_cases a5 : a = 5
      · rw [a5, liftA_5, e3, putA_5]
        by_cases z : k = p / 4
        · rw [if_pos ⟨hp, z⟩, if_pos z]; omega
        · rw [if_neg (fun y => z y.2), if_neg z]
      · unfold liftA
        rw [if_neg (by rw [e3]; exact hp), ups_at _ a5, ups_at _ a4, ups_at _ a3]
        unfold putA
        rw [ups_at _ a5, ups_at _ a4, ups_at _ a3]
theorem CZ.jk {X : WX} {b : Int} {s2 : Sg} (h : CZ s th tw T X b) (hf : Fr Jk s s2) : CZ s2 th tw T X b := by
  obtain ⟨q1, q2, q3, q4⟩ := h
  have e : s2 th = s th := hf th (by have := q1.1; unfold isW at this; unfold Jk; omega)
  exact ⟨q1.jk hf, by rw [e]; exact q2, by rw [e]; exact q3, by rw [e]; exact q4⟩
theorem Jw_k {o : Int} (h : Jk o) : Jw th o := Or.inr h
abbrev PB (s : Sg) (th tw : Int) (T : Tn) (X : WX) (b c v : Int) : Int → Sg → Prop := fun r s' => r = (if v = -1 then 0 else 1) ∧ CZ s' th tw T (if v = -1 then X.1 else keepA (putA X.1 c (freS T X.1 v)) c v 1, X.2) (if v = -1 then b else w32 (b + 1)) ∧ Fr (Jw th) s s'
theorem put_ok {X : WX} {c v : Int} (hT : TOK T) (hW : WOK T X.1) (c0 : 0 ≤ c) (c1 : c < T 1 1) (h3 : X.1 3 c = -1) (hd : T 0 15 ≤ ageS T X.1 c) (v0 : 0 ≤ v) (v1 : v < T 1 2) (hf : freS T X.1 v ≠ -1) : WOK T (putA X.1 c (freS T X.1 v)) := by
  obtain ⟨f1, f2, f3, f4, f5, f6⟩ := freS_ok hT hW.2.2 v0 v1 hf
  exact hW.put c0 c1 hT.2.1.2 h3 hd f1.1 f1.2 (by omega) (by rw [f2]; exact f3) (by rw [f2]; exact f4) f5 f6
theorem build_loop {X : WX} {b c : Int} (hF : TF T) (hW : WOK T X.1) (c0 : 0 ≤ c) (c1 : c < T 1 1) (h3 : X.1 3 c = -1) (hd : T 0 15 ≤ ageS T X.1 c) : ∀ (n : Nat) (v : Int) (s0 : Sg), v + n = T 1 2 → 0 ≤ v → CZ s0 th tw T X b → Fr (Jw th) s s0 → P_X11_buildIn_2 g (e + 4) (PB s th tw T X b c (scanF n v (tryS T X.1 c))) s0 th c v := by
  intro n
  induction n with
  | zero =>
    intro v s0 hv v0 hx hf
    refine S_X11_buildIn_2 ?_
    rw [hx.1.tp]
    refine Mw.ex (C_wallCount hx.1) ⟨fun _ => ⟨?_, ?_, hf⟩, fun q => absurd (by omega) q⟩
    · rfl
    · exact hx
  | succ n ih =>
    intro v s0 hv v0 hx hf
    have b4 := hx.1.ok.2.2.1
    have b8 := hx.1.ok.2.1
    refine S_X11_buildIn_2 ?_
    rw [hx.1.tp, w32_of (by omega) (by omega)]
    have next : ∀ s1 : Sg, tryS T X.1 c v = false → CZ s1 th tw T X b → Fr (Jw th) s s1 → P_X11_buildIn_2 g (e + 4) (PB s th tw T X b c (scanF (n + 1) v (tryS T X.1 c))) s1 th c (v + 1) := by
      intro s1 ht h1 h2
      unfold scanF
      rw [ht]
      exact ih (v + 1) s1 (by omega) (by omega) h1 h2
    refine Mw.ex (C_wallCount hx.1) ⟨fun q => by omega, fun _ => Mw.ex (C_freeSpot hx.1 hW.2.2 v0 (by omega)) ⟨fun h => ?_, fun h => ?_⟩⟩
    · refine next s0 ?_ hx hf
      unfold tryS; simp [h]
    obtain ⟨f1, f2, f3, f4, f5, f6⟩ := freS_ok hx.1.ok hW.2.2 v0 (by omega) h
    refine Mw.ex (C_isPeaceful hx.1 f1.1 f1.2) ⟨fun h1 => ?_, fun h1 => ?_⟩
    · refine next s0 ?_ hx hf
      have : peaS T X.1 c (freS T X.1 v) = false := by
        cases q : peaS T X.1 c (freS T X.1 v)
        · rfl
        · rw [q] at h1; simp at h1
      unfold tryS; simp [this]
    have h1' : peaS T X.1 c (freS T X.1 v) = true := by
      cases q : peaS T X.1 c (freS T X.1 v)
      · rw [q] at h1; simp at h1
      · rfl
    refine (C_mayLie hx.1 hW.2.1 hF c0 (by omega) f1.1 f1.2).imp (fun r7 s8 h8 => ?_)
    have x8 := hx.jk h8.2
    have fr8 : Fr (Jw th) s s8 := hf.tr (h8.2.wk (fun o ho => Jw_k ho))
    refine ⟨fun h2 => ?_, fun h2 => ?_⟩
    · refine next s8 ?_ x8 fr8
      have : mayS T X.1 c (freS T X.1 v) = false := by
        cases q : mayS T X.1 c (freS T X.1 v)
        · rfl
        · rw [h8.1, q] at h2; simp at h2
      unfold tryS; simp [this]
    have h2' : mayS T X.1 c (freS T X.1 v) = true := by
      cases q : mayS T X.1 c (freS T X.1 v)
      · rw [h8.1, q] at h2; simp at h2
      · rfl
    have hP := put_ok hx.1.ok hW c0 c1 h3 hd v0 (by omega) h
    refine (C_put x8 c0 (by omega) f1.1 f1.2 ⟨by rw [f5]; omega, by rw [f5]; omega⟩).imp (fun _ s10 h10 => ?_)
    refine Mw.ex (C_weakSpot h10.1.1 hP.2.1 hP.2.2 v0 (by omega)) ⟨fun h11 => ?_, fun h11 s15 e15 => ?_⟩
    · refine (C_lift h10.1 hP.2.1 c0 (by omega) (fun _ => ?_)).imp (fun _ s14 h14 => ?_)
      · have hb := (hP.2.2.1 (putA X.1 c (freS T X.1 v) 3 c / 4))
        rw [show (putA X.1 c (freS T X.1 v), X.2).1 = putA X.1 c (freS T X.1 v) from rfl]
        have e3 : putA X.1 c (freS T X.1 v) 3 c = freS T X.1 v := by rw [putA_3, if_pos rfl]
        rw [e3] at hb ⊢
        have := hb (by omega) (by omega)
        omega
      · have h14' := h14.1
        dsimp only at h14'
        rw [lift_put h3 f6 (by omega)] at h14'
        refine next s14 ?_ h14' ((fr8.tr h10.2).tr h14.2)
        unfold tryS; simp [h11]
    · have ht : tryS T X.1 c v = true := by unfold tryS; simp [h, h1', h2', h11]
      have c15 := h10.1.cnb (x := w32 (s10 th 12 + 1))
      rw [← e15] at c15
      rw [show s10 th 12 = b from h10.1.2.2.2] at c15
      refine (C_keep c15 ⟨c0, by omega⟩ ⟨v0, by omega⟩ ⟨by decide, by decide⟩).imp (fun _ s17 h17 => ?_)
      have hs : scanF (n + 1) v (tryS T X.1 c) = v := by unfold scanF; rw [ht, if_pos rfl]
      rw [hs]
      refine ⟨by rw [if_neg (by omega)], ?_, ?_⟩
      · rw [if_neg (by omega), if_neg (by omega)]
        exact h17.1
      · refine (fr8.tr h10.2).tr (Fr.tr ?_ h17.2)
        rw [e15]
        exact Fr.up Jw_0
theorem C_buildIn {X : WX} {b c : Int} (hx : CZ s th tw T X b) (hF : TF T) (hW : WOK T X.1) (c0 : 0 ≤ c) (c1 : c < T 1 1) (h3 : X.1 3 c = -1) (hd : T 0 15 ≤ ageS T X.1 c) : Mw g (e + 5) M_X11_buildIn [(19, th), (0, c)] s (PB s th tw T X b c (bldW T X.1 c)) := by
  have b4 := hx.1.ok.2.2.1
  exact S_X11_buildIn (fun _ _ => build_loop hF hW c0 c1 h3 hd (T 1 2).toNat 0 s (by omega) (by omega) hx Fr.rf)
theorem bldW_in (c : Int) (hT : TOK T) : bldW T A c = -1 ∨ (0 ≤ bldW T A c ∧ bldW T A c < T 1 2 ∧ tryS T A c (bldW T A c) = true) := by
  have b4 := hT.2.2.1
  unfold bldW
  rcases scanF_le (T 1 2).toNat 0 (tryS T A c) with h | ⟨h1, h2, h3, _⟩
  · left; exact h
  · right; exact ⟨h1, by omega, h3⟩
theorem bldA_ok {c : Int} (hT : TOK T) (hW : WOK T A) (c0 : 0 ≤ c) (c1 : c < T 1 1) (h3 : A 3 c = -1) (hd : T 0 15 ≤ ageS T A c) : WOK T (bldA T A c) := by
  unfold bldA
  rcases bldW_in (A := A) c hT with h | ⟨h1, h2, h4⟩
  · rw [if_pos h]; exact hW
  · rw [if_neg (by omega)]
    unfold tryS at h4
    simp only [Bool.and_eq_true, bne_iff_ne, ne_eq] at h4
    exact (put_ok (X := (A, 0, 0)) hT hW c0 c1 h3 hd h1 h2 h4.1).keep
theorem wh2 {c : Int} (h : whS T A c = 2) : A 3 c = -1 ∧ T 0 15 ≤ ageS T A c := by
  unfold whS at h
  split at h
  · rename_i z
    split at h
    · rename_i y; exact ⟨z, y⟩
    · split at h <;> omega
  · omega
end YEAR
