/-! image of the reference -/
def RI (s : Sg) (P : Im) : Prop := s 92 76 = P.1 ∧ 0 ≤ P.1 ∧ ∀ k, 0 ≤ k → k < P.1 → s 141 k = P.2 k ∧ 0 ≤ P.2 k ∧ P.2 k ≤ 255
def Fj (s s2 : Sg) : Prop := Fr (fun o => o = 92 ∨ o = 141) s s2 ∧ ∀ k, k ≠ 76 → s2 92 k = s 92 k
section RIMAGE
variable {g : GT} {e : Nat} {s : Sg} {P : Im} {T : Tn} {A : Wd} {b u : Int} {U : Int → Wd}
theorem Fj.tr {s2 s3 : Sg} (h : Fj s s2) (h2 : Fj s2 s3) : Fj s s3 := ⟨h.1.tr h2.1, fun k hk => (h2.2 k hk).trans (h.2 k hk)⟩
theorem RX.fj {v : Int} {s2 : Sg} (h : RX s v b T A) (hf : Fj s s2) : RX s2 v b T A := by
  have es : ∀ o, 94 ≤ o → o ≤ 130 → s2 o = s o := fun o o1 o2 => hf.1 o (by omega)
  refine ⟨⟨by rw [hf.2 13 (by decide)]; exact h.bk, h.b2, h.rt.fr hf.1 (fun o o1 o2 => by omega), h.1.2.2.2⟩, h.2.1, ?_⟩
  unfold RW
  rw [es 122 (by decide) (by decide), es 123 (by decide) (by decide), es 124 (by decide) (by decide), es 125 (by decide) (by decide), es 126 (by decide) (by decide), es 127 (by decide) (by decide), es 128 (by decide) (by decide), es 129 (by decide) (by decide)]
  exact h.2.2
theorem and255 {v : Int} (v0 : 0 ≤ v) (v1 : v < 2147483648) : bAnd v 255 = v % 256 := by
  have := bAnd_mod (a := v) (n := 8) v0 v1 (by decide)
  exact this
theorem R_writes {v : Int} (h : RI s P) (hn : P.1 < 70) (v0 : 0 ≤ v) (v1 : v ≤ 65535) : Mw g (e + 1) M_X13_writes [(21, 92), (0, v)] s (fun _ s' => RI s' (snI (v % 256) P) ∧ Fj s s') := by
  have p0 := h.2.1
  refine S_X13_writes (fun _ => ?_)
  rw [h.1, and255 v0 (by omega)]
  refine ⟨⟨p0, hn⟩, fun s1 e1 s2 e2 => ⟨⟨?_, by show 0 ≤ P.1 + 1; omega, fun k k0 k1 => ?_⟩, ?_, fun k hk => ?_⟩⟩
  · rw [e2, ups_eq, e1, ups_at _ (by decide), h.1, w32_of (by omega) (by omega)]; rfl
  · have k1 : k < P.1 + 1 := k1
    have es : s2 141 k = ups s 141 P.1 (v % 256) 141 k := by rw [e2, ups_at _ (by decide), e1]
    rw [es]
    show ups s 141 P.1 (v % 256) 141 k = snB P.2 P.1 (v % 256) k ∧ 0 ≤ snB P.2 P.1 (v % 256) k ∧ snB P.2 P.1 (v % 256) k ≤ 255
    unfold snB
    by_cases c : k = P.1
    · rw [c, ups_eq, if_pos rfl]
      exact ⟨rfl, by omega, by omega⟩
    · rw [ups_k _ c, if_neg c]
      exact h.2.2 k k0 (by omega)
  · rw [e2, e1]
    exact (Fr.up (Or.inr rfl)).tr (Fr.up (Or.inl rfl))
  · rw [e2, ups_k _ hk, e1, ups_at _ (by decide)]
theorem R_writes1 {v : Int} (h : RI s P) (hn : P.1 < 70) (v0 : 0 ≤ v) (v1 : v ≤ 255) : Mw g (e + 1) M_X13_writes [(21, 92), (0, v)] s (fun _ s' => RI s' (snI v P) ∧ Fj s s') := by
  have := R_writes (g := g) (e := e) (v := v) h hn v0 (by omega)
  rw [show v % 256 = v by omega] at this
  exact this
theorem R_writes2 {v : Int} (h : RI s P) (hn : P.1 < 69) (v0 : 0 ≤ v) (v1 : v ≤ 65535) : Mw g (e + 2) M_X13_writesTwo [(21, 92), (0, v)] s (fun _ s' => RI s' (sn2 v P) ∧ Fj s s') := by
  refine S_X13_writesTwo (fun hr => ?_)
  rw [bShr_n hr (by decide) (by decide), show v / 2 ^ (8 : Int).toNat = v / 256 from rfl]
  exact (R_writes1 h (by omega) (by omega) (by omega)).imp (fun _ s2 h2 => (R_writes h2.1 (by show P.1 + 1 < 70; omega) v0 v1).imp (fun _ s4 h4 => ⟨h4.1, h2.2.tr h4.2⟩))
theorem ri_129 {Q : Int → Sg → Prop} (h : RI s P) (hn : P.1 < 61) : ∀ (j k : Nat) (v : Int), (k : Int) + j = P.1 → 0 ≤ v → v ≤ 250 → (∀ s', RI s' (snI (suI P.2 j k v) P) → Fj s s' → Q (s' 92 76) s') → P_X13_image_129 g (e + 2) Q s v k := by
  intro j
  induction j with
  | zero =>
    intro k v hk v0 v9 hq
    refine S_X13_image_129 ?_
    rw [h.1]
    exact ⟨fun _ => (R_writes1 h (by omega) v0 (by omega)).imp (fun _ s2 h2 => hq s2 h2.1 h2.2), fun q => absurd (by omega) q⟩
  | succ j ih =>
    intro k v hk v0 v9 hq
    have b := h.2.2 k (by omega) (by omega)
    refine S_X13_image_129 ?_
    rw [h.1, b.1]
    refine ⟨fun q => by omega, fun _ => ⟨⟨by omega, by omega⟩, ?_⟩⟩
    rw [w32_of (show _ ≤ 5 * v by omega) (by omega), w32_of (show _ ≤ 5 * v + P.2 k by omega) (by omega), tm_of (by omega), w32_of (show _ ≤ (k : Int) + 1 by omega) (by omega)]
    exact ih (k + 1) _ (by omega) (by omega) (by omega) hq
theorem ri_90 {Q : Int → Sg → Prop} : ∀ (j f : Nat) (s0 : Sg) (P : Im), (f : Int) + j = T 0 13 → RX s0 0 b T A → RI s0 P → P.1 + j < 61 → Fj s s0 →
    (∀ s', RI s' (snI (suI (feI A j f P).2 (feI A j f P).1.toNat 0 167) (feI A j f P)) → Fj s s' → Q (s' 92 76) s') → P_X13_image_90 g (e + 2) Q s0 f := by
  intro j
  induction j with
  | zero =>
    intro f s0 P hf hx hi hn hfr hq
    have p0 := hi.2.1
    have b2 := hx.b2
    refine S_X13_image_90 ?_
    rw [hx.bk, hx.rt.1.2.2.2]
    exact ⟨⟨by omega, by omega⟩, fun _ => ri_129 hi (by omega) P.1.toNat 0 167 (by omega) (by decide) (by decide) (fun s' h1 h2 => hq s' h1 (hfr.tr h2)), fun q => absurd (by omega) q⟩
  | succ j ih =>
    intro f s0 P hf hx hi hn hfr hq
    have t13 := hx.ok.2.2.2.1
    have b2 := hx.b2
    have b1 := bAnd_1 (a := bShr (A 0 2) f)
    refine S_X13_image_90 ?_
    rw [hx.bk, hx.rt.1.2.2.2, hx.2.2.2.1, w32_of (show _ ≤ (f : Int) + 1 by omega) (by omega)]
    exact ⟨⟨by omega, by omega⟩, fun q => by omega, fun _ => (R_writes1 hi (by omega) b1.1 (by omega)).imp (fun _ s2 h2 => ih (f + 1) s2 _ (by omega) (hx.fj h2.2) h2.1 (by show P.1 + 1 + (j : Int) < 61; omega) (hfr.tr h2.2) hq)⟩
theorem ri_17 {Q : Int → Sg → Prop} (hW : WOK T A) : ∀ (j c : Nat) (s0 : Sg) (P : Im), (c : Int) + j = T 1 1 → RX s0 0 b T A → RI s0 P → P.1 + 6 * j + T 0 13 < 61 → Fj s s0 →
    (∀ s', RI s' (snI (suI (feI A (T 0 13).toNat 0 (chsI A j c P)).2 (feI A (T 0 13).toNat 0 (chsI A j c P)).1.toNat 0 167) (feI A (T 0 13).toNat 0 (chsI A j c P))) → Fj s s' → Q (s' 92 76) s') → P_X13_image_17 g (e + 2) Q s0 c := by
  intro j
  induction j with
  | zero =>
    intro c s0 P hc hx hi hn hfr hq
    have t13 := hx.ok.2.2.2.1
    have b2 := hx.b2
    refine S_X13_image_17 ?_
    rw [hx.bk, hx.nc]
    exact ⟨⟨by omega, by omega⟩, fun _ => ri_90 (T 0 13).toNat 0 s0 P (by omega) hx hi (by omega) hfr hq, fun q => absurd (by omega) q⟩
  | succ j ih =>
    intro c s0 P hc hx hi hn hfr hq
    have hT := hx.ok
    have t13 := hT.2.2.2.1
    have t8 := hT.2.1
    have b2 := hx.b2
    have wn := hW.1.2.2.2.1 c (by omega) (by omega)
    have pl := hW.2.1.1 c (by omega) (by omega)
    have e1 := (hx.c (c := c) (by omega) (by omega)).1
    rw [show 8 * (0 : Int) + c = c by omega] at e1
    refine S_X13_image_17 ?_
    rw [hx.bk, hx.nc, e1]
    refine ⟨⟨by omega, by omega⟩, fun q => by omega, fun _ => ⟨⟨by omega, by omega⟩, ?_⟩⟩
    refine (R_writes1 hi (by omega) (by omega) (by omega)).imp (fun _ s2 h2 => ?_)
    have x2 := hx.fj h2.2
    refine Mw.ex (R_strong x2 (by omega) (by omega)) ((R_writes2 h2.1 (by show P.1 + 1 < 69; omega) (by omega) (by omega)).imp (fun _ s6 h6 => ?_))
    have x6 := x2.fj h6.2
    refine Mw.ex (R_inWall x6 (by omega) (by omega)) ?_
    have ew : w32 (waP (A 3 c) + 1) = (if A 3 c = -1 then 0 else A 3 c / 16 + 1) := by
      unfold waP
      split <;> (rw [w32_of (by omega) (by omega)]; try rfl)
    rw [ew]
    refine (R_writes1 h6.1 (by show P.1 + 1 + 1 + 1 < 70; omega) (by split <;> omega) (by split <;> omega)).imp (fun _ s10 h10 => ?_)
    have x10 := x6.fj h10.2
    refine Mw.ex (R_column x10 (by omega) (by omega)) ((R_writes1 h10.1 (by show P.1 + 1 + 1 + 1 + 1 < 70; omega) (by unfold coP; split <;> omega) (by unfold coP; split <;> omega)).imp (fun _ s14 h14 => ?_))
    have x14 := x10.fj h14.2
    refine Mw.ex (R_course x14 (by omega) (by omega)) ((R_writes1 h14.1 (by show P.1 + 1 + 1 + 1 + 1 + 1 < 70; omega) (by unfold cuP; split <;> omega) (by unfold cuP; split <;> omega)).imp (fun _ s18 h18 => ?_))
    rw [w32_of (show _ ≤ (c : Int) + 1 by omega) (by omega)]
    exact ih (c + 1) s18 (chI A c P) (by omega) (x14.fj h18.2) h18.1 (by show P.1 + 1 + 1 + 1 + 1 + 1 + 1 + 6 * (j : Int) + T 0 13 < 61; omega) (((((hfr.tr h2.2).tr h6.2).tr h10.2).tr h14.2).tr h18.2) hq
theorem R_image (hx : RX s 0 b T A) (hW : WOK T A) : Mw g (e + 3) M_X13_image [(21, 92)] s (fun r s' => r = (imS T A).1 ∧ RI s' (imS T A) ∧ Fj s s') := by
  have hT := hx.ok
  have t13 := hT.2.2.2.1
  have t8 := hT.2.1
  have a1 := hW.1.1
  refine S_X13_image (fun s1 e1 => ?_)
  have f1 : Fj s s1 := by
    rw [e1]
    exact ⟨Fr.up (Or.inl rfl), fun k hk => ups_k _ hk⟩
  have x1 := hx.fj f1
  have i1 : RI s1 (0, fun _ => 0) := ⟨by rw [e1, ups_eq], Int.le_refl 0, fun k k0 k1 => absurd k1 (by show ¬ k < 0; omega)⟩
  rw [x1.2.2.1]
  refine (R_writes2 i1 (by show (0 : Int) < 69; decide) a1.1 (by omega)).imp (fun _ s3 h3 => ?_)
  exact ri_17 hW (T 1 1).toNat 0 s3 _ (by omega) (x1.fj h3.2) h3.1 (by show (0 : Int) + 1 + 1 + 6 * ((T 1 1).toNat : Int) + T 0 13 < 61; omega) (f1.tr h3.2) (fun s' h1 h2 => ⟨h1.1, h1, h2⟩)
end RIMAGE
