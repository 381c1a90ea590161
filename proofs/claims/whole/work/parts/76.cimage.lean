/-! image of the class -/
/-- so many bytes, and which -/
abbrev Im : Type := Int × (Int → Int)
def snI (x : Int) (P : Im) : Im := (P.1 + 1, snB P.2 P.1 x)
def sn2 (v : Int) (P : Im) : Im := snI (v % 256) (snI (v / 256) P)
/-- a child's stone as bytes -/
def chI (A : Wd) (c : Int) (P : Im) : Im := snI (if A 3 c = -1 then 0 else A 3 c % 4) (snI (if A 3 c = -1 then 0 else A 3 c / 4 % 4) (snI (if A 3 c = -1 then 0 else A 3 c / 16 + 1) (sn2 (A 2 c) (snI (A 1 c) P))))
def chsI (A : Wd) : Nat → Nat → Im → Im
  | 0, _, P => P
  | j + 1, c, P => chsI A j (c + 1) (chI A c P)
def feI (A : Wd) : Nat → Nat → Im → Im
  | 0, _, P => P
  | j + 1, f, P => feI A j (f + 1) (snI (bAnd (bShr (A 0 2) f) 1) P)
def suI (B : Int → Int) : Nat → Nat → Int → Int
  | 0, _, v => v
  | j + 1, k, v => suI B j (k + 1) ((5 * v + B k) % 251)
def bodI (T : Tn) (A : Wd) : Im := feI A (T 0 13).toNat 0 (chsI A (T 1 1).toNat 0 (sn2 (A 0 1) (0, fun _ => 0)))
def imS (T : Tn) (A : Wd) : Im := snI (suI (bodI T A).2 (bodI T A).1.toNat 0 167) (bodI T A)
/-- the image in the class -/
def CI (s : Sg) (P : Im) : Prop := s 89 1 = P.1 ∧ 0 ≤ P.1 ∧ ∀ k, 0 ≤ k → k < P.1 → s 90 k = P.2 k ∧ 0 ≤ P.2 k ∧ P.2 k ≤ 255
def Fi (s s2 : Sg) : Prop := Fr (fun o => o = 89 ∨ o = 90) s s2 ∧ ∀ k, k ≠ 1 → s2 89 k = s 89 k
section CIMAGE
variable {g : GT} {e : Nat} {s : Sg} {P : Im} {T : Tn} {A : Wd} {th tw : Int}
theorem Fi.rf : Fi s s := ⟨Fr.rf, fun _ _ => rfl⟩
theorem Fi.tr {s2 s3 : Sg} (h : Fi s s2) (h2 : Fi s2 s3) : Fi s s3 := ⟨h.1.tr h2.1, fun k hk => (h2.2 k hk).trans (h.2 k hk)⟩
theorem C_addI {v : Int} (h : CI s P) (hn : P.1 < 61) (v0 : 0 ≤ v) (v1 : v ≤ 255) : Mw g (e + 1) M_X3_add [(12, 89), (0, v)] s (fun _ s' => CI s' (snI v P) ∧ Fi s s') := by
  have p0 := h.2.1
  refine S_X3_add (fun _ => ?_)
  rw [h.1]
  refine ⟨fun q => by omega, fun _ => ⟨⟨p0, hn⟩, fun s1 e1 s2 e2 => ⟨⟨?_, by show 0 ≤ P.1 + 1; omega, fun k k0 k1 => ?_⟩, ?_, fun k hk => ?_⟩⟩⟩
  · rw [e2, ups_eq, e1, ups_at _ (by decide), h.1, w32_of (by omega) (by omega)]; rfl
  · have k1 : k < P.1 + 1 := k1
    have es : s2 90 k = ups s 90 P.1 v 90 k := by rw [e2, ups_at _ (by decide), e1]
    rw [es]
    show ups s 90 P.1 v 90 k = snB P.2 P.1 v k ∧ 0 ≤ snB P.2 P.1 v k ∧ snB P.2 P.1 v k ≤ 255
    unfold snB
    by_cases c : k = P.1
    · rw [c, ups_eq, if_pos rfl]
      exact ⟨rfl, v0, v1⟩
    · rw [ups_k _ c, if_neg c]
      exact h.2.2 k k0 (by omega)
  · rw [e2, e1]
    exact (Fr.up (Or.inr rfl)).tr (Fr.up (Or.inl rfl))
  · rw [e2, ups_k _ hk, e1, ups_at _ (by decide)]
theorem C_addP {v : Int} (h : CI s P) (hn : P.1 < 60) (v0 : 0 ≤ v) (v1 : v ≤ 65535) : Mw g (e + 2) M_X3_addPair [(12, 89), (0, v)] s (fun _ s' => CI s' (sn2 v P) ∧ Fi s s') := by
  refine S_X3_addPair (fun _ => ?_)
  rw [td_of v0, tm_of v0, w32_of (show _ ≤ v / 256 by omega) (by omega)]
  exact (C_addI h (by omega) (by omega) (by omega)).imp (fun _ s2 h2 => (C_addI h2.1 (by show P.1 + 1 < 61; omega) (by omega) (by omega)).imp (fun _ s4 h4 => ⟨h4.1, h2.2.tr h4.2⟩))
theorem suI_bd {B : Int → Int} : ∀ (j k : Nat) (v : Int), 0 ≤ v ∧ v ≤ 250 → 0 ≤ suI B j k v ∧ suI B j k v ≤ 250 := by
  intro j
  induction j with
  | zero => intro k v h; exact h
  | succ j ih => intro k v h; exact ih (k + 1) _ (by omega)
theorem ci_161 {Q : Int → Sg → Prop} (h : CI s P) (hn : P.1 < 61) : ∀ (j k : Nat) (v : Int), (k : Int) + j = P.1 → 0 ≤ v → v ≤ 250 → (∀ s', CI s' (snI (suI P.2 j k v) P) → Fi s s' → Q 0 s') → P_X3_write_161 g (e + 2) Q s v k := by
  intro j
  induction j with
  | zero =>
    intro k v hk v0 v9 hq
    refine S_X3_write_161 ?_
    rw [h.1]
    exact ⟨fun _ => (C_addI h hn v0 (by omega)).imp (fun _ s2 h2 => hq s2 h2.1 h2.2), fun q => absurd (by omega) q⟩
  | succ j ih =>
    intro k v hk v0 v9 hq
    have b := h.2.2 k (by omega) (by omega)
    refine S_X3_write_161 ?_
    rw [h.1, b.1]
    refine ⟨fun q => by omega, fun _ => ⟨⟨by omega, by omega⟩, S_X3_sumWith (fun _ _ => ?_)⟩⟩
    rw [w32_of (show _ ≤ 5 * v by omega) (by omega), w32_of (show _ ≤ 5 * v + P.2 k by omega) (by omega), tm_of (by omega), w32_of (show _ ≤ (k : Int) + 1 by omega) (by omega)]
    exact ih (k + 1) _ (by omega) (by omega) (by omega) hq
end CIMAGE
