/-! image of the class: write -/
theorem bAnd_1 {a : Int} : 0 ≤ bAnd a 1 ∧ bAnd a 1 ≤ 1 := by
  have h : ((i3 a) &&& 1).toBitVec.toNat ≤ 1 := by
    rw [Int32.toBitVec_and, BitVec.toNat_and]
    exact Nat.and_le_right
  have := bv_toI (x := (i3 a) &&& 1) rfl (by omega)
  unfold bAnd
  rw [show i3 1 = (1 : Int32) from rfl, this]
  omega
section CIMAGE2
variable {g : GT} {e : Nat} {s : Sg} {T : Tn} {A : Wd} {tw u : Int} {U : Int → Wd}
theorem CX.fi {s2 : Sg} (h : CX s 48 tw T A) (hf : Fi s s2) : CX s2 48 tw T A := h.fr hf.1 (fun o o1 o2 => by omega) (fun o o1 o2 q => by omega)
theorem feI_n : ∀ (j f : Nat) (P : Im), (feI A j f P).1 = P.1 + j := by
  intro j
  induction j with
  | zero => intro f P; show P.1 = P.1 + 0; omega
  | succ j ih => intro f P; show (feI A j (f + 1) _).1 = _; rw [ih]; show P.1 + 1 + (j : Int) = _; omega
theorem ci_126 {Q : Int → Sg → Prop} : ∀ (j f : Nat) (s0 : Sg) (P : Im), (f : Int) + j = T 0 13 → CX s0 48 tw T A → CI s0 P → P.1 + j < 61 → Fi s s0 →
    (∀ s', CI s' (snI (suI (feI A j f P).2 (feI A j f P).1.toNat 0 167) (feI A j f P)) → Fi s s' → Q 0 s') → P_X3_write_126 g (e + 2) Q s0 48 f := by
  intro j
  induction j with
  | zero =>
    intro f s0 P hf hx hi hn hfr hq
    have p0 := hi.2.1
    refine S_X3_write_126 ?_
    rw [hx.2.2.1, hx.2.2.2.1.1]
    exact ⟨fun _ => ci_161 hi (by omega) P.1.toNat 0 167 (by omega) (by decide) (by decide) (fun s' h1 h2 => hq s' h1 (hfr.tr h2)), fun q => absurd (by omega) q⟩
  | succ j ih =>
    intro f s0 P hf hx hi hn hfr hq
    have t13 := hx.2.2.2.2.2.1.2.2.2.1
    have b1 := bAnd_1 (a := bShr (A 0 2) f)
    refine S_X3_write_126 ?_
    rw [hx.2.2.1, hx.2.2.2.1.1, hx.2.2.2.2.1.2.1, w32_of (show _ ≤ (f : Int) + 1 by omega) (by omega)]
    exact ⟨fun q => by omega, fun _ => (C_addI hi (by omega) b1.1 (by omega)).imp (fun _ s2 h2 => ih (f + 1) s2 _ (by omega) (hx.fi h2.2) h2.1 (by show P.1 + 1 + (j : Int) < 61; omega) (hfr.tr h2.2) hq)⟩
theorem ci_15 {Q : Int → Sg → Prop} (hW : WOK T A) : ∀ (j c : Nat) (s0 : Sg) (P : Im), (c : Int) + j = T 1 1 → CX s0 48 tw T A → CI s0 P → P.1 + 6 * j + T 0 13 < 61 → Fi s s0 →
    (∀ s', CI s' (snI (suI (feI A (T 0 13).toNat 0 (chsI A j c P)).2 (feI A (T 0 13).toNat 0 (chsI A j c P)).1.toNat 0 167) (feI A (T 0 13).toNat 0 (chsI A j c P))) → Fi s s' → Q 0 s') → P_X3_write_15 g (e + 2) Q s0 48 c := by
  intro j
  induction j with
  | zero =>
    intro c s0 P hc hx hi hn hfr hq
    have t13 := hx.2.2.2.2.2.1.2.2.2.1
    refine S_X3_write_15 ?_
    rw [hx.2.2.1]
    exact Mw.ex (C_childCount hx) ⟨fun _ => ci_126 (T 0 13).toNat 0 s0 P (by omega) hx hi (by omega) hfr hq, fun q => absurd (by omega) q⟩
  | succ j ih =>
    intro c s0 P hc hx hi hn hfr hq
    have hT := hx.2.2.2.2.2.1
    have t13 := hT.2.2.2.1
    have t8 := hT.2.1
    have wn := hW.1.2.2.2.1 c (by omega) (by omega)
    have pl := hW.2.1.1 c (by omega) (by omega)
    have e3 : ∀ s', CX s' 48 tw T A → s' (48 + 3) c = A 3 c := fun s' h => by rw [h.2.2.2.2.1.2.2.2 3 (by decide) (by decide)]
    refine S_X3_write_15 ?_
    rw [hx.2.2.1]
    refine Mw.ex (C_childCount hx) ⟨fun q => by omega, fun _ => ⟨⟨by omega, by omega⟩, ?_⟩⟩
    rw [e3 s0 hx]
    have w43 : ∀ x0 : Int, (x0 = 0 ↔ A 3 c = -1) → P_X3_write_43 g (e + 2) Q s0 48 c (A 3 c) x0 := by
      intro x0 hx0
      refine S_X3_write_43 ⟨⟨by omega, by omega⟩, ?_⟩
      rw [hx.2.2.2.2.1.2.2.2 1 (by decide) (by decide)]
      refine (C_addI hi (by omega) (by omega) (by omega)).imp (fun _ s2 h2 => ⟨⟨by omega, by omega⟩, ?_⟩)
      have x2 := hx.fi h2.2
      rw [x2.2.2.2.2.1.2.2.2 2 (by decide) (by decide)]
      refine (C_addP h2.1 (by show P.1 + 1 < 60; omega) (by omega) (by omega)).imp (fun _ s4 h4 => ?_)
      have x4 := x2.fi h4.2
      have f4 := (hfr.tr h2.2).tr h4.2
      have w81 : P_X3_write_81 g (e + 2) Q s4 48 c (A 3 c) x0 (if A 3 c = -1 then 0 else A 3 c / 16 + 1) := by
        refine S_X3_write_81 ((C_addI h4.1 (by show P.1 + 1 + 1 + 1 < 61; omega) (by split <;> omega) (by split <;> omega)).imp (fun _ s6 h6 => ?_))
        have f6 := f4.tr h6.2
        have x6 := x4.fi h6.2
        have w99 : P_X3_write_99 g (e + 2) Q s6 48 c (A 3 c) x0 (if A 3 c = -1 then 0 else A 3 c / 4 % 4) := by
          refine S_X3_write_99 ((C_addI h6.1 (by show P.1 + 1 + 1 + 1 + 1 < 61; omega) (by split <;> omega) (by split <;> omega)).imp (fun _ s8 h8 => ?_))
          have f8 := f6.tr h8.2
          have x8 := x6.fi h8.2
          have w115 : P_X3_write_115 g (e + 2) Q s8 48 c (if A 3 c = -1 then 0 else A 3 c % 4) := by
            refine S_X3_write_115 ((C_addI h8.1 (by show P.1 + 1 + 1 + 1 + 1 + 1 < 61; omega) (by split <;> omega) (by split <;> omega)).imp (fun _ s10 h10 => ?_))
            rw [w32_of (show _ ≤ (c : Int) + 1 by omega) (by omega)]
            exact ih (c + 1) s10 (chI A c P) (by omega) (x8.fi h10.2) h10.1 (by show P.1 + 1 + 1 + 1 + 1 + 1 + 1 + 6 * (j : Int) + T 0 13 < 61; omega) (f8.tr h10.2) hq
          refine ⟨fun z => ?_, fun z => ?_⟩
          · rw [if_pos (hx0.1 z)] at w115; exact w115
          · have z2 : ¬ A 3 c = -1 := fun y => z (hx0.2 y)
            rw [if_neg z2] at w115
            rw [tm_of (by omega)]; exact w115
        refine ⟨fun z => ?_, fun z => ?_⟩
        · rw [if_pos (hx0.1 z)] at w99; exact w99
        · have z2 : ¬ A 3 c = -1 := fun y => z (hx0.2 y)
          rw [if_neg z2] at w99
          rw [td_of (by omega), w32_of (show _ ≤ A 3 c / 4 by omega) (by omega), tm_of (by omega)]; exact w99
      refine ⟨fun z => ?_, fun z => ?_⟩
      · rw [if_pos (hx0.1 z)] at w81; exact w81
      · have z2 : ¬ A 3 c = -1 := fun y => z (hx0.2 y)
        rw [if_neg z2] at w81
        refine Mw.ex (C_wallAt (by omega)) ?_
        rw [w32_of (show _ ≤ A 3 c / 16 + 1 by omega) (by omega)]; exact w81
    refine ⟨fun z => w43 0 ⟨fun _ => z, fun _ => rfl⟩, fun z => w43 1 ⟨fun y => by omega, fun y => absurd y z⟩⟩
/-- what image changes in the class -/
theorem C_image (hs : CS s tw T A u U) : Mw g (e + 4) M_X12_image [(20, 1)] s (fun r s' => r = (imS T A).1 ∧ CI s' (imS T A) ∧ Fi s s') := by
  have hx := hs.2.1
  have hW := hs.2.2.1
  have hT := hx.ok
  have t13 := hT.2.2.2.1
  have t8 := hT.2.1
  have a1 := hW.1.1
  refine S_X12_image (S_X3_write (fun _ s1 e1 => ?_))
  have f1 : Fi s s1 := by
    rw [e1]
    exact ⟨Fr.up (Or.inl rfl), fun k hk => ups_k _ hk⟩
  have x1 := hx.fi f1
  have i1 : CI s1 (0, fun _ => 0) := ⟨by rw [e1, ups_eq], Int.le_refl 0, fun k k0 k1 => absurd k1 (by show ¬ k < 0; omega)⟩
  rw [x1.y]
  refine (C_addP i1 (by show (0 : Int) < 60; decide) a1.1 (by omega)).imp (fun _ s3 h3 => ?_)
  exact ci_15 hW (T 1 1).toNat 0 s3 _ (by omega) (x1.fi h3.2) h3.1 (by show (0 : Int) + 1 + 1 + 6 * ((T 1 1).toNat : Int) + T 0 13 < 61; omega) (f1.tr h3.2) (fun s' h1 h2 => ⟨h1.1, h1, h2⟩)
end CIMAGE2
