/-! objects in the making: their raw contents -/
/-- the same machine with other ready objects -/
def gR (g : GT) (R : Int → Prop) : GT := (g.1, g.2.1, g.2.2.1, g.2.2.2.1, g.2.2.2.2.1, g.2.2.2.2.2.1, g.2.2.2.2.2.2.1, R)
abbrev Zt : Type := Int → Nat → Value
def zOb (g : GT) (Z : Zt) (o : Int) (H : Heap) : Prop :=
  (tg o < 30 → t_OB (adr g o) ((gD g).1 (tg o - 10)) (nF (tg o - 10)) ((gD g).2 (tg o - 10)) H (Z o)) ∧
  (30 ≤ tg o → H[adr g o]? = some (arrV (gA g (aE (tg o))) (aN (tg o)) (Z o)))
/-- N objects are made -/
def Br (g : GT) (N : Nat) (Z : Zt) (H : Heap) : Prop := H.size = gz g + N ∧ ∀ o : Int, 1 ≤ o → o ≤ N → zOb g Z o H
/-- what the abstract state says of a place -/
def zV (g : GT) (σ : Sg) (o : Int) (k : Nat) : Value := if tg o < 30 then conc g (fkT (tg o - 10) k, fW σ o (tg o - 10) k) else eV g o (tg o) k (σ o k)
def zSe (Z : Zt) (o : Int) (f : Nat → Value) : Zt := fun o2 => if o2 = o then f else Z o2
section RAW
variable {g : GT} {N : Nat} {Z : Zt} {H H1 : Heap} {σ : Sg} {R : Int → Prop}
theorem zSe_eq {o : Int} {f : Nat → Value} : zSe Z o f o = f := if_pos rfl
theorem zSe_ne {o o2 : Int} {f : Nat → Value} (h : o2 ≠ o) : zSe Z o f o2 = Z o2 := if_neg h
theorem Br.rp (h : Br g N Z H) (hR : ∀ o, R o → (1 ≤ o ∧ o ≤ N) ∧ (tg o < 30 → ∀ k, k < nF (tg o - 10) → Z o k = zV g σ o k) ∧ (30 ≤ tg o → Z o = zV g σ o) ∧ sOK (gR g R) σ o) : Rp (gR g R) σ H := by
  intro o ro
  obtain ⟨⟨o1, o2⟩, h1, h2, h3⟩ := hR o ro
  obtain ⟨b1, b2⟩ := h.2 o o1 o2
  refine ⟨⟨fun t => ?_, fun t => ?_⟩, h3⟩
  · refine (b1 t).to (fun k hk => ?_)
    rw [h1 t k hk]
    unfold zV
    rw [if_pos t]
    rfl
  · have e := b2 t
    rw [h2 t] at e
    refine e.trans ?_
    congr 2
    funext k
    unfold zV
    rw [if_neg (by omega)]
    rfl
theorem Br.back {Z2 : Zt} (h : Br g N Z H) (hC : Cl (gR g R)) (hR : Rp (gR g R) σ H1) (hz : H1.size = H.size) (hq : ∀ q : Nat, q < H.size → ¬ gAd (gR g R) q → H1[q]? = H[q]?) (z1 : ∀ o, R o → Z2 o = zV g σ o) (z2 : ∀ o, ¬ R o → Z2 o = Z o) : Br g N Z2 H1 := by
  refine ⟨hz.trans h.1, fun o o1 o2 => ?_⟩
  by_cases r : R o
  · obtain ⟨⟨c1, c2⟩, _⟩ := hR o r
    refine ⟨fun t => ?_, fun t => ?_⟩
    · refine (c1 t).to (fun k _ => ?_)
      rw [z1 o r]
      unfold zV
      rw [if_pos t]
      rfl
    · refine (c2 t).trans ?_
      rw [z1 o r]
      congr 2
      funext k
      unfold zV
      rw [if_neg (by omega)]
      rfl
  · have na : ¬ gAd (gR g R) (adr g o) := fun ⟨o3, r3, e3⟩ => r (adr_inj (g := g) (hC o3 r3).1 o1 e3.symm ▸ r3)
    have lt : adr g o < H.size := by rw [h.1]; unfold adr; omega
    obtain ⟨b1, b2⟩ := h.2 o o1 o2
    refine ⟨fun t => ?_, fun t => ?_⟩
    · rw [z2 o r]; exact (b1 t).kept (hq _ lt na)
    · rw [z2 o r, hq _ lt na]; exact b2 t
/-- one more object -/
theorem Br.push (h : Br g N Z H) {f : Nat → Value} (hz : H1.size = gz g + N + 1) (hq : ∀ q : Nat, q < gz g + N → H1[q]? = H[q]?) (hn : zOb g (zSe Z ((N : Int) + 1) f) ((N : Int) + 1) H1) : Br g (N + 1) (zSe Z ((N : Int) + 1) f) H1 := by
  refine ⟨hz, fun o o1 o2 => ?_⟩
  by_cases e : o = (N : Int) + 1
  · rw [e]; exact hn
  · obtain ⟨b1, b2⟩ := h.2 o o1 (by omega)
    have lt : adr g o < gz g + N := by unfold adr; omega
    refine ⟨fun t => ?_, fun t => ?_⟩
    · rw [zSe_ne e]; exact (b1 t).kept (hq _ lt)
    · rw [zSe_ne e, hq _ lt]; exact b2 t
/-- an object's place is written -/
theorem Br.put (h : Br g N Z H) {o : Int} {f : Nat → Value} (o1 : 1 ≤ o) (hz : H1.size = H.size) (hq : ∀ q : Nat, q ≠ adr g o → H1[q]? = H[q]?) (hn : zOb g (zSe Z o f) o H1) : Br g N (zSe Z o f) H1 := by
  refine ⟨hz.trans h.1, fun o2 a1 a2 => ?_⟩
  by_cases e : o2 = o
  · rw [e]; exact hn
  · obtain ⟨b1, b2⟩ := h.2 o2 a1 a2
    have ne : adr g o2 ≠ adr g o := fun u => e (adr_inj a1 o1 u)
    refine ⟨fun t => ?_, fun t => ?_⟩
    · rw [zSe_ne e]; exact (b1 t).kept (hq _ ne)
    · rw [zSe_ne e, hq _ ne]; exact b2 t
end RAW
