/-! the abstract state and the heap -/
abbrev AV : Type := Nat × Int
/-- launch, class tables, array classes by element code, first address, enum addresses, WORDS, the switch map, ready objects -/
abbrev GT : Type := Launch × va_G × (Nat → ClassId) × Nat × (Nat → Nat) × Nat × Nat × (Int → Prop)
abbrev gl (g : GT) : Launch := g.1
abbrev gD (g : GT) : va_G := g.2.1
abbrev gA (g : GT) : Nat → ClassId := g.2.2.1
abbrev gz (g : GT) : Nat := g.2.2.2.1
abbrev ge (g : GT) : Nat → Nat := g.2.2.2.2.1
abbrev gw (g : GT) : Nat := g.2.2.2.2.2.1
abbrev gs (g : GT) : Nat := g.2.2.2.2.2.2.1
abbrev gr (g : GT) : Int → Prop := g.2.2.2.2.2.2.2
def adr (g : GT) (o : Int) : Nat := gz g + (o.toNat - 1)
def gAd (g : GT) : Nat → Prop := fun q => ∃ o : Int, gr g o ∧ q = adr g o
def conc (g : GT) (x : AV) : Value := match x.1 with
  | 0 => .int (i3 x.2)
  | 2 => .long (i6 x.2)
  | 3 => .ref (ge g x.2.toNat)
  | 4 => .ref (gw g)
  | 5 => .ref (gs g)
  | _ => .ref (adr g x.2)
def vld (g : GT) (x : AV) : Prop := match x.1 with
  | 0 => inR x.2
  | 2 => inL x.2
  | 3 => 0 ≤ x.2 ∧ x.2 < 32
  | 4 => True
  | 5 => True
  | 9 => True
  | t => gr g x.2 ∧ tg x.2 = t
def fW (σ : Sg) (o : Int) (ci k : Nat) : Int := match fkO ci k with
  | some off => o + off
  | none => σ o k
def eV (g : GT) (o : Int) (t i : Nat) (v : Int) : Value := match aE t with
  | 2 => .long (i6 v)
  | 7 => .ref (adr g (o + 1 + i))
  | _ => .int (i3 v)
def cel (g : GT) (σ : Sg) (o : Int) (H : Heap) : Prop :=
  (tg o < 30 → t_OB (adr g o) ((gD g).1 (tg o - 10)) (nF (tg o - 10)) ((gD g).2 (tg o - 10)) H (fun k => conc g (fkT (tg o - 10) k, fW σ o (tg o - 10) k))) ∧
  (30 ≤ tg o → H[adr g o]? = some (arrV (gA g (aE (tg o))) (aN (tg o)) (fun i => eV g o (tg o) i (σ o i))))
def sOK (g : GT) (σ : Sg) (o : Int) : Prop :=
  (tg o < 30 → ∀ k : Nat, k < nF (tg o - 10) → fkO (tg o - 10) k = none → vld g (fkT (tg o - 10) k, σ o k)) ∧
  (30 ≤ tg o → ∀ i : Nat, i < aN (tg o) → inL (σ o i) ∧ (aE (tg o) ≠ 2 → inR (σ o i)))
def Rp (g : GT) (σ : Sg) (H : Heap) : Prop := ∀ o, gr g o → cel g σ o H ∧ sOK g σ o
def Cl (g : GT) : Prop := ∀ o, gr g o → 1 ≤ o ∧ 10 ≤ tg o ∧ (tg o < 30 → tg o < 22 ∧ ∀ (k : Nat) (off : Int), k < nF (tg o - 10) → fkO (tg o - 10) k = some off → gr g (o + off) ∧ tg (o + off) = fkT (tg o - 10) k) ∧
  (30 ≤ tg o → aE (tg o) = 7 → ∀ i : Nat, i < aN (tg o) → gr g (o + 1 + i) ∧ tg (o + 1 + i) = aI (tg o))
def gty (g : GT) : List (ClassId × FieldType) := [(gA g 0, .int), (gA g 1, .boolean), (gA g 2, .long), (gA g 6, .byte), (gA g 7, .array .int)]
def Kx (g : GT) (U : State) : Prop := va_K (gD g) vwCl (gty g) U
/-- the switch map: its 32 places -/
def Sw (g : GT) (U : State) (H : Heap) : Prop := ∃ cell : Cell, H[gs g]? = some cell ∧ U.isArrayOf cell .int ∧ cell.vm ≠ .unknown ∧ (∀ j : Nat, j < 32 → cell.slots[j]? = some (.int (i3 (enS.getD j 0)))) ∧ ¬ gAd g (gs g)
/-- the one link to a nest mate's private member -/
def nW : Cond := .fieldLinkNest RX6 83 "StoneRaised" "WORDS" "[LStoneRaised$Word;" "StoneRaised"
def Sx (g : GT) (U : State) (H : Heap) : Prop :=
  va_En RX10 "LStoneRaised$Word;" enN enT (ge g) (gAd g) U H ∧ va_Z RX12 "WORDS" "[LStoneRaised$Word;" (.ref (gw g)) (gAd g) U H ∧
  va_T (.object RX10) (gw g) 32 (fun i => .ref (ge g i)) (gAd g) U H ∧ va_Z RX0 "$SwitchMap$StoneRaised$Word" "[I" (.ref (gs g)) (gAd g) U H ∧ Sw g U H ∧ va_Nw nW U
theorem Sw.moved {g : GT} {u U : State} {H : Heap} (hvm : u.vm.Alike U.vm) (h : Sw g u H) : Sw g U H := by
  obtain ⟨cell, h1, h2, h3⟩ := h
  exact ⟨cell, h1, State.isArrayOf_alike hvm h2, h3⟩
theorem Sw.kept {g : GT} {U : State} {H H1 : Heap} (h : Sw g U H) (hq : ∀ a : Nat, a < H.size → ¬ gAd g a → H1[a]? = H[a]?) : Sw g U H1 := by
  obtain ⟨cell, h1, h2, h3, h4, h5⟩ := h
  exact ⟨cell, by rw [hq _ (Array.getElem?_eq_some_iff.mp h1).1 h5]; exact h1, h2, h3, h4, h5⟩
theorem Sx.moved {g : GT} {u U : State} {H : Heap} (hvm : u.vm.Alike U.vm) (hn : va_Nw nW u → va_Nw nW U) (h : Sx g u H) : Sx g U H :=
  ⟨va_En.moved hvm h.1, va_Z.moved hvm h.2.1, va_T.moved hvm h.2.2.1, va_Z.moved hvm h.2.2.2.1, Sw.moved hvm h.2.2.2.2.1, hn h.2.2.2.2.2⟩
theorem Sx.kept {g : GT} {U : State} {H H1 : Heap} (h : Sx g U H) (hq : ∀ a : Nat, a < H.size → ¬ gAd g a → H1[a]? = H[a]?) : Sx g U H1 :=
  ⟨va_En.kept h.1 hq, h.2.1.kept hq, h.2.2.1.kept hq, h.2.2.2.1.kept hq, h.2.2.2.2.1.kept hq, h.2.2.2.2.2⟩
theorem adr_inj {g : GT} {a b : Int} (ha : 1 ≤ a) (hb : 1 ≤ b) (h : adr g a = adr g b) : a = b := by unfold adr at h; omega
theorem vld_o {g : GT} {t : Nat} {o : Int} (ht : 10 ≤ t) (h : vld g (t, o)) : gr g o ∧ tg o = t := by
  obtain ⟨n, rfl⟩ : ∃ n, t = n + 10 := ⟨t - 10, by omega⟩
  exact h
theorem vld_of {g : GT} {t : Nat} {o : Int} (ht : 10 ≤ t) (h : gr g o ∧ tg o = t) : vld g (t, o) := by
  obtain ⟨n, rfl⟩ : ∃ n, t = n + 10 := ⟨t - 10, by omega⟩
  exact h
theorem conc_o {g : GT} {t : Nat} {o : Int} (ht : 10 ≤ t) : conc g (t, o) = .ref (adr g o) := by
  obtain ⟨n, rfl⟩ : ∃ n, t = n + 10 := ⟨t - 10, by omega⟩
  rfl
theorem ups_eq (σ : Sg) (o k v : Int) : ups σ o k v o k = v := by simp [ups]
theorem ups_o (σ : Sg) {o o2 k k2 v : Int} (h : o2 ≠ o) : ups σ o k v o2 k2 = σ o2 k2 := by simp [ups, h]
theorem ups_k (σ : Sg) {o o2 k k2 v : Int} (h : k2 ≠ k) : ups σ o k v o2 k2 = σ o2 k2 := by simp [ups, h]
theorem fW_c {σ σ2 : Sg} {o : Int} {ci k : Nat} (h : σ o k = σ2 o k) : fW σ o ci k = fW σ2 o ci k := by
  unfold fW
  cases fkO ci k with
  | some off => rfl
  | none => exact h
theorem fW_n {σ : Sg} {o : Int} {ci k : Nat} (h : fkO ci k = none) : fW σ o ci k = σ o k := by
  unfold fW
  rw [h]
/-- a field is written -/
theorem Rp.putf {g : GT} {σ : Sg} {H H1 : Heap} {o v : Int} {ci k : Nat} (hC : Cl g) (hR : Rp g σ H) (ho : gr g o) (hto : tg o = 10 + ci) (hci : ci < 12) (hk : k < nF ci) (hf : fkO ci k = none) (hv : vld g (fkT ci k, v))
    (h1 : t_OB (adr g o) ((gD g).1 ci) (nF ci) ((gD g).2 ci) H1 (updV (fun k => conc g (fkT ci k, fW σ o ci k)) k (conc g (fkT ci k, v)))) (h2 : ∀ q : Nat, q ≠ adr g o → H1[q]? = H[q]?) : Rp g (ups σ o k v) H1 := by
  intro o2 ho2
  obtain ⟨⟨c1, c2⟩, s1, s2⟩ := hR o2 ho2
  by_cases e : o2 = o
  · subst e
    have ec : tg o2 - 10 = ci := by omega
    refine ⟨⟨fun _ => ?_, fun h => absurd hto (by omega)⟩, fun _ => ?_, fun h => absurd hto (by omega)⟩
    · rw [ec]
      refine h1.to (fun j hj => ?_)
      unfold updV
      by_cases ej : j = k
      · subst ej
        rw [if_pos rfl, fW_n hf, ups_eq]
      · rw [if_neg ej]
        show conc g (fkT ci j, fW σ o2 ci j) = _
        rw [fW_c (ups_k σ (show (j : Int) ≠ (k : Int) by omega)).symm]
    · rw [ec]
      intro j hj hfj
      by_cases ej : j = k
      · subst ej
        rw [ups_eq]
        exact hv
      · rw [ups_k σ (show (j : Int) ≠ (k : Int) by omega)]
        have := s1 (by omega) j (by rw [ec]; exact hj) (by rw [ec]; exact hfj)
        rw [ec] at this
        exact this
  · have ha : adr g o2 ≠ adr g o := fun h => e (adr_inj (hC o2 ho2).1 (hC o ho).1 h)
    refine ⟨⟨fun h => ?_, fun h => ?_⟩, fun h j hj hfj => ?_, fun h j hj => ?_⟩
    · refine ((c1 h).kept (h2 _ ha)).to (fun j hj => ?_)
      show conc g (fkT (tg o2 - 10) j, fW σ o2 (tg o2 - 10) j) = _
      rw [fW_c (ups_o σ e).symm]
    · rw [h2 _ ha, c2 h]
      simp only [ups_o σ e]
    · rw [ups_o σ e]
      exact s1 h j hj hfj
    · rw [ups_o σ e]
      exact s2 h j hj
/-- a place of an array is written -/
theorem Rp.puta {g : GT} {σ : Sg} {H H1 : Heap} {o v : Int} {t k : Nat} (hC : Cl g) (hR : Rp g σ H) (ho : gr g o) (hto : tg o = t) (ht : 30 ≤ t) (hE : aE t ≠ 7) (hk : k < aN t) (hv : inL v ∧ (aE t ≠ 2 → inR v))
    (h1 : H1[adr g o]? = some (arrV (gA g (aE t)) (aN t) (updV (fun i => eV g o t i (σ o i)) k (eV g o t k v)))) (h2 : ∀ q : Nat, q ≠ adr g o → H1[q]? = H[q]?) : Rp g (ups σ o k v) H1 := by
  subst hto
  intro o2 ho2
  obtain ⟨⟨c1, c2⟩, s1, s2⟩ := hR o2 ho2
  by_cases e : o2 = o
  · subst e
    refine ⟨⟨fun h => absurd ht (by omega), fun _ => ?_⟩, fun h => absurd ht (by omega), fun _ j hj => ?_⟩
    · rw [h1]
      congr 2
      funext j
      unfold updV
      by_cases ej : j = k
      · subst ej
        rw [if_pos rfl, ups_eq]
      · rw [if_neg ej, ups_k σ (show (j : Int) ≠ (k : Int) by omega)]
    · by_cases ej : j = k
      · subst ej
        rw [ups_eq]
        exact hv
      · rw [ups_k σ (show (j : Int) ≠ (k : Int) by omega)]
        exact s2 ht j hj
  · have ha : adr g o2 ≠ adr g o := fun h => e (adr_inj (hC o2 ho2).1 (hC o ho).1 h)
    refine ⟨⟨fun h => ?_, fun h => ?_⟩, fun h j hj hfj => ?_, fun h j hj => ?_⟩
    · refine ((c1 h).kept (h2 _ ha)).to (fun j hj => ?_)
      show conc g (fkT (tg o2 - 10) j, fW σ o2 (tg o2 - 10) j) = _
      rw [fW_c (ups_o σ e).symm]
    · rw [h2 _ ha, c2 h]
      simp only [ups_o σ e]
    · rw [ups_o σ e]
      exact s1 h j hj hfj
    · rw [ups_o σ e]
      exact s2 h j hj
