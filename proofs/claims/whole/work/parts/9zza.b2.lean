/-! objects in the making by the abstract state and the fields that are not yet set -/
abbrev Ut : Type := Int → Nat → Bool
def zUn (U : Ut) (o0 : Int) (L : List Nat) : Ut := fun o k => (decide (o < o0) && U o k) || (decide (o = o0) && (decide (3 ≤ fkT (tg o - 10) k) && !L.contains k))
def zZ (g : GT) (σ : Sg) (U : Ut) : Zt := fun o k => if (U o k && decide (tg o < 30)) = true then .null else zV g σ o k
def zGN (g : GT) (N : Nat) : GT := gR g (fun o => 1 ≤ o ∧ o ≤ N)
def sO (g : GT) (N : Nat) (σ : Sg) (U : Ut) (o : Int) : Prop :=
  (tg o < 30 → ∀ k : Nat, k < nF (tg o - 10) → fkO (tg o - 10) k = none → U o k = false → vld (zGN g N) (fkT (tg o - 10) k, σ o k)) ∧
  (30 ≤ tg o → ∀ i : Nat, i < aN (tg o) → inL (σ o i) ∧ (aE (tg o) ≠ 2 → inR (σ o i)))
def pu (g : GT) (N : Nat) (σ : Sg) (U : Ut) : Prop := (∀ o : Int, 1 ≤ o → o ≤ N → sO g N σ U o) ∧ ∀ o : Int, (N : Int) < o → ∀ k : Int, σ o k = 0
def B2 (g : GT) (N : Nat) (σ : Sg) (U : Ut) (H : Heap) : Prop := Br g N (zZ g σ U) H ∧ pu g N σ U
section BTWO
variable {g : GT} {N : Nat} {Z Z2 : Zt} {H H1 : Heap} {σ σ2 : Sg} {R R2 : Int → Prop} {U : Ut}
theorem Br.to (h : Br g N Z H) (hz : ∀ o : Int, 1 ≤ o → o ≤ N → (tg o < 30 → ∀ k, k < nF (tg o - 10) → Z o k = Z2 o k) ∧ (30 ≤ tg o → Z o = Z2 o)) : Br g N Z2 H := by
  refine ⟨h.1, fun o o1 o2 => ⟨fun t => ((h.2 o o1 o2).1 t).to (fun k hk => (hz o o1 o2).1 t k hk), fun t => ?_⟩⟩
  rw [← (hz o o1 o2).2 t]
  exact (h.2 o o1 o2).2 t
theorem vld_up {x : AV} (h : vld (gR g R) x) (hr : ∀ o, R o → R2 o) : vld (gR g R2) x := by
  obtain ⟨t, v⟩ := x
  by_cases t10 : 10 ≤ t
  · have q := vld_o t10 h
    exact vld_of t10 ⟨hr _ q.1, q.2⟩
  · match t, h, t10 with
    | 0, h, _ => exact h
    | 1, h, _ => exact ⟨hr _ h.1, h.2⟩
    | 2, h, _ => exact h
    | 3, h, _ => exact h
    | 4, h, _ => exact h
    | 5, h, _ => exact h
    | 6, h, _ => exact ⟨hr _ h.1, h.2⟩
    | 7, h, _ => exact ⟨hr _ h.1, h.2⟩
    | 8, h, _ => exact ⟨hr _ h.1, h.2⟩
    | 9, h, _ => exact h
    | n + 10, _, q => exact absurd (Nat.le_add_left 10 n) q
theorem sO.up {N2 : Nat} {U2 : Ut} {o : Int} (h : sO g N σ U o) (hN : N ≤ N2) (hU : ∀ k, U o k = U2 o k) : sO g N2 σ U2 o := by
  refine ⟨fun t k hk hf hu => vld_up (h.1 t k hk hf ((hU k).trans hu)) (fun o q => ⟨q.1, by omega⟩), h.2⟩
theorem zUn_lt {o0 o : Int} {L : List Nat} {k : Nat} (h : o < o0) : zUn U o0 L o k = U o k := by
  unfold zUn
  rw [decide_eq_true h, decide_eq_false (by omega)]
  simp
theorem zUn_gt {o0 o : Int} {L : List Nat} {k : Nat} (h : o0 < o) : zUn U o0 L o k = false := by
  unfold zUn
  rw [decide_eq_false (show ¬ o < o0 by omega), decide_eq_false (by omega)]
  simp
theorem zUn_at {o0 : Int} {L : List Nat} {k : Nat} : zUn U o0 L o0 k = (decide (3 ≤ fkT (tg o0 - 10) k) && !L.contains k) := by
  unfold zUn
  rw [decide_eq_false (show ¬ o0 < o0 by omega), decide_eq_true (show o0 = o0 from rfl)]
  simp
theorem zUn_J {J : Int → Prop} {o0 o : Int} {L : List Nat} {k : Nat} (hU : ∀ o k, U o k = true → J o) (h : zUn U o0 L o k = true) : (J o ∧ o < o0) ∨ o = o0 := by
  by_cases h1 : o < o0
  · rw [zUn_lt h1] at h; exact Or.inl ⟨hU o k h, h1⟩
  · by_cases h2 : o = o0
    · exact Or.inr h2
    · rw [zUn_gt (by omega)] at h; cases h
theorem zZ_set {o : Int} {k : Nat} (h : U o k = false) : zZ g σ U o k = zV g σ o k := by unfold zZ; rw [h]; rfl
theorem zZ_arr {o : Int} (h : 30 ≤ tg o) : zZ g σ U o = zV g σ o := by
  funext k
  unfold zZ
  rw [decide_eq_false (by omega), Bool.and_false]
  rfl
theorem zZ_un {o : Int} {k : Nat} (h : U o k = true) (t : tg o < 30) : zZ g σ U o k = .null := by
  unfold zZ
  rw [h, decide_eq_true t]
  rfl
theorem zZ_U {U2 : Ut} {o : Int} {k : Nat} (h : U o k = U2 o k) : zZ g σ U o k = zZ g σ U2 o k := by unfold zZ; rw [h]
theorem zV_c {o : Int} (h : σ o = σ2 o) : zV g σ o = zV g σ2 o := by
  funext k
  unfold zV
  rw [h, fW_c (σ := σ) (σ2 := σ2) (by rw [h])]
theorem zZ_c {o : Int} (h : σ o = σ2 o) : zZ g σ U o = zZ g σ2 U o := by
  funext k
  unfold zZ
  rw [zV_c h]
/-- one more array -/
theorem B2.arr {t : Nat} {dv : Value} (hB : Br g (N + 1) (zSe (zZ g σ U) ((N : Int) + 1) (fun _ => dv)) H1) (hp : pu g N σ U) (ht : tg ((N : Int) + 1) = t) (t30 : 30 ≤ t) (hv : ∀ (o : Int) (k : Nat), eV g o t k 0 = dv) : B2 g (N + 1) σ U H1 := by
  have z0 : ∀ k : Int, σ ((N : Int) + 1) k = 0 := hp.2 _ (by omega)
  refine ⟨hB.to (fun o o1 o2 => ?_), fun o o1 o2 => ?_, fun o ho k => hp.2 o (by omega) k⟩
  · by_cases e : o = (N : Int) + 1
    · subst e
      refine ⟨fun q => absurd q (by rw [ht]; omega), fun q => ?_⟩
      rw [zSe_eq, zZ_arr q]
      funext k
      unfold zV
      rw [if_neg (by omega), z0, ht, hv]
    · rw [zSe_ne e]
      exact ⟨fun _ _ _ => rfl, fun _ => rfl⟩
  · by_cases e : o = (N : Int) + 1
    · subst e
      refine ⟨fun q => absurd q (by rw [ht]; omega), fun _ i _ => ?_⟩
      rw [z0]
      exact ⟨inL0, fun _ => inR0⟩
    · exact (hp.1 o o1 (by omega)).up (Nat.le_succ N) (fun _ => rfl)
/-- fields at birth -/
def okD (ci : Nat) : Prop := ∀ k, k < nF ci → (3 ≤ fkT ci k ∧ defaultValue (cTy ci k) = .null) ∨ (fkO ci k = none ∧ ((fkT ci k = 0 ∧ defaultValue (cTy ci k) = .int 0) ∨ (fkT ci k = 2 ∧ defaultValue (cTy ci k) = .long 0)))
theorem B2.obj {ci : Nat} (hB : Br g (N + 1) (zSe (zZ g σ U) ((N : Int) + 1) (fun k => defaultValue (cTy ci k))) H1) (hp : pu g N σ U) (ht : tg ((N : Int) + 1) = 10 + ci) (hci : ci < 12) (hd : okD ci) : B2 g (N + 1) σ (zUn U ((N : Int) + 1) []) H1 := by
  have z0 : ∀ k : Int, σ ((N : Int) + 1) k = 0 := hp.2 _ (by omega)
  have ec : tg ((N : Int) + 1) - 10 = ci := by omega
  refine ⟨hB.to (fun o o1 o2 => ?_), fun o o1 o2 => ?_, fun o ho k => hp.2 o (by omega) k⟩
  · by_cases e : o = (N : Int) + 1
    · subst e
      refine ⟨fun q k hk => ?_, fun q => absurd q (by rw [ht]; omega)⟩
      rw [ec] at hk
      rw [zSe_eq]
      rcases hd k hk with ⟨h3, hv⟩ | ⟨hf, hv⟩
      · rw [zZ_un (by rw [zUn_at, ec, decide_eq_true h3]; rfl) q, hv]
      · have h3 : ¬ 3 ≤ fkT ci k := by omega
        rw [zZ_set (by rw [zUn_at, ec, decide_eq_false h3]; rfl)]
        unfold zV
        rw [if_pos q, ec, fW_n hf, z0]
        rcases hv with ⟨ht2, hv⟩ | ⟨ht2, hv⟩
        · rw [ht2, hv]; rfl
        · rw [ht2, hv]; rfl
    · rw [zSe_ne e]
      exact ⟨fun _ k _ => zZ_U (zUn_lt (by omega)).symm, fun q => by rw [zZ_arr q, zZ_arr q]⟩
  · by_cases e : o = (N : Int) + 1
    · subst e
      refine ⟨fun q k hk hf hu => ?_, fun q => absurd q (by rw [ht]; omega)⟩
      rw [ec] at hk hf
      rw [z0, ec]
      rcases hd k hk with ⟨h3, hv⟩ | ⟨-, hv⟩
      · rw [zUn_at, ec, decide_eq_true h3] at hu; cases hu
      · rcases hv with ⟨ht2, -⟩ | ⟨ht2, -⟩
        · rw [ht2]; exact inR0
        · rw [ht2]; exact inL0
    · exact (hp.1 o o1 (by omega)).up (Nat.le_succ N) (fun _ => (zUn_lt (by omega)).symm)
/-- a field of the object in the making is set -/
theorem B2.set {ci k : Nat} {o0 v : Int} {L : List Nat} (hB : Br g N (zSe (zZ g σ (zUn U o0 L)) o0 (updV (zZ g σ (zUn U o0 L) o0) k (conc g (fkT ci k, v)))) H1) (hp : pu g N σ (zUn U o0 L)) (ho : 1 ≤ o0 ∧ o0 ≤ N) (ht : tg o0 = 10 + ci) (hci : ci < 12)
    (hv : ∀ k2 : Nat, σ2 o0 k2 = if k2 = k then (match fkO ci k with | none => v | some _ => σ o0 k) else σ o0 k2) (hw : ∀ off, fkO ci k = some off → v = o0 + off) (hl : fkO ci k = none → vld (zGN g N) (fkT ci k, v)) (ho2 : ∀ o, o ≠ o0 → σ2 o = σ o) : B2 g N σ2 (zUn U o0 (k :: L)) H1 := by
  have ec : tg o0 - 10 = ci := by omega
  have lc : ∀ j, j ≠ k → (k :: L).contains j = L.contains j := fun j hj => by
    rw [List.contains_cons, beq_eq_false_iff_ne.mpr hj, Bool.false_or]
  refine ⟨hB.to (fun o o1 o2 => ?_), fun o o1 o2 => ?_, fun o hoN j => by rw [ho2 o (by omega)]; exact hp.2 o hoN j⟩
  · by_cases e : o = o0
    · subst e
      refine ⟨fun q j hj => ?_, fun q => absurd q (by rw [ht]; omega)⟩
      rw [zSe_eq]
      unfold updV
      by_cases ej : j = k
      · subst ej
        rw [if_pos rfl, zZ_set (by rw [zUn_at, List.contains_cons, beq_self_eq_true, Bool.true_or, Bool.not_true, Bool.and_false])]
        unfold zV
        rw [if_pos q, ec]
        unfold fW
        cases hf : fkO ci j with
        | none => show _ = conc g (fkT ci j, σ2 o j); rw [hv j, if_pos rfl, hf]
        | some off => rw [hw off hf]
      · rw [if_neg ej]
        have hs : σ2 o (j : Int) = σ o (j : Int) := by rw [hv j, if_neg ej]
        unfold zZ
        rw [zUn_at, zUn_at, lc j ej]
        unfold zV
        rw [fW_c hs, hs]
    · rw [zSe_ne e]
      have ec2 : ∀ j, zZ g σ (zUn U o0 L) o j = zZ g σ2 (zUn U o0 (k :: L)) o j := fun j => by
        rw [zZ_c (ho2 o e)]
        apply zZ_U
        rcases Int.lt_trichotomy o o0 with h | h | h
        · rw [zUn_lt h, zUn_lt h]
        · exact absurd h e
        · rw [zUn_gt h, zUn_gt h]
      exact ⟨fun _ j _ => ec2 j, fun _ => funext ec2⟩
  · by_cases e : o = o0
    · subst e
      refine ⟨fun q j hj hf hu => ?_, fun q => absurd q (by rw [ht]; omega)⟩
      rw [ec] at hj hf
      by_cases ej : j = k
      · subst ej
        rw [hv j, if_pos rfl, hf, ec]
        exact hl hf
      · rw [hv j, if_neg ej]
        refine (hp.1 o o1 o2).1 q j (by rw [ec]; exact hj) (by rw [ec]; exact hf) ?_
        rw [zUn_at, lc j ej] at hu
        rw [zUn_at]
        exact hu
    · have := hp.1 o o1 o2
      unfold sO
      rw [ho2 o e]
      refine ⟨fun q j hj hf hu => this.1 q j hj hf ?_, this.2⟩
      rcases Int.lt_trichotomy o o0 with h | h | h
      · rw [zUn_lt h] at hu ⊢; exact hu
      · exact absurd h e
      · rw [zUn_gt h]
/-- the object is made -/
theorem B2.done {ci : Nat} {o0 : Int} {L : List Nat} (hB : B2 g N σ (zUn U o0 L) H) (hU : ∀ o k, U o k = true → o < o0) (ht : tg o0 = 10 + ci) (hL : ∀ k, k < nF ci → 3 ≤ fkT ci k → L.contains k = true) : B2 g N σ U H := by
  have ec : tg o0 - 10 = ci := by omega
  have f0 : ∀ o k, o0 ≤ o → U o k = false := fun o k h => by
    cases q : U o k with
    | false => rfl
    | true => exact absurd (hU o k q) (by omega)
  have ee : ∀ o k, (o = o0 → k < nF ci) → zUn U o0 L o k = U o k := fun o k hk => by
    rcases Int.lt_trichotomy o o0 with h | h | h
    · exact zUn_lt h
    · subst h
      rw [f0 o k (Int.le_refl _), zUn_at, ec]
      by_cases h3 : 3 ≤ fkT ci k
      · rw [hL k (hk rfl) h3]; simp
      · rw [decide_eq_false h3]; rfl
    · rw [zUn_gt h, f0 o k (by omega)]
  refine ⟨hB.1.to (fun o o1 o2 => ⟨fun q k hk => zZ_U (ee o k (fun e => by subst e; rw [ec] at hk; exact hk)), fun q => by rw [zZ_arr q, zZ_arr q]⟩), fun o o1 o2 => ?_, hB.2.2⟩
  have := hB.2.1 o o1 o2
  exact ⟨fun q k hk hf hu => this.1 q k hk hf (by rw [ee o k (fun e => by subst e; rw [ec] at hk; exact hk)]; exact hu), this.2⟩
end BTWO
