/-! the class reads a text -/
section CLOOP
variable {g : GT} {e : Nat} {t : Tp} {tw : Int} {Q : Int → Sg → Prop}
theorem at_at {p : Int} (h : p ≤ t.1) : atT t (atT t p) = atT t p := by
  have b := blF_le t.2 (t.1 - p).toNat p
  have al := at_le h
  have stay : ∀ (k : Nat) (q : Int), (0 < k → isK (t.2 q) = false) → blF t.2 k q = q := fun k q hk => by
    cases k with
    | zero => rfl
    | succ k =>
      show (if isK (t.2 q) then blF t.2 k (q + 1) else q) = q
      rw [hk (Nat.succ_pos k)]
      rfl
  have e0 : atT t (atT t p) = blF t.2 (t.1 - atT t p).toNat (atT t p) := rfl
  rw [e0]
  refine stay _ _ (fun h0 => ?_)
  have e1 : blF t.2 (t.1 - p).toNat p = atT t p := rfl
  rw [e1] at b
  exact b.2.2 (by omega)
theorem nx_at {p : Int} (h : p ≤ t.1) : nxT t (atT t p) = nxT t p := by unfold nxT; rw [at_at h]
theorem C_loop (hi : isT tw) : ∀ (k : Nat) (n p : Int) (s : Sg) (T : Tn), 0 ≤ n → n + k = 81 → 0 < k → CTp s t.1 t.2 → s 47 6 = 0 → s 47 7 = -1 → s 47 5 = p → (0 ≤ p ∧ p ≤ t.1) → s 46 1 = tw → CT s tw T → TOK T → TF T → zTw T →
    (∀ (stE : Int × Int) (n2 v : Int) (T2 : Tn) (s2 : Sg), zRun t k n T p stE n2 T2 → (stE.1 = 0 → v = n2 ∧ s2 47 6 = 0 ∧ s2 47 7 = -1 ∧ CT s2 tw T2 ∧ TOK T2 ∧ TF T2 ∧ zTw T2) → (stE.1 ≠ 0 → s2 47 6 = stE.1 ∧ s2 47 7 = stE.2 ∧ ∃ T3, CT s2 tw T3 ∧ zRg T3) → Fdr tw s s2 → P_X12_town_49 g (e + 77) Q s2 v) → P_X12_town_15 g (e + 77) Q s n n := by
  intro k
  induction k with
  | zero => intro n p s T _ _ h0; omega
  | succ k ih =>
    intro n p s T n0 nk _ ht h6 h7 h5 p0 h46 hc hT hF hw hq
    refine S_X12_town_15 ⟨fun u => by omega, fun _ => S_X4_hasMore (S_X6_isGood ⟨fun u => absurd h6 u, fun _ => ⟨fun u => absurd u (by decide), fun _ => (C_goesOn (e := e + 74) ht p0.1 p0.2 h5).imp (fun r s2 q2 => ?_)⟩⟩)⟩
    obtain ⟨r2, v5, vk, f2⟩ := q2
    have al := at_le p0.2
    have c2 := hc.fz f2 hi
    have h62 : s2 47 6 = 0 := by rw [vk 6 (by decide)]; exact h6
    have h72 : s2 47 7 = -1 := by rw [vk 7 (by decide)]; exact h7
    have h462 : s2 46 1 = tw := by rw [f2 46 (by decide)]; exact h46
    by_cases m : atT t p < t.1
    · rw [if_pos m] at r2
      refine ⟨fun u => by omega, fun _ => ⟨fun u => absurd u (by decide), fun _ => ?_⟩⟩
      rw [w32_of (show _ ≤ n + 1 by omega) (by omega)]
      by_cases n8 : n < 80
      · have S := C_statement (g := g) (e := e) (v := n) n8 (ht.fz f2) h62 h72 v5 ⟨by omega, al.2⟩ h462 hi c2 hT hF
        rw [nx_at p0.2] at S
        refine S.imp (fun _ s4 q4 => ?_)
        obtain ⟨l1, l2, l3, l4⟩ := q4
        have F4 : Fdr tw s s4 := f2.fd.tr l2
        by_cases z : (zSt t T (nxT t p)).1 = 0
        · obtain ⟨T1, c4, r4, nz⟩ := l3 z
          have i4 := l1.1 z
          have zl : zSt t T (nxT t p) = zSemi t (zLn t T (nxT t p)) := by unfold zSt; rw [if_pos nz]
          have zg : (zLn t T (nxT t p)).1 = 0 := by
            apply Classical.byContradiction
            intro u
            rw [zl] at z
            unfold zSemi at z
            rw [if_neg u] at z
            exact u z
          have ap : 0 ≤ p ∧ p ≤ t.1 := p0
          have inn : inT t (nxT t p) := by
            unfold nxT
            by_cases y : lxT t (atT t p) = -1
            · rw [if_pos y]; exact fun _ => ⟨⟨by show 0 ≤ atT t p; omega, al.2⟩, y⟩
            · rw [if_neg y]; exact fun u => absurd u (by show ¬ (1 : Int) = 0; decide)
          have ok := zLn_ok hT hF ht.ok inn nz zg r4
          have tw4 := zLn_tw hT hw zg r4
          have nd := nd_le i4.2.2.1.2
          refine ih (n + 1) (ndT t (zSt t T (nxT t p)).2) s4 T1 (by omega) (by omega) (by omega) ?_ i4.1 i4.2.1 i4.2.2.2.2.2.1 ⟨by have := i4.2.2.1.1; omega, nd.2.1⟩ (by rw [l2.2]; exact h462) c4 ok.1 ok.2 tw4 (fun stE n2 v T2 s5 zr a1 a2 a3 => hq stE n2 v T2 s5 ⟨fun _ _ _ => ⟨T1, r4, zr⟩, fun _ _ u => absurd z u, fun _ u => absurd n8 u, fun u => absurd m u⟩ a1 a2 (F4.tr a3))
          have := ht.fz f2
          unfold CTp
          unfold isT at hi
          rw [l2.1 2 (by omega), l2.1 3 (by omega)]
          exact this
        · obtain ⟨T3, c3, r3⟩ := l4 z
          have b4 := l1.2 z
          refine S_X12_town_15 ⟨fun u => by omega, fun _ => S_X4_hasMore (S_X6_isGood ⟨fun _ => ⟨fun _ => ?_, fun u => absurd rfl u⟩, fun u => absurd (b4.1.symm.trans u) z⟩)⟩
          refine ⟨fun _ => ?_, fun u => absurd rfl u⟩
          exact hq (zSt t T (nxT t p)) 0 (n + 1) T s4 ⟨fun _ _ u => absurd u z, fun _ _ _ => rfl, fun _ u => absurd n8 u, fun u => absurd m u⟩ (fun u => absurd u z) (fun _ => ⟨b4.1, b4.2.1, T3, c3, r3⟩) F4
      · refine S_X4_statement (fun _ => ⟨fun u => absurd u n8, fun _ => ?_⟩)
        rw [v5]
        refine (C_fail (e := e + 75)).imp (fun _ s4 q4 => S_X12_town_15 ⟨fun _ => ?_, fun u => absurd (by omega) u⟩)
        have v6 := q4.1 h62
        exact hq (6, atT t p) 0 (n + 1) T s4 ⟨fun _ u => absurd u n8, fun _ u => absurd u n8, fun _ _ => rfl, fun u => absurd m u⟩ (fun u => absurd u (by show ¬ (6 : Int) = 0; decide)) (fun _ => ⟨v6.1, v6.2, T, c2.fz q4.2.2.2.2 hi, hT.rg⟩) (f2.fd.tr q4.2.2.2.2.fd)
    · rw [if_neg m] at r2
      refine ⟨fun _ => ⟨fun _ => ?_, fun u => absurd rfl u⟩, fun u => absurd r2 u⟩
      exact hq (0, atT t p) n n T s2 ⟨fun u => absurd u m, fun u => absurd u m, fun u => absurd u m, fun _ => ⟨rfl, rfl, rfl⟩⟩ (fun _ => ⟨rfl, h62, h72, c2, hT, hF, hw⟩) (fun u => absurd rfl u) f2.fd
end CLOOP
