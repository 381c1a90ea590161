/-! order: the stones on the shelf by numbers; the class's order; the tree of rows -/
def pS (T : Tn) (A : Wd) (c : Int) : Bool := decide (0 ≤ c ∧ c < T 1 1) && whS T A c == 2
/-- the j-th stone on the shelf -/
def jhS (T : Tn) (A : Wd) (j : Int) : Int := fstF 8 (fun c => pS T A c && cntF c.toNat (pS T A) == j)
def omS (T : Tn) (A : Wd) : Nat := (cntF 8 (pS T A)).toNat
def orR (T : Tn) (A : Wd) : OS := ordF T (omS T A) 0 (fun _ => jhS T A 0) A (pS T A) 0 (-1, fun _ => 0)
def odS (T : Tn) (A : Wd) (k : Int) : Int := if (omS T A : Int) ≤ 6 ∧ -1 ≤ k ∧ k < omS T A then (if k = -1 then (orR T A).1 else (orR T A).2 k) else -1
section ORDER2
variable {g : GT} {e : Nat} {s : Sg} {T : Tn} {A : Wd} {tw : Int}
theorem om_c : (omS T A : Int) = cntF 8 (pS T A) := by
  have := cntF_le 8 (pS T A)
  unfold omS
  omega
theorem pop_sh (hT : TOK T) : popF (bitsS T A 2) = omS T A := by
  have t8 := hT.2.1
  rw [om_c]
  unfold bitsS
  rw [pop_set _ (by omega), cntF_ext (p := pS T A) (n := (T 1 1).toNat) 8 (by omega) (fun k k0 k1 => by unfold pS; rw [decide_eq_false (by omega)]; rfl)]
  refine cntF_congr (fun k hk => ?_)
  unfold pS
  rw [decide_eq_true (show 0 ≤ (k : Int) ∧ (k : Int) < T 1 1 by omega)]
  rfl
theorem bit_sh (c : Nat) : (bitsS T A 2).toNat.testBit c = pS T A c := by
  have := setF_bit (T 1 1).toNat (fun c => whS T A c == 2) c
  unfold bitF at this
  unfold bitsS
  rw [this]
  unfold pS
  congr 1
  apply Bool.eq_iff_iff.mpr
  rw [decide_eq_true_eq, decide_eq_true_eq]
  omega
theorem sh_c {c : Nat} (hc : c < 8) (hp : pS T A c = true) : jhS T A (cntF c (pS T A)) = c := by
  unfold jhS
  refine fstF_first hc ?_ (fun k hk => ?_)
  · rw [hp, Int.toNat_natCast]
    simp
  · rw [Int.toNat_natCast]
    cases hq : pS T A k with
    | false => rfl
    | true =>
      have h1 : cntF (k + 1) (pS T A) = cntF k (pS T A) + 1 := cntF_s hq
      have h2 := cntF_le_n (p := pS T A) (c := k + 1) c (by omega)
      show (true && _) = false
      rw [Bool.true_and]
      apply Bool.eq_false_iff.mpr
      intro z
      rw [beq_iff_eq] at z
      omega
theorem sh_ex {p : Int → Bool} : ∀ (N j : Nat), (j : Int) < cntF N p → ∃ c : Nat, c < N ∧ p c = true ∧ cntF c p = j := by
  intro N
  induction N with
  | zero => intro j hj; exfalso; have : cntF 0 p = 0 := rfl; omega
  | succ N ih =>
    intro j hj
    by_cases z : (j : Int) < cntF N p
    · obtain ⟨c, h1, h2, h3⟩ := ih j z
      exact ⟨c, by omega, h2, h3⟩
    · cases hp : p N with
      | true =>
        rw [cntF_s hp] at hj
        exact ⟨N, by omega, hp, by omega⟩
      | false =>
        rw [cntF_n hp] at hj
        exact absurd hj z
/-- the j-th one is one -/
theorem sh_in {j : Int} (j0 : 0 ≤ j) (j1 : j < omS T A) : (0 ≤ jhS T A j ∧ jhS T A j < 8) ∧ pS T A (jhS T A j) = true ∧ cntF (jhS T A j).toNat (pS T A) = j := by
  rw [om_c] at j1
  obtain ⟨c, h1, h2, h3⟩ := sh_ex (p := pS T A) 8 j.toNat (by omega)
  have := sh_c h1 h2
  rw [h3, show ((j.toNat : Nat) : Int) = j by omega] at this
  rw [this]
  exact ⟨by omega, h2, by rw [Int.toNat_natCast, h3]; omega⟩
theorem pS_ok {c : Int} (h : pS T A c = true) : c < T 1 1 ∧ A 3 c = -1 ∧ T 0 15 ≤ ageS T A c := by
  unfold pS at h
  rw [Bool.and_eq_true, decide_eq_true_eq, beq_iff_eq] at h
  have := wh2 h.2
  exact ⟨h.1.2, this⟩
theorem or_ge : 0 ≤ (orR T A).1 := ord_ge _ _ _ _ _ _ _ om_c.symm
theorem or_any (f : Int → Int) : ordF T (omS T A) 0 (fun _ => jhS T A 0) A (pS T A) 0 (-1, f) = orR T A := by
  rcases ord_same (T := T) (omS T A) 0 (fun _ => jhS T A 0) A (pS T A) 0 (-1, f) (-1, fun _ => 0) (Or.inr ⟨rfl, rfl⟩) (Int.le_refl 0) with z | z
  · exact z
  · have := or_ge (T := T) (A := A)
    unfold orR at this
    omega
theorem C_order {k : Int} (hx : CX s 48 tw T A) (hW : WOK T A) (hF : TF T) : Mw g (e + 14) M_X12_order [(20, 1), (0, k)] s (fun r s' => r = odS T A k ∧ Fr Jo s s') := by
  have hT := hx.ok
  have t8 := hT.2.1
  have sb := bits_bd (A := A) hT 2
  have ps := pop_sh (A := A) hT
  refine S_X12_order (fun _ => Mw.ex (C_bitsAt hx) (Mw.ex (C_bitCount sb.1 (by omega)) ?_))
  rw [ps]
  unfold odS
  refine ⟨fun q => ⟨by rw [if_neg (fun z => by omega)], Fr.rf⟩, fun q => ⟨fun q2 => ⟨by rw [if_neg (fun z => by omega)], Fr.rf⟩, fun q2 => ⟨fun q3 => ?_, fun q3 => ⟨by rw [if_neg (fun z => by omega)], Fr.rf⟩⟩⟩⟩
  refine S_X5_findOrder (fun _ _ => (C_copy hx (Or.inr rfl) (by decide)).imp (fun _ s2 h2 => Mw.ex (C_bitCount sb.1 (by omega)) (fun s5 e5 s6 e6 => ?_)))
  obtain ⟨B, x2, hE, h9, f2⟩ := h2
  rw [ps] at e5
  have f6 : Fr (fun o => o = 55 ∨ o = 56 ∨ o = 57) s2 s6 := by
    rw [e6, e5]
    exact (Fr.up (Or.inl rfl)).tr (Fr.up (Or.inl rfl))
  have o6 : OC s6 tw T A (omS T A) 0 (fun _ => jhS T A 0) (-1, s6 56) :=
    ⟨⟨_, _, x2.fo f6, hE⟩, by rw [e6, ups_k _ (by decide), e5, ups_eq], by rw [e6, ups_eq], fun _ _ _ => rfl, fun i i0 i1 => absurd i1 (by show ¬ i < ((0 : Nat) : Int); omega)⟩
  have lf : lfo T A (pS T A) := fun c c0 c8 hc => pS_ok hc
  have F2 : Fr Jo s s6 := (f2.wk (fun o z => Or.inl (Or.inl z))).tr (f6.wk (fun o z => Or.inr z))
  obtain ⟨m, hm⟩ : ∃ m, omS T A + m = 6 := ⟨6 - omS T A, by omega⟩
  have main := co_all (g := g) (e := e + m) hF hT (m := omS T A) (by omega) (omS T A) 0 s6 A (fun _ => jhS T A 0) (pS T A) (bitsS T A 2) 0 (-1, s6 56) (by omega) o6 hW lf sb.1 sb.2 (fun c _ => bit_sh c) ⟨by show (-1 : Int) ≤ -1; omega, by show (-1 : Int) ≤ 6; omega⟩ ⟨by omega, by omega⟩
  rw [show e + m + 6 + omS T A = e + 12 by omega] at main
  refine main.imp (fun _ s8 h8 s9 e9 => ?_)
  obtain ⟨o8, f8⟩ := h8
  rw [or_any] at o8
  have og := or_ge (T := T) (A := A)
  have h2 := o8.2.2.1
  have f9 : Fr Jo s s9 := (F2.tr f8.1).tr (by rw [e9]; exact Fr.up (Or.inr (Or.inl rfl)))
  rw [if_pos (show (omS T A : Int) ≤ 6 ∧ -1 ≤ k ∧ k < omS T A by omega)]
  refine ⟨fun z => ⟨⟨by omega, by omega⟩, ?_, f9⟩, fun z => ⟨?_, f9⟩⟩
  · rw [if_neg z, e9, ups_at _ (by decide)]
    exact o8.2.2.2.1 k (by omega) (by omega)
  · rw [if_pos z, e9, ups_eq, h2]
    omega
end ORDER2
