/-! the class clears a draft -/
section CCLEAR
variable {g : GT} {e : Nat} {s : Sg} {T : Tn} {tw : Int}
theorem C_clear (hc : CT s tw T) (hr : zRg T) (hi : isT tw) : Mw g (e + 2) M_X9_clear [(18, tw)] s (fun _ s' => (∃ T2, CT s' tw T2 ∧ TOK T2 ∧ TF T2 ∧ zTw T2 ∧ (T2 1 0 = 0 ∧ T2 1 1 = 0 ∧ T2 1 2 = 0 ∧ T2 0 13 = 0 ∧ T2 0 14 = 7 ∧ T2 0 15 = 21 ∧ T2 0 16 = 10 ∧ T2 0 17 = 0 ∧ T2 0 18 = 5 ∧ T2 14 2 = 0 ∧ T2 17 2 = 0)) ∧ Fr (fun o => tw ≤ o ∧ o ≤ tw + 18) s s') := by
  have hi' := hi
  unfold isT at hi'
  refine S_X9_clear (fun _ => Mw.ex C_fill31 (Mw.ex C_fill33 (fun s5 h5 s6 h6 s7 h7 s8 h8 s9 h9 s10 h10 s11 h11 s12 h12 => ?_)))
  have oo : ∀ o, o ≠ tw → o ≠ tw + 1 → o ≠ tw + 10 → o ≠ tw + 14 → o ≠ tw + 17 → s12 o = s o := fun o a0 a1 a2 a3 a4 => by
    rw [h12, ups_at _ a0, h11, ups_at _ a0, h10, ups_at _ a0, h9, ups_at _ a0, h8, ups_at _ a0, h7, ups_at _ a0, h6, ups_at _ a4, h5, ups_at _ a3, fil_at _ a2, fil_at _ a1]
  have o12 : ∀ o, o ≠ tw → s12 o = s6 o := fun o a0 => by rw [h12, ups_at _ a0, h11, ups_at _ a0, h10, ups_at _ a0, h9, ups_at _ a0, h8, ups_at _ a0, h7, ups_at _ a0]
  have v1 : ∀ k, 0 ≤ k → k < 3 → s12 (tw + 1) k = 0 := fun k k0 k3 => by
    rw [o12 _ (by omega), h6, ups_at _ (by omega), h5, ups_at _ (by omega), fil_at _ (by omega)]
    unfold fil
    rw [if_pos ⟨rfl, k0, k3⟩]
  have v10 : ∀ k, 0 ≤ k → k < 8 → s12 (tw + 10) k = -1 := fun k k0 k3 => by
    rw [o12 _ (by omega), h6, ups_at _ (by omega), h5, ups_at _ (by omega)]
    unfold fil
    rw [if_pos ⟨rfl, k0, k3⟩]
  have v14 : s12 (tw + 14) 2 = 0 := by rw [o12 _ (by omega), h6, ups_at _ (by omega), h5, ups_eq]
  have v17 : s12 (tw + 17) 2 = 0 := by rw [o12 _ (by omega), h6, ups_eq]
  have e18 : s12 tw 18 = 5 := by rw [h12, ups_eq]
  have e17 : s12 tw 17 = 0 := by rw [h12, ups_k _ (by decide), h11, ups_eq]
  have e16 : s12 tw 16 = 10 := by rw [h12, ups_k _ (by decide), h11, ups_k _ (by decide), h10, ups_eq]
  have e15 : s12 tw 15 = 21 := by rw [h12, ups_k _ (by decide), h11, ups_k _ (by decide), h10, ups_k _ (by decide), h9, ups_eq]
  have e14 : s12 tw 14 = 7 := by rw [h12, ups_k _ (by decide), h11, ups_k _ (by decide), h10, ups_k _ (by decide), h9, ups_k _ (by decide), h8, ups_eq]
  have e13 : s12 tw 13 = 0 := by rw [h12, ups_k _ (by decide), h11, ups_k _ (by decide), h10, ups_k _ (by decide), h9, ups_k _ (by decide), h8, ups_k _ (by decide), h7, ups_eq]
  have ea : tw + 0 = tw := by omega
  have w0 : ∀ P mx, WFp P 0 mx := fun P mx => ⟨⟨by decide, by decide⟩, fun u => absurd u (by decide), fun k hk => absurd hk (by omega)⟩
  refine ⟨⟨fun a => s12 (tw + a), ⟨by show s12 tw = s12 (tw + 0); rw [ea], fun a _ _ _ => rfl⟩, ?_, ⟨?_, ?_⟩, fun c c0 c8 => v10 c (by have := v1 1 (by decide) (by decide); have c0 : s12 (tw + 1) 1 ≤ c := c0; omega) c8, ?_⟩, fun o ho => oo o (fun u => ho (by omega)) (fun u => ho (by omega)) (fun u => ho (by omega)) (fun u => ho (by omega)) (fun u => ho (by omega))⟩
  · unfold TOK
    simp only [ea, v1 0 (by decide) (by decide), v1 1 (by decide) (by decide), v1 2 (by decide) (by decide), e13, e14, e15, e16, e17, e18]
    refine ⟨by decide, by decide, by decide, by decide, fun h h0 h1 => ?_, fun c c0 c8 => ?_, fun c c0 c1 => by omega, fun w w0 w1 => by omega, fun f f0 f1 => by omega, by decide, by decide, by decide, by decide⟩
    · rw [oo (tw + 6) (by omega) (by omega) (by omega) (by omega) (by omega), oo (tw + 7) (by omega) (by omega) (by omega) (by omega) (by omega), hc.2 6 (by decide) (by decide) (by decide), hc.2 7 (by decide) (by decide) (by decide)]
      exact hr.1 h h0 h1
    · rw [oo (tw + 8) (by omega) (by omega) (by omega) (by omega) (by omega), oo (tw + 9) (by omega) (by omega) (by omega) (by omega) (by omega), hc.2 8 (by decide) (by decide) (by decide), hc.2 9 (by decide) (by decide) (by decide), v10 c c0 c8]
      have q := hr.2 c c0 c8
      exact ⟨q.1, q.2, by decide, by decide⟩
  · show WFp (s12 (tw + 15)) (s12 (tw + 14) 2) 25
    rw [v14]; exact w0 _ _
  · show WFp (s12 (tw + 18)) (s12 (tw + 17) 2) 28
    rw [v17]; exact w0 _ _
  · show s12 (tw + 1) 0 = 0 ∧ s12 (tw + 1) 1 = 0 ∧ s12 (tw + 1) 2 = 0 ∧ s12 (tw + 0) 13 = 0 ∧ s12 (tw + 0) 14 = 7 ∧ s12 (tw + 0) 15 = 21 ∧ s12 (tw + 0) 16 = 10 ∧ s12 (tw + 0) 17 = 0 ∧ s12 (tw + 0) 18 = 5 ∧ s12 (tw + 14) 2 = 0 ∧ s12 (tw + 17) 2 = 0
    rw [ea]
    exact ⟨v1 0 (by decide) (by decide), v1 1 (by decide) (by decide), v1 2 (by decide) (by decide), e13, e14, e15, e16, e17, e18, v14, v17⟩
end CCLEAR
