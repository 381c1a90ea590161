/-! the class begins with a draft -/
section CBEG
variable {g : GT} {e : Nat} {s : Sg} {T : Tn} {tw : Int}
/-- an empty town -/
def zEmp (T : Tn) : Prop := T 1 0 = 0 ∧ T 1 1 = 0 ∧ T 1 2 = 0 ∧ T 0 13 = 0 ∧ T 0 14 = 7 ∧ T 0 15 = 21 ∧ T 0 16 = 10 ∧ T 0 17 = 0 ∧ T 0 18 = 5 ∧ T 14 2 = 0 ∧ T 17 2 = 0
theorem C_pbegin (hc : CT s tw T) (hr : zRg T) (hi : isT tw) : Mw g (e + 3) M_X4_begin [(13, 46), (18, tw)] s (fun _ s' => (∃ T2, CT s' tw T2 ∧ TOK T2 ∧ TF T2 ∧ zTw T2 ∧ zEmp T2) ∧ (s' 46 1 = tw ∧ s' 47 5 = 0 ∧ s' 47 6 = 0 ∧ s' 47 7 = -1) ∧ Fr (fun o => o = 46 ∨ o = 47 ∨ (tw ≤ o ∧ o ≤ tw + 18)) s s') := by
  have hi' := hi
  unfold isT at hi'
  refine S_X4_begin (fun _ s1 h1 => ?_)
  have e1 : s1 46 1 = tw := by rw [h1, ups_eq]
  have c1 : CT s1 tw T := hc.fr (J := fun o => o = 46) (by rw [h1]; exact Fr.up rfl) (fun o o1 o2 _ => by omega)
  rw [e1]
  refine (C_clear (e := e) c1 hr hi).imp (fun _ s3 q3 => S_X6_open (fun a1 b1 a2 b2 a3 b3 a4 b4 a5 b5 => ?_))
  obtain ⟨⟨T2, c2, t2, f2, w2, z2⟩, fr⟩ := q3
  have oo : ∀ o, o ≠ 47 → a5 o = s3 o := fun o q => by rw [b5, ups_at _ q, b4, ups_at _ q, b3, ups_at _ q, b2, ups_at _ q, b1, ups_at _ q]
  refine ⟨⟨T2, c2.fr (J := fun o => o = 47) oo (fun o o1 o2 _ => by omega), t2, f2, w2, z2⟩, ⟨?_, ?_, ?_, ?_⟩, fun o ho => ?_⟩
  · rw [oo 46 (by decide), fr 46 (by omega)]; exact e1
  · rw [b5, ups_k _ (by decide), b4, ups_k _ (by decide), b3, ups_k _ (by decide), b2, ups_k _ (by decide), b1, ups_eq]
  · rw [b5, ups_k _ (by decide), b4, ups_k _ (by decide), b3, ups_k _ (by decide), b2, ups_eq]
  · rw [b5, ups_k _ (by decide), b4, ups_k _ (by decide), b3, ups_eq]
  · rw [oo o (fun u => ho (Or.inr (Or.inl u))), fr o (fun u => ho (Or.inr (Or.inr u))), h1, ups_at _ (fun u => ho (Or.inl u))]
end CBEG
