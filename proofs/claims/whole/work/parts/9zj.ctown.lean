/-! the class settles in a town -/
def zJs (o : Int) : Prop := o = 1 ∨ (48 ≤ o ∧ o ≤ 54) ∨ o = 65 ∨ o = 87
def zJt (dw o : Int) : Prop := zJs o ∨ o = 2 ∨ o = 46 ∨ o = 47 ∨ (dw ≤ o ∧ o ≤ dw + 18)
section CTOWN
variable {g : GT} {e : Nat} {s : Sg} {T : Tn} {tw dw : Int} {t : Tp}
theorem C_settle (h8 : s 1 8 = tw) (h9 : s 1 9 = dw) (hT : TOK T) (hc : CT s dw T) (hi : isT dw) : Mw g (e + 5) M_X12_settleIn [(20, 1)] s (fun _ s' => (∃ B, CX s' 48 dw T B ∧ BEG T B) ∧ (s' 1 8 = dw ∧ s' 1 9 = tw ∧ ∀ k, k ≠ 8 → k ≠ 9 → s' 1 k = s 1 k) ∧ (s' 65 1 = 0 ∧ ∀ k, k ≠ 1 → s' 65 k = s 65 k) ∧ (s' 87 0 = w32 (bShl 1 (T 1 0) - 1) ∧ s' 87 1 = 0) ∧ Fr zJs s s') := by
  have hi' := hi
  unfold isT at hi'
  refine S_X12_settleIn (fun s1 a1 s2 a2 => ?_)
  have o2 : ∀ o, o ≠ 1 → s2 o = s o := fun o q => by rw [a2, ups_at _ q, a1, ups_at _ q]
  have v8 : s2 1 8 = dw := by rw [a2, ups_k _ (by decide), a1, ups_eq]; exact h9
  have v9 : s2 1 9 = tw := by rw [a2, ups_eq]; exact h8
  have vk : ∀ k, k ≠ 8 → k ≠ 9 → s2 1 k = s 1 k := fun k p q => by rw [a2, ups_k _ q, a1, ups_k _ p]
  have c2 : CT s2 dw T := hc.fr (J := fun o => o = 1) o2 (fun o p1 p2 _ => by omega)
  rw [v8]
  refine (C_begin (e := e + 1) hT c2 (Or.inl rfl) hi).imp (fun _ s4 q4 => ?_)
  obtain ⟨B, z4, b4, f4⟩ := q4
  refine S_X1_forget (e := e + 3) (fun s6 a6 => ?_)
  have w8 : s6 1 8 = dw := by rw [a6, ups_at _ (by decide), f4 1 (by omega)]; exact v8
  rw [w8]
  refine S_X7_forget (e := e + 3) (fun _ => S_X9_homeCount (e := e + 2) (fun _ s7 a7 s8 a8 => ?_))
  have o6 : ∀ o, o ≠ 65 → s6 o = s4 o := fun o q => by rw [a6, ups_at _ q]
  have o8 : ∀ o, o ≠ 87 → s8 o = s6 o := fun o q => by rw [a8, ups_at _ q, a7, ups_at _ q]
  have x4 : CX s4 48 dw T B := z4.1
  have t1 : s6 (dw + 1) 0 = T 1 0 := by rw [o6 _ (by omega), x4.t1]
  refine ⟨⟨B, x4.fr (J := fun o => o = 65 ∨ o = 87) (fun o q => by rw [o8 o (by omega), o6 o (by omega)]) (fun o p1 p2 => by omega) (fun o p1 p2 q => by omega), b4⟩, ⟨?_, ?_, fun k p q => ?_⟩, ⟨?_, fun k p => ?_⟩, ⟨?_, ?_⟩, fun o q => ?_⟩
  · rw [o8 1 (by decide)]; exact w8
  · rw [o8 1 (by decide), o6 1 (by decide), f4 1 (by omega)]; exact v9
  · rw [o8 1 (by decide), o6 1 (by decide), f4 1 (by omega)]; exact vk k p q
  · rw [o8 65 (by decide), a6, ups_eq]
  · rw [o8 65 (by decide), a6, ups_k _ p, f4 65 (by omega), o2 65 (by decide)]
  · rw [a8, ups_k _ (by decide), a7, ups_eq, t1]
  · rw [a8, ups_eq]
  · unfold zJs at q
    rw [o8 o (by omega), o6 o (by omega), f4 o (by omega), o2 o (by omega)]
/-- the place of a fault, -1 where there is none -/
def zFp (st : Int × Int) : Int := if st.1 = 0 then -1 else st.2
def zTR (t : Tp) (stE : Int × Int) (n2 : Int) (T2 : Tn) : Prop := ∃ T1, TOK T1 ∧ TF T1 ∧ zTw T1 ∧ zEmp T1 ∧ zRun t 81 0 T1 0 stE n2 T2
theorem C_town {T0 T3 : Tn} (h8 : s 1 8 = tw) (h9 : s 1 9 = dw) (hi : isT dw) (hne : dw ≠ tw) (hw : isT tw) (hc : CT s dw T0) (hr : zRg T0) (hc3 : CT s tw T3) (ht : CTp s t.1 t.2) : Mw g (e + 78) M_X12_town [(20, 1)] s (fun r s' => ∃ stE n2 T2, zTR t stE n2 T2 ∧ s' 2 1 = 0 ∧ s' 1 10 = stE.1 ∧ s' 1 11 = zFp stE ∧ s' 1 12 = s 1 12 ∧ CT s' tw T3 ∧
    (stE.1 = 0 → r = n2 ∧ (∃ B, CX s' 48 dw T2 B ∧ BEG T2 B) ∧ TOK T2 ∧ TF T2 ∧ s' 1 8 = dw ∧ s' 1 9 = tw ∧ s' 65 1 = 0 ∧ s' 65 2 = s 65 2 ∧ s' 87 0 = w32 (bShl 1 (T2 1 0) - 1) ∧ s' 87 1 = 0 ∧ Fr (zJt dw) s s') ∧
    (stE.1 ≠ 0 → r = -1 ∧ s' 1 8 = tw ∧ s' 1 9 = dw ∧ (∃ T4, CT s' dw T4 ∧ zRg T4) ∧ s' 91 = (ups s 91 1 (w32 (s 91 1 + 1))) 91 ∧ Fr (fun o => o = 1 ∨ o = 2 ∨ o = 46 ∨ o = 47 ∨ (dw ≤ o ∧ o ≤ dw + 18) ∨ o = 91) s s')) := by
  have hi' := hi
  have hw' := hw
  unfold isT at hi' hw'
  refine S_X12_town ?_
  rw [h9]
  refine (C_pbegin (e := e + 74) hc hr hi).imp (fun _ s2 q2 => ?_)
  obtain ⟨⟨T1, c2, t2, f2, w2, z2⟩, ⟨v1, v5, v6, v7⟩, fr2⟩ := q2
  have ht2 : CTp s2 t.1 t.2 := ht.fr fr2 (by omega) (by omega)
  refine C_loop (e := e) (t := t) hi 81 0 0 s2 T1 (by decide) (by decide) (by decide) ht2 v6 v7 v5 ⟨by decide, ht.2.1.1⟩ v1 c2 t2 f2 w2 (fun stE n2 v T2 s3 zr g3 b3 fd => ?_)
  have fr3 : Fr (fun o => o = 46 ∨ o = 47 ∨ (dw ≤ o ∧ o ≤ dw + 18)) s s3 := fr2.tr fd.1
  refine S_X12_town_49 (fun s4 a4 s5 a5 s6 a6 => ?_)
  have o6 : ∀ o, o ≠ 1 → o ≠ 2 → s6 o = s3 o := fun o p q => by rw [a6, ups_at _ p, a5, ups_at _ p, a4, ups_at _ q]
  have o1 : ∀ k, k ≠ 10 → k ≠ 11 → s6 1 k = s 1 k := fun k p q => by rw [a6, ups_k _ q, a5, ups_k _ p, a4, ups_at _ (by decide), fr3 1 (by omega)]
  have o2 : s6 2 1 = 0 := by rw [a6, ups_at _ (by decide), a5, ups_at _ (by decide), a4, ups_eq]
  have w10 : s6 1 10 = s3 47 6 := by rw [a6, ups_k _ (by decide), a5, ups_eq, a4, ups_at _ (by decide)]
  have w11 : s6 1 11 = s3 47 7 := by rw [a6, ups_eq, a5, ups_at _ (by decide), a4, ups_at _ (by decide)]
  have fr6 : Fr (fun o => o = 1 ∨ o = 2 ∨ o = 46 ∨ o = 47 ∨ (dw ≤ o ∧ o ≤ dw + 18)) s s6 := fun o q => by rw [o6 o (by omega) (by omega), fr3 o (by omega)]
  have c36 : CT s6 tw T3 := hc3.fr fr6 (fun o p1 p2 _ => by omega)
  by_cases z : stE.1 = 0
  · obtain ⟨g1, g2, g3, g4, g5, g6, g7⟩ := g3 z
    refine ⟨fun _ => ?_, fun u => absurd (by rw [w10]; exact g2) u⟩
    have c6 : CT s6 dw T2 := g4.fr (J := fun o => o = 1 ∨ o = 2) (fun o q => o6 o (by omega) (by omega)) (fun o p1 p2 _ => by omega)
    refine (C_settle (e := e + 72) (tw := tw) (by rw [o1 8 (by decide) (by decide)]; exact h8) (by rw [o1 9 (by decide) (by decide)]; exact h9) g5 c6 hi).imp (fun _ s7 q7 => ?_)
    obtain ⟨m1, m2, m3, m4, m5⟩ := q7
    have zp : zFp stE = -1 := by unfold zFp; rw [if_pos z]
    refine ⟨stE, n2, T2, ⟨T1, t2, f2, w2, z2, zr⟩, ?_, ?_, ?_, ?_, ?_, fun _ => ⟨g1, m1, g5, g6, m2.1, m2.2.1, m3.1, ?_, m4.1, m4.2, fun o q => ?_⟩, fun u => absurd z u⟩
    · rw [m5 2 (by unfold zJs; omega)]; exact o2
    · rw [m2.2.2 10 (by decide) (by decide), w10, g2, z]
    · rw [m2.2.2 11 (by decide) (by decide), w11, g3, zp]
    · rw [m2.2.2 12 (by decide) (by decide), o1 12 (by decide) (by decide)]
    · exact c36.fr m5 (fun o p1 p2 _ => by unfold zJs; omega)
    · rw [m3.2 2 (by decide), fr6 65 (by omega)]
    · unfold zJt at q
      have q1 : ¬ zJs o := fun u => q (Or.inl u)
      rw [m5 o q1]
      unfold zJs at q1
      exact fr6 o (by omega)
  · obtain ⟨b1, b2, T4, c4, r4⟩ := b3 z
    have zp : zFp stE = stE.2 := by unfold zFp; rw [if_neg z]
    refine ⟨fun u => absurd (by rw [← b1, ← w10]; exact u) z, fun _ => S_X12_refuse (e := e + 76) (fun _ => ⟨⟨by decide, by decide⟩, ⟨by decide, by decide⟩, fun s7 a7 => ?_⟩)⟩
    have o7 : ∀ o, o ≠ 91 → s7 o = s6 o := fun o q => by rw [a7, ups_at _ q]
    refine ⟨stE, n2, T2, ⟨T1, t2, f2, w2, z2, zr⟩, ?_, ?_, ?_, ?_, ?_, fun u => absurd u z, fun _ => ⟨rfl, ?_, ?_, ⟨T4, ?_, r4⟩, ?_, fun o q => ?_⟩⟩
    · rw [o7 2 (by decide)]; exact o2
    · rw [o7 1 (by decide), w10, b1]
    · rw [o7 1 (by decide), w11, b2, zp]
    · rw [o7 1 (by decide), o1 12 (by decide) (by decide)]
    · exact c36.fr (J := fun o => o = 91) o7 (fun o p1 p2 _ => by omega)
    · rw [o7 1 (by decide), o1 8 (by decide) (by decide)]; exact h8
    · rw [o7 1 (by decide), o1 9 (by decide) (by decide)]; exact h9
    · exact c4.fr (J := fun o => o = 1 ∨ o = 2 ∨ o = 91) (fun o q => by rw [o7 o (by omega), o6 o (by omega) (by omega)]) (fun o p1 p2 _ => by omega)
    · have k : s6 91 = s 91 := fr6 91 (by omega)
      rw [a7]
      unfold ups
      rw [k]
    · rw [o7 o (by omega), fr6 o (by omega)]
end CTOWN
