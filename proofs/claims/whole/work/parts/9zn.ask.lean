/-! each question is answered alike -/
def zPr (g : GT) (M N : MI) (as : List AV) : Prop := ∀ s, zIV s → Mw g 100 M ((20, 1) :: as) s (fun r s1 => Mw g 100 N ((21, 92) :: as) s1 (fun r2 s2 => r = r2 ∧ zIV s2))
def zQl (s s2 : Sg) : Prop := zQr s s2 ∧ ∀ o, o < 92 → s2 o = s o
section ASKS
variable {g : GT} {s s1 s2 : Sg} {a c d f h n w k : Int}
theorem zQl.rf : zQl s s := ⟨zQr.rf, fun _ _ => rfl⟩
theorem Fp.zl (q : Fp 1 s s2) : zQl s s2 := ⟨q.zq, fun o p => q.1 o (by omega) (by omega)⟩
theorem zL_jm (q : Fr Jm s s2) : zQl s s2 := ⟨zQ_jm q, fun o p => q o (by unfold Jm; omega)⟩
theorem zL_jn (q : Fr Jn s s2) : zQl s s2 := ⟨zQ_jn q, fun o p => q o (by unfold Jn Jm; omega)⟩
theorem Fl.zl (q : Fl s s2) : zQl s s2 := ⟨q.zq, fun o p => q.1 o (by omega) (by omega) (by omega) (by omega)⟩
theorem Fq.zl (q : Fq s s2) : zQl s s2 := ⟨q.zq, fun o p => q.1 o (by omega) (by omega) (by omega) (by omega) (by omega)⟩
theorem zQc_hi (q : Fr zQc s s1) : ∀ o, 92 ≤ o → s1 o = s o := fun o p => q o (fun u => by unfold zQc Jk at u; omega)
theorem zQ_jw (q : Fr (Jw 58) s s1) : Fr zQc s s1 := q.wk (fun o u => by unfold Jw at u; unfold zQc; rcases u with u | u; exact Or.inr (Or.inl (by omega)); exact Or.inl u)
theorem zQ_jk (q : Fr Jk s s1) : Fr zQc s s1 := q.wk (fun o u => Or.inl u)
theorem zQ_js (q : Fr Js s s1) : Fr zQc s s1 := q.wk (fun o u => by unfold Js at u; unfold zQc; rcases u with u | u; exact Or.inl u; exact Or.inr (Or.inr u))
theorem zQ_jo (q : Fr Jo s s1) : Fr zQc s s1 := q.wk (fun o u => by
  unfold Jo Jw at u; unfold zQc
  rcases u with (u | u) | u
  · exact Or.inr (Or.inl (by omega))
  · exact Or.inl u
  · exact Or.inr (Or.inl (by omega)))
/-- a question: both answer x -/
theorem zPr_q {M N : MI} {as : List AV} (H : ∀ s tw b T A u U, zIV s → CS s tw T A u U → RS s b T A u U → ∃ x, Mw g 100 M ((20, 1) :: as) s (fun r s1 => r = x ∧ Fr zQc s s1) ∧ ∀ s1, Fr zQc s s1 → zIV s1 → RS s1 b T A u U → Mw g 100 N ((21, 92) :: as) s1 (fun r s2 => r = x ∧ zQl s1 s2)) : zPr g M N as := by
  intro s hi
  obtain ⟨tw, b, T, ⟨A, u, U, hc, hr⟩, _⟩ := id hi
  obtain ⟨x, h1, h2⟩ := H s tw b T A u U hi hc hr
  refine h1.imp (fun r s1 q => ?_)
  have i1 : zIV s1 := hi.q q.2 zQr.rf (fun _ _ => rfl)
  refine (h2 s1 q.2 i1 (hr.sm (zQc_hi q.2))).imp (fun r2 s2 q2 => ⟨q.1.trans q2.1.symm, hi.q q.2 q2.2.1 q2.2.2⟩)
theorem Mw.xq {d : Nat} {M : MI} {args : List AV} {s : Sg} {v : Int} (q : Mw g d M args s (Ex v s)) : Mw g d M args s (fun r s1 => r = v ∧ Fr zQc s s1) := q.imp (fun r s2 e => ⟨e.1, by rw [e.2]; exact Fr.rf⟩)
theorem Mw.xl {d : Nat} {M : MI} {args : List AV} {s : Sg} {v : Int} (q : Mw g d M args s (Ex v s)) : Mw g d M args s (fun r s1 => r = v ∧ zQl s s1) := q.imp (fun r s2 e => ⟨e.1, by rw [e.2]; exact zQl.rf⟩)
theorem P_home : zPr g M_X12_home M_X13_home [(0, h), (0, w)] := zPr_q (fun s tw b T A u U hi hc hr => ⟨hoS T A h w, (C_home (e := 97) hc.1 hc.2.1).xq, fun s1 f1 _ hr1 => (R_home (e := 98) hr1.1.1).xl⟩)
theorem P_child : zPr g M_X12_child M_X13_child [(0, c), (0, w)] := zPr_q (fun s tw b T A u U hi hc hr => ⟨chS T A c w, (C_child (e := 97) hc.1 hc.2.1).xq, fun s1 f1 _ hr1 => (R_child (e := 97) hr1.1.1 hr1.2.1).xl⟩)
theorem P_stone : zPr g M_X12_stone M_X13_stone [(0, c), (0, w)] := zPr_q (fun s tw b T A u U hi hc hr => ⟨snS T A c w, (C_stone (e := 96) hc.1 hc.2.1 hc.2.2.1).xq, fun s1 f1 _ hr1 => (R_stone (e := 96) hr1.1.1 hr1.2.1).xl⟩)
theorem P_wall : zPr g M_X12_wall M_X13_wall [(0, w), (0, k)] := zPr_q (fun s tw b T A u U hi hc hr => ⟨waS T A w k, (C_wall (e := 97) hc.1 hc.2.1 hc.2.2.1).xq, fun s1 f1 _ hr1 => (R_wall (e := 97) hr1.1.1 hr1.2.1).xl⟩)
theorem P_at : zPr g M_X12_at M_X13_at [(0, w), (0, k), (0, n)] := zPr_q (fun s tw b T A u U hi hc hr => ⟨atS T A w k n, (C_at (e := 97) hc.1 hc.2.1).xq, fun s1 f1 _ hr1 => (R_at (e := 97) hr1.1.1 hr1.2.1).xl⟩)
theorem P_kept : zPr g M_X12_kept M_X13_kept [(0, k), (0, w)] := zPr_q (fun s tw b T A u U hi hc hr => ⟨keS A k w, (C_kept (e := 99) hc.2.1 (hr.1.2 trivial).ok).xq, fun s1 f1 _ hr1 => (R_kept (e := 98) hr1.1).xl⟩)
theorem P_later : zPr g M_X12_later M_X13_later [(0, n), (0, w)] := zPr_q (fun s tw b T A u U hi hc hr => ⟨laS T (A 0 1) (A0S A) n w, (C_later (e := 92) hc.2.1 hc.2.2.1 hc.2.2.2.1).imp (fun r s1 q => ⟨q.1, zQ_jw q.2⟩), fun s1 f1 _ hr1 => (R_later (e := 91) hr1.1.1 hr1.2.1 (A0_wee hr1.2.1)).imp (fun r s2 q => ⟨q.1, q.2.zl⟩)⟩)
theorem P_built : zPr g M_X12_built M_X13_built [(0, c)] := zPr_q (fun s tw b T A u U hi hc hr => ⟨buS T (A 0 1) (A0S A) c, (C_built (e := 92) hc.1 hc.2.1 hc.2.2.1 hc.2.2.2.1 hc.2.2.2.2.1).imp (fun r s1 q => ⟨q.1, zQ_jw q.2⟩), fun s1 f1 _ hr1 => (R_built (e := 91) hr1.1.1 hr1.2.1 (A0_wee hr1.2.1) hr1.2.2.1).imp (fun r s2 q => ⟨q.1, q.2.zl⟩)⟩)
theorem P_down : zPr g M_X12_down M_X13_down [(0, c)] := zPr_q (fun s tw b T A u U hi hc hr => ⟨doS T (A0S A) c, (C_down (e := 93) hc.1 hc.2.1 hc.2.2.1).imp (fun r s1 q => ⟨q.1, zQ_jw q.2⟩), fun s1 f1 _ hr1 => (R_down (e := 93) hr1.1.1 hr1.2.1 (A0_wee hr1.2.1)).imp (fun r s2 q => ⟨q.1, q.2.zl⟩)⟩)
theorem P_strongest : zPr g M_X12_strongest M_X13_strongest [(0, c), (0, w)] := zPr_q (fun s tw b T A u U hi hc hr => ⟨stS T A c w, (C_strongest (e := 93) hc.1 hc.2.1 hc.2.2.1 hc.2.2.2.1).imp (fun r s1 q => ⟨q.1, zQ_jk q.2⟩), fun s1 f1 _ hr1 => (R_strongest (e := 95) hr1.1.1 hr1.2.1).imp (fun r s2 q => ⟨q.1, zL_jm q.2⟩)⟩)
theorem P_reconcile : zPr g M_X12_reconcile M_X13_reconcile [(0, n), (0, w)] := zPr_q (fun s tw b T A u U hi hc hr => ⟨rcS T A n w, (C_reconcile (e := 92) hc.1 hc.2.1 hc.2.2.1 hc.2.2.2.1).imp (fun r s1 q => ⟨q.1, zQ_jw q.2⟩), fun s1 f1 _ hr1 => (R_reconcile (e := 91) hr1.1.1 hr1.2.1).imp (fun r s2 q => ⟨q.1, q.2.zl⟩)⟩)
theorem P_props : zPr g M_X12_props M_X13_props [(0, w)] := zPr_q (fun s tw b T A u U hi hc hr => ⟨prS T A w, (C_props (e := 95) hc.1 hc.2.1 hc.2.2.1).xq, fun s1 f1 _ hr1 => (R_props (e := 96) hr1.1.1 hr1.2.1).imp (fun r s2 q => ⟨q.1, q.2.zl⟩)⟩)
theorem P_pulling : zPr g M_X12_pulling M_X13_pulling [(0, w)] := zPr_q (fun s tw b T A u U hi hc hr => ⟨pgS T A w, (C_pulling (e := 86) hc.1 hc.2.1 hc.2.2.1).imp (fun r s1 q => ⟨q.1, zQ_jw q.2⟩), fun s1 f1 _ hr1 => (R_pulling (e := 93) hr1.1.1 hr1.2.1).imp (fun r s2 q => ⟨q.1, q.2.zl⟩)⟩)
theorem P_order : zPr g M_X12_order M_X13_order [(0, k)] := zPr_q (fun s tw b T A u U hi hc hr => ⟨odS T A k, (C_order (e := 86) hc.2.1 hc.2.2.1 hc.2.2.2.1).imp (fun r s1 q => ⟨q.1, zQ_jo q.2⟩), fun s1 f1 _ hr1 => (R_order (e := 92) hr1.1.1 hr1.2.1).imp (fun r s2 q => ⟨q.1, q.2.zl⟩)⟩)
end ASKS
