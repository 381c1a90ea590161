/-! acts: keeps and undo of the reference; refusals -/
/-- the reference's undo worlds -/
def UR (s : Sg) (b : Int) (T : Tn) (u : Int) (U : Int → Wd) : Prop := s 92 59 = u ∧ (0 ≤ u ∧ u ≤ 20) ∧ (0 ≤ s 92 58 ∧ s 92 58 < 20) ∧ ∀ i, 0 ≤ i → i < u → RZ True s (3 + (s 92 58 + i) % 20) b T (U i)
/-- nothing of the reference has changed but its worlds, scratch, and some fields -/
def Fg (J : Int → Prop) (s s2 : Sg) : Prop := (∀ o, (o < 122 ∨ 132 < o) → o ≠ 92 → s2 o = s o) ∧ ∀ k, ¬ J k → s2 92 k = s 92 k
theorem Fg.rf {J : Int → Prop} {s : Sg} : Fg J s s := ⟨fun _ _ _ => rfl, fun _ _ => rfl⟩
theorem Fg.tr {J : Int → Prop} {s s2 s3 : Sg} (h : Fg J s s2) (h2 : Fg J s2 s3) : Fg J s s3 := ⟨fun o o1 o2 => (h2.1 o o1 o2).trans (h.1 o o1 o2), fun k hk => (h2.2 k hk).trans (h.2 k hk)⟩
theorem Fg.wk {J K : Int → Prop} {s s2 : Sg} (h : Fg J s s2) (hk : ∀ k, J k → K k) : Fg K s s2 := ⟨h.1, fun k q => h.2 k (fun z => q (hk k z))⟩
theorem Fg.fm {J : Int → Prop} {v : Int} {s s2 : Sg} (h : Fm v s s2) : Fg J s s2 := ⟨h.1, fun k _ => by rw [h.2.1]⟩
theorem Fg.fp {J : Int → Prop} {v : Int} {s s2 : Sg} (h : Fp v s s2) (h63 : J 63) (h64 : J 64) : Fg J s s2 := ⟨h.1, fun k hk => h.2.1 k (fun z => hk (z ▸ h63)) (fun z => hk (z ▸ h64))⟩
theorem Fg.up {J : Int → Prop} {k x : Int} {s : Sg} (h : J k) : Fg J s (ups s 92 k x) := ⟨fun o _ o2 => ups_at _ o2, fun j hj => ups_k _ (fun z => hj (z ▸ h))⟩
section KEEPS
variable {T : Tn} {A : Wd} {g : GT} {e : Nat} {s : Sg} {b u v : Int} {U : Int → Wd} {K : Prop}
theorem RZ.fld {k x : Int} (h : RZ K s v b T A) (hk : k ≠ 13) : RZ K (ups s 92 k x) v b T A := by
  have es : ∀ o, o ≠ 92 → ups s 92 k x o = s o := fun o ho => ups_at _ ho
  refine ⟨⟨⟨by rw [ups_k _ (by omega)]; exact h.1.bk, h.1.b2, h.1.rt.fr (J := fun o => o = 92) (Fr.up rfl) (fun o o1 o2 => by omega), h.1.1.2.2.2⟩, h.1.2.1, ?_⟩, fun k => ?_⟩
  · unfold RW
    rw [es 122 (by decide), es 123 (by decide), es 124 (by decide), es 125 (by decide), es 126 (by decide), es 127 (by decide), es 128 (by decide), es 129 (by decide)]
    exact h.1.2.2
  · unfold RK
    rw [es 129 (by decide), es 130 (by decide)]
    exact h.2 k
theorem RZ.oth {o x i : Int} (h : RZ K s v b T A) (ho : o ≠ 92) (h1 : o < 94 ∨ (111 < o ∧ o < 122) ∨ 130 < o) : RZ K (ups s o i x) v b T A := by
  have es : ∀ a, a ≠ o → ups s o i x a = s a := fun a ha => ups_at _ ha
  refine ⟨⟨⟨by rw [es 92 (by omega)]; exact h.1.bk, h.1.b2, h.1.rt.fr (J := fun a => a = o) (Fr.up rfl) (fun a a1 a2 => by omega), h.1.1.2.2.2⟩, h.1.2.1, ?_⟩, fun k => ?_⟩
  · unfold RW
    rw [es 122 (by omega), es 123 (by omega), es 124 (by omega), es 125 (by omega), es 126 (by omega), es 127 (by omega), es 128 (by omega), es 129 (by omega)]
    exact h.1.2.2
  · unfold RK
    rw [es 129 (by omega), es 130 (by omega)]
    exact h.2 k
theorem UR.fld {k x : Int} (h : UR s b T u U) (hk : k ≠ 13) (h58 : k ≠ 58) (h59 : k ≠ 59) : UR (ups s 92 k x) b T u U := by
  obtain ⟨u1, u2, u3, u4⟩ := h
  refine ⟨by rw [ups_k _ (by omega)]; exact u1, u2, by rw [ups_k _ (by omega)]; exact u3, fun i i0 i1 => ?_⟩
  rw [ups_k _ (by omega)]
  exact (u4 i i0 i1).fld hk
theorem UR.oth {o x i : Int} (h : UR s b T u U) (ho : o ≠ 92) (h1 : o < 94 ∨ (111 < o ∧ o < 122) ∨ 130 < o) : UR (ups s o i x) b T u U := by
  obtain ⟨u1, u2, u3, u4⟩ := h
  refine ⟨by rw [ups_at _ (by omega)]; exact u1, u2, by rw [ups_at _ (by omega)]; exact u3, fun i i0 i1 => ?_⟩
  rw [ups_at _ (by omega)]
  exact (u4 i i0 i1).oth ho h1
/-- the undo worlds stay where another world changes -/
theorem UR.fp {s2 : Sg} (h : UR s b T u U) (hO : UOK T u U) (hf : Fp v s s2) (hv : 0 ≤ v) (hv3 : v < 3) : UR s2 b T u U := by
  obtain ⟨u1, u2, u3, u4⟩ := h
  have e58 : s2 92 58 = s 92 58 := hf.2.1 58 (by decide) (by decide)
  refine ⟨by rw [hf.2.1 59 (by decide) (by decide)]; exact u1, u2, by rw [e58]; exact u3, fun i i0 i1 => ?_⟩
  rw [e58]
  exact (u4 i i0 i1).fp hf (by omega) (fun _ => (hO i i0 i1).1.1.2.2.1.2)
theorem R_slot {k : Int} (h0 : 0 ≤ s 92 58) (h1 : s 92 58 < 20) (k0 : 0 ≤ k) (k1 : k ≤ 20) : Mw g (e + 1) M_X13_slot [(21, 92), (0, k)] s (Ex (3 + (s 92 58 + k) % 20) s) := by
  refine S_X13_slot (fun _ => ⟨?_, rfl⟩)
  rw [w32_of (show _ ≤ s 92 58 + k by omega) (by omega), tm_of (by omega), w32_of (by omega) (by omega)]
theorem R_keeps (h : RZ True s 0 b T A) (hU : UR s b T u U) (hW : WOK T A) (hO : UOK T u U) : Mw g (e + 2) M_X13_keeps [(21, 92)] s (fun _ s' => RZ True s' 0 b T A ∧ UR s' b T (puN u) (puU u U A) ∧ Fg (fun k => k = 58 ∨ k = 59) s s') := by
  have a9 := hW.1.2.2.1
  obtain ⟨u1, u2, u3, u4⟩ := hU
  have h32 : ∀ (s1 : Sg) (u' fi : Int) (V : Int → Wd), RZ True s1 0 b T A → Fg (fun k => k = 58 ∨ k = 59) s s1 → s1 92 59 = u' → s1 92 58 = fi → 0 ≤ u' → u' < 20 → 0 ≤ fi → fi < 20 → (∀ i, 0 ≤ i → i < u' → RZ True s1 (3 + (fi + i) % 20) b T (V i) ∧ V i 0 9 ≤ 60) → u' + 1 = puN u → (∀ i, 0 ≤ i → i < u' → puU u U A i = V i) → puU u U A u' = A →
      P_X13_keeps_32 g (e + 1) (fun _ s' => RZ True s' 0 b T A ∧ UR s' b T (puN u) (puU u U A) ∧ Fg (fun k => k = 58 ∨ k = 59) s s') s1 := by
    intro s1 u' fi V h1 f1 e59 e58 u0 u20 fi0 fi1 hV hn hp1 hp2
    refine S_X13_keeps_32 ?_
    rw [e59]
    refine Mw.ex (R_slot (by omega) (by omega) u0 (by omega)) ?_
    rw [e58]
    refine (R_copies h1 (by omega) (by omega) (by omega) (fun _ => a9.2)).imp (fun _ s4 h4 s5 e5 => ?_)
    have q59 : s4 92 59 = u' := by rw [h4.2.2.1]; exact e59
    have q58 : s4 92 58 = fi := by rw [h4.2.2.1]; exact e58
    rw [q59, w32_of (by omega) (by omega)] at e5
    refine ⟨?_, ⟨?_, ?_, ?_, fun i i0 i1 => ?_⟩, ?_⟩
    · rw [e5]; exact (h1.fp (Fp.of h4.2) (by omega) (fun _ => a9.2)).fld (by decide)
    · rw [e5, ups_eq]; exact hn
    · unfold puN; split <;> omega
    · rw [e5, ups_k _ (by decide), q58]; omega
    · rw [e5, ups_k _ (by decide), q58]
      by_cases z : i = u'
      · rw [z, hp2]; exact h4.1.fld (by decide)
      · rw [hp1 i i0 (by omega)]
        have hv := hV i i0 (by omega)
        exact (hv.1.fp (Fp.of h4.2) (by omega) (fun _ => hv.2)).fld (by decide)
    · rw [e5]; exact (f1.tr (Fg.fm h4.2)).tr (Fg.up (Or.inr rfl))
  refine S_X13_keeps ?_
  rw [u1]
  refine ⟨fun q => h32 s u (s 92 58) U h Fg.rf u1 rfl u2.1 (by omega) u3.1 u3.2 (fun i i0 i1 => ⟨u4 i i0 i1, (hO i i0 i1).1.1.2.2.1.2⟩) ?_ ?_ ?_, fun q s1 e1 s2 e2 => ?_⟩
  · unfold puN; rw [if_pos (by omega)]
  · intro i i0 i1; unfold puU; rw [if_pos (by omega), if_neg (by omega)]
  · unfold puU; rw [if_pos (by omega), if_pos rfl]
  · rw [w32_of (by omega) (by omega), tm_of (by omega)] at e1
    have q59 : s1 92 59 = u := by rw [e1, ups_k _ (by decide)]; exact u1
    rw [q59, w32_of (by omega) (by omega)] at e2
    have f2 : Fg (fun k => k = 58 ∨ k = 59) s s2 := by rw [e2, e1]; exact (Fg.up (Or.inl rfl)).tr (Fg.up (Or.inr rfl))
    have q58 : s2 92 58 = (s 92 58 + 1) % 20 := by rw [e2, ups_k _ (by decide), e1, ups_eq]
    refine h32 s2 (u - 1) ((s 92 58 + 1) % 20) (fun i => U (i + 1)) ?_ f2 (by rw [e2, ups_eq]) q58 (by omega) (by omega) (by omega) (by omega) (fun i i0 i1 => ?_) ?_ ?_ ?_
    · rw [e2, e1]; exact (h.fld (by decide)).fld (by decide)
    · have := u4 (i + 1) (by omega) (by omega)
      rw [show ((s 92 58 + 1) % 20 + i) % 20 = (s 92 58 + (i + 1)) % 20 by omega]
      refine ⟨?_, (hO (i + 1) (by omega) (by omega)).1.1.2.2.1.2⟩
      rw [e2, e1]; exact (this.fld (by decide)).fld (by decide)
    · unfold puN; rw [if_neg (by omega)]; omega
    · intro i i0 i1; unfold puU; rw [if_neg (by omega), if_neg (by omega)]
    · unfold puU; rw [if_neg (by omega), if_pos (by omega)]
theorem UOK.pu (hO : UOK T u U) (hW : WOK T A) (hy : A 0 1 ≤ 999) (u2 : u ≤ 20) : UOK T (puN u) (puU u U A) := by
  intro i i0 i1
  unfold puN at i1
  unfold puU
  by_cases z : u < 20
  · rw [if_pos z] at i1
    rw [if_pos z]
    by_cases y : i = u
    · rw [if_pos y]; exact ⟨hW, hy⟩
    · rw [if_neg y]; exact hO i i0 (by omega)
  · rw [if_neg z] at i1
    rw [if_neg z]
    by_cases y : i = 19
    · rw [if_pos y]; exact ⟨hW, hy⟩
    · rw [if_neg y]; exact hO (i + 1) (by omega) (by omega)
theorem R_refuses {k : Int} (k0 : 0 ≤ k) (k6 : k < 6) : Mw g (e + 1) M_X13_refuses [(21, 92), (0, k)] s (Ex (-1) (ups s 121 k (w32 (s 121 k + 1)))) := by
  refine S_X13_refuses (fun _ => ⟨⟨k0, k6⟩, ⟨k0, k6⟩, fun s1 e1 => ⟨rfl, e1⟩⟩)
theorem C_refuse {k : Int} (k0 : 0 ≤ k) (k6 : k < 6) : Mw g (e + 1) M_X12_refuse [(20, 1), (0, k)] s (Ex (-1) (ups s 91 k (w32 (s 91 k + 1)))) := by
  refine S_X12_refuse (fun _ => ⟨⟨k0, k6⟩, ⟨k0, k6⟩, fun s1 e1 => ⟨rfl, e1⟩⟩)
theorem R_undo (h : RZ True s 0 b T A) (hU : UR s b T u U) (hO : UOK T u U) : Mw g (e + 2) M_X13_undo [(21, 92)] s (fun r s' => (u = 0 → r = 0 ∧ s' = ups s 121 4 (w32 (s 121 4 + 1))) ∧ (u ≠ 0 → r = 1 ∧ RZ True s' 0 b T (U (u - 1)) ∧ UR s' b T (u - 1) U ∧ Fg (fun k => k = 58 ∨ k = 59) s s')) := by
  obtain ⟨u1, u2, u3, u4⟩ := hU
  refine S_X13_undo ?_
  rw [u1]
  refine ⟨fun q s1 e1 => ?_, fun q => Mw.ex (R_refuses (by decide) (by decide)) ⟨fun _ => ⟨fun _ => ⟨rfl, rfl⟩, fun z => absurd q z⟩, fun z => absurd (by decide) z⟩⟩
  rw [w32_of (by omega) (by omega)] at e1
  have q58 : s1 92 58 = s 92 58 := by rw [e1, ups_k _ (by decide)]
  have q59 : s1 92 59 = u - 1 := by rw [e1, ups_eq]
  rw [q59]
  refine Mw.ex (R_slot (by omega) (by omega) (by omega) (by omega)) ?_
  rw [q58]
  have h1 : ∀ i, 0 ≤ i → i < u → RZ True s1 (3 + (s 92 58 + i) % 20) b T (U i) := fun i i0 i1 => by rw [e1]; exact (u4 i i0 i1).fld (by decide)
  refine (R_copies (h1 (u - 1) (by omega) (by omega)) (by decide) (by decide) (by omega) (fun _ => (hO (u - 1) (by omega) (by omega)).1.1.2.2.1.2)).imp (fun _ s5 h5 => ⟨fun z => absurd z q, fun _ => ⟨rfl, h5.1, ⟨?_, by omega, ?_, fun i i0 i1 => ?_⟩, ?_⟩⟩)
  · rw [h5.2.2.1]; exact q59
  · rw [h5.2.2.1, q58]; exact u3
  · rw [h5.2.2.1, q58]
    exact (h1 i i0 (by omega)).fp (Fp.of h5.2) (by omega) (fun _ => (hO i i0 (by omega)).1.1.2.2.1.2)
  · refine Fg.tr ?_ (Fg.fm h5.2)
    rw [e1]; exact Fg.up (Or.inr rfl)
theorem RZ.weqk {B : Wd} (h : RZ True s v b T A) (hE : WEq A B) (h9 : B 0 9 = A 0 9) (h6 : ∀ k, 0 ≤ k → k < A 0 9 → B 6 k = A 6 k) : RZ True s v b T B := by
  have b8 := h.1.ok.2.1
  refine ⟨⟨h.1.1, h.1.2.1, h.1.2.2.eq hE.1 hE.2.1 (fun c c0 c1 => hE.2.2.1 c c0 (by omega))⟩, fun _ => ?_⟩
  obtain ⟨r1, r2⟩ := h.2 trivial
  refine ⟨by rw [h9]; exact r1, fun k k0 k1 => ?_⟩
  rw [h9] at k1
  rw [h6 k k0 k1]
  exact r2 k k0 k1
end KEEPS
