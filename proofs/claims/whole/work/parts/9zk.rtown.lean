/-! the reference settles in a town -/
/-- the world 0 begins -/
def zBg (s : Sg) (c : Int) : Prop := s 122 0 = 0 ∧ s 123 0 = 0 ∧ s 129 0 = 0 ∧ ∀ v, 0 ≤ v → v < 8 → s 124 v = s 98 (8 * c + v) ∧ s 125 v = 0 ∧ s 126 v = -1 ∧ s 127 v = 0 ∧ s 128 v = 0
section RTOWN
variable {g : GT} {e : Nat} {s : Sg} {c b : Int} {t : Tp}
theorem R_begin_l (c2 : c = 0 ∨ c = 1) {Q : Int → Sg → Prop} : ∀ (m : Nat) (v : Int) (s : Sg), 0 ≤ v → v + m = 8 → s 92 13 = c → s 122 0 = 0 → s 123 0 = 0 → (∀ j, 0 ≤ j → j < v → s 124 j = s 98 (8 * c + j) ∧ s 125 j = 0 ∧ s 126 j = -1 ∧ s 127 j = 0 ∧ s 128 j = 0) →
    (∀ s', zBg s' c → s' 92 59 = 0 ∧ s' 92 68 = 0 ∧ s' 92 69 = 0 → (∀ k, k ≠ 59 → k ≠ 68 → k ≠ 69 → s' 92 k = s 92 k) → (∀ o, o ≠ 92 → (o < 122 ∨ 129 < o) → s' o = s o) → Q 0 s') → P_X13_begin_16 g e Q s v := by
  intro m
  induction m with
  | zero =>
    intro v s v0 vm h13 h2 h3 hj hq
    refine S_X13_begin_16 ⟨fun _ s1 a1 s2 a2 s3 a3 s4 a4 => ?_, fun u => absurd (by omega) u⟩
    have o4 : ∀ o, o ≠ 92 → o ≠ 129 → s4 o = s o := fun o p q => by rw [a4, ups_at _ p, a3, ups_at _ p, a2, ups_at _ p, a1, ups_at _ q]
    refine hq s4 ⟨?_, ?_, ?_, fun j j0 j8 => ?_⟩ ⟨?_, ?_, ?_⟩ (fun k p1 p2 p3 => ?_) (fun o p q => o4 o p (by omega))
    · rw [o4 122 (by decide) (by decide)]; exact h2
    · rw [o4 123 (by decide) (by decide)]; exact h3
    · rw [a4, ups_at _ (by decide), a3, ups_at _ (by decide), a2, ups_at _ (by decide), a1, ups_eq]
    · rw [o4 124 (by decide) (by decide), o4 125 (by decide) (by decide), o4 126 (by decide) (by decide), o4 127 (by decide) (by decide), o4 128 (by decide) (by decide), o4 98 (by decide) (by decide)]
      exact hj j j0 (by omega)
    · rw [a4, ups_k _ (by decide), a3, ups_k _ (by decide), a2, ups_eq]
    · rw [a4, ups_k _ (by decide), a3, ups_eq]
    · rw [a4, ups_eq]
    · rw [a4, ups_k _ p3, a3, ups_k _ p2, a2, ups_k _ p1, a1, ups_at _ (by decide)]
  | succ m ih =>
    intro v s v0 vm h13 h2 h3 hj hq
    refine S_X13_begin_16 ⟨fun u => by omega, fun _ => ?_⟩
    rw [h13, w32_of (show _ ≤ 8 * c by omega) (by omega), w32_of (show _ ≤ 8 * c + v by omega) (by omega), w32_of (show _ ≤ v + 1 by omega) (by omega)]
    refine ⟨by omega, by omega, fun s5 a5 => ⟨by omega, fun s6 a6 => ⟨by omega, fun s7 a7 => ⟨by omega, fun s8 a8 => ⟨by omega, fun s9 a9 => ?_⟩⟩⟩⟩⟩
    have o9 : ∀ o, (o < 124 ∨ 128 < o) → s9 o = s o := fun o p => by rw [a9, ups_at _ (by omega), a8, ups_at _ (by omega), a7, ups_at _ (by omega), a6, ups_at _ (by omega), a5, ups_at _ (by omega)]
    have e4 : s9 124 = (ups s 124 v (s 98 (8 * c + v))) 124 := by rw [a9, ups_at _ (by decide), a8, ups_at _ (by decide), a7, ups_at _ (by decide), a6, ups_at _ (by decide), a5]
    have e5 : s9 125 = (ups s5 125 v 0) 125 := by rw [a9, ups_at _ (by decide), a8, ups_at _ (by decide), a7, ups_at _ (by decide), a6]
    have e6 : s9 126 = (ups s6 126 v (-1)) 126 := by rw [a9, ups_at _ (by decide), a8, ups_at _ (by decide), a7]
    have e7 : s9 127 = (ups s7 127 v 0) 127 := by rw [a9, ups_at _ (by decide), a8]
    have e8 : s9 128 = (ups s8 128 v 0) 128 := by rw [a9]
    have k5 : s5 125 = s 125 := by rw [a5, ups_at _ (by decide)]
    have k6 : s6 126 = s 126 := by rw [a6, ups_at _ (by decide), a5, ups_at _ (by decide)]
    have k7 : s7 127 = s 127 := by rw [a7, ups_at _ (by decide), a6, ups_at _ (by decide), a5, ups_at _ (by decide)]
    have k8 : s8 128 = s 128 := by rw [a8, ups_at _ (by decide), a7, ups_at _ (by decide), a6, ups_at _ (by decide), a5, ups_at _ (by decide)]
    refine ih (v + 1) s9 (by omega) (by omega) (by rw [o9 92 (by decide)]; exact h13) (by rw [o9 122 (by decide)]; exact h2) (by rw [o9 123 (by decide)]; exact h3) (fun j j0 j1 => ?_) (fun s' q1 q2 q3 q4 => hq s' q1 q2 (fun k p1 p2 p3 => by rw [q3 k p1 p2 p3, o9 92 (by decide)]) (fun o p q => by rw [q4 o p q, o9 o (by omega)]))
    rw [e4, e5, e6, e7, e8, o9 98 (by decide)]
    by_cases u : j = v
    · rw [u, ups_eq, ups_eq, ups_eq, ups_eq, ups_eq]
      exact ⟨rfl, rfl, rfl, rfl, rfl⟩
    · rw [ups_k _ u, ups_k _ u, ups_k _ u, ups_k _ u, ups_k _ u, k5, k6, k7, k8]
      exact hj j j0 (by omega)
theorem R_begin (h13 : s 92 13 = c) (c2 : c = 0 ∨ c = 1) : Mw g (e + 1) M_X13_begin [(21, 92)] s (fun _ s' => zBg s' c ∧ (s' 92 59 = 0 ∧ s' 92 68 = 0 ∧ s' 92 69 = 0) ∧ (∀ k, k ≠ 59 → k ≠ 68 → k ≠ 69 → s' 92 k = s 92 k) ∧ (∀ o, o ≠ 92 → (o < 122 ∨ 129 < o) → s' o = s o)) := by
  refine S_X13_begin (fun s1 a1 s2 a2 => R_begin_l c2 8 0 s2 (by decide) (by decide) ?_ ?_ ?_ (fun j j0 j1 => by omega) (fun s' q1 q2 q3 q4 => ⟨q1, q2, fun k p1 p2 p3 => ?_, fun o p q => ?_⟩))
  · rw [a2, ups_at _ (by decide), a1, ups_at _ (by decide)]; exact h13
  · rw [a2, ups_at _ (by decide), a1, ups_eq]
  · rw [a2, ups_eq]
  · rw [q3 k p1 p2 p3, a2, ups_at _ (by decide), a1, ups_at _ (by decide)]
  · rw [q4 o p q, a2, ups_at _ (by omega), a1, ups_at _ (by omega)]
/-- the plain rules of a bank -/
def zDf (s : Sg) (c : Int) : Sg := ups (ups (ups (ups (ups s 107 (5 * c + 0) 7) 107 (5 * c + 1) 21) 107 (5 * c + 2) 10) 107 (5 * c + 3) 0) 107 (5 * c + 4) 5
theorem R_isDefault (c2 : c = 0 ∨ c = 1) : Mw g (e + 1) M_X13_isDefault [(21, 92), (0, c)] s (Ex 0 (zDf s c)) := by
  refine S_X13_isDefault (fun _ => ?_)
  rw [w32_of (show _ ≤ 5 * c by omega) (by omega), w32_of (show _ ≤ 5 * c + 0 by omega) (by omega), w32_of (show _ ≤ 5 * c + 1 by omega) (by omega), w32_of (show _ ≤ 5 * c + 2 by omega) (by omega), w32_of (show _ ≤ 5 * c + 3 by omega) (by omega), w32_of (show _ ≤ 5 * c + 4 by omega) (by omega)]
  refine ⟨by omega, fun s1 a1 => ⟨by omega, fun s2 a2 => ⟨by omega, fun s3 a3 => ⟨by omega, fun s4 a4 => ⟨by omega, fun s5 a5 => ⟨rfl, ?_⟩⟩⟩⟩⟩⟩
  rw [a5, a4, a3, a2, a1]; rfl
theorem zDf_at {o : Int} (h : o ≠ 107) : zDf s c o = s o := by unfold zDf; rw [ups_at _ h, ups_at _ h, ups_at _ h, ups_at _ h, ups_at _ h]
theorem zDf_in {k : Int} (k0 : 0 ≤ k) (k5 : k < 5) : zDf s c 107 (5 * c + k) = if k = 0 then 7 else if k = 1 then 21 else if k = 2 then 10 else if k = 3 then 0 else 5 := by
  unfold zDf
  rcases (show k = 0 ∨ k = 1 ∨ k = 2 ∨ k = 3 ∨ k = 4 by omega) with u | u | u | u | u <;> subst u
  · rw [ups_k _ (by omega), ups_k _ (by omega), ups_k _ (by omega), ups_k _ (by omega), ups_eq]; rfl
  · rw [ups_k _ (by omega), ups_k _ (by omega), ups_k _ (by omega), ups_eq]; rfl
  · rw [ups_k _ (by omega), ups_k _ (by omega), ups_eq]; rfl
  · rw [ups_k _ (by omega), ups_eq]; rfl
  · rw [ups_eq]; rfl
theorem zDf_o {i : Int} (h : i < 5 * c ∨ 5 * c + 5 ≤ i) : zDf s c 107 i = s 107 i := by
  unfold zDf
  rw [ups_k _ (by omega), ups_k _ (by omega), ups_k _ (by omega), ups_k _ (by omega), ups_k _ (by omega)]
/-- what a text changes but for the refusals -/
def zFr (c : Int) (s s2 : Sg) : Prop := (∀ o, o ≠ 92 → (o < 94 ∨ 120 < o) → s2 o = s o) ∧ (∀ k, (k = 13 ∨ k = 58 ∨ k = 59 ∨ k = 60 ∨ k = 68 ∨ k = 69 ∨ k = 76) → s2 92 k = s 92 k) ∧ ∀ o i, 94 ≤ o → o ≤ 114 → (i < szB o * c ∨ szB o * c + szB o ≤ i) → s2 o i = s o i
theorem zFr.tr {s2 s3 : Sg} (h : zFr c s s2) (h2 : zFr c s2 s3) : zFr c s s3 := ⟨fun o a d => (h2.1 o a d).trans (h.1 o a d), fun k a => (h2.2.1 k a).trans (h.2.1 k a), fun o i a d f => (h2.2.2 o i a d f).trans (h.2.2 o i a d f)⟩
theorem Fdb.zf {s2 : Sg} (h : Fdb c s s2) : zFr c s s2 := ⟨h.1, fun k q => h.2.1 k (by unfold Ka; omega) (by omega) (by omega) (by omega) (by omega) (by omega) (by omega), h.2.2⟩
theorem Fa.zf {s2 : Sg} (h : Fa s s2) : zFr c s s2 := ⟨fun o p _ => h.1 o p, fun k q => h.2 k (by unfold Ka; omega), fun o i p1 p2 _ => by rw [h.1 o (by omega)]⟩
theorem zFr.u2 {k v : Int} (h : ¬ (k = 13 ∨ k = 58 ∨ k = 59 ∨ k = 60 ∨ k = 68 ∨ k = 69 ∨ k = 76)) : zFr c s (ups s 92 k v) := ⟨fun o p _ => ups_at _ p, fun k2 q => ups_k _ (fun u => h (u ▸ q)), fun o i p1 p2 _ => ups_o _ (by omega)⟩
theorem zFr.ub {o i v : Int} (h1 : 94 ≤ o) (h2 : o ≤ 114) (hi : szB o * c ≤ i ∧ i < szB o * c + szB o) : zFr c s (ups s o i v) := (Fdb.up h1 h2 hi).zf
theorem zFr.df : zFr c s (zDf s c) := ⟨fun o p q => zDf_at (by omega), fun k q => by rw [zDf_at (by decide)], fun o i p1 p2 q => by
  by_cases u : o = 107
  · subst u
    exact zDf_o q
  · rw [zDf_at u]⟩
end RTOWN
