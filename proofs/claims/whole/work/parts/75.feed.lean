/-! feed and end of both programs -/
theorem and_255 (x : BitVec 32) (i : Nat) : (x &&& 255#32).getLsbD i = (decide (i < 8) && x.getLsbD i) := by
  rw [BitVec.getLsbD_and, show (255#32).getLsbD i = decide (i < 8) from ?_, Bool.and_comm]
  by_cases h : i < 32
  · have : ∀ i : Nat, i < 32 → (255#32).getLsbD i = decide (i < 8) := by decide +kernel
    exact this i h
  · rw [BitVec.getLsbD_of_ge _ _ (by omega), decide_eq_false (by omega)]
theorem sb_255 (x : Int32) : x.toInt8.toInt32 &&& 255 = x &&& 255 := by
  apply Int32.toBitVec_inj.1
  rw [Int32.toBitVec_and, Int32.toBitVec_and, show (255 : Int32).toBitVec = 255#32 from rfl]
  refine BitVec.eq_of_getLsbD_eq (fun i hi => ?_)
  rw [and_255, and_255]
  by_cases c : i < 8
  · rw [Int8.toBitVec_toInt32, Int32.toBitVec_toInt8, BitVec.getLsbD_signExtend, BitVec.getLsbD_signExtend]
    rw [decide_eq_true c, decide_eq_true hi, if_pos c, if_pos hi]
    simp
  · simp [c]
theorem bAnd_sb {a : Int} : bAnd (bSb a) 255 = bAnd a 255 := by
  unfold bAnd bSb
  rw [i3_to, show i3 255 = (255 : Int32) from rfl, sb_255]
theorem bAnd_255 {a : Int} : 0 ≤ bAnd a 255 ∧ bAnd a 255 ≤ 255 := by
  have h : ((i3 a) &&& 255).toBitVec.toNat ≤ 255 := by
    rw [Int32.toBitVec_and, BitVec.toNat_and]
    exact Nat.and_le_right
  have := bv_toI (x := (i3 a) &&& 255) rfl (by omega)
  unfold bAnd
  rw [show i3 255 = (255 : Int32) from rfl, this]
  omega
/-- a byte of a number -/
def byS (v sh : Int) : Int := bAnd (bShr v sh) 255
def snB (B : Int → Int) (n x : Int) : Int → Int := fun k => if k = n then x else B k
def adB (B : Int → Int) (n v : Int) : Int → Int := snB (snB (snB (snB B n (byS v 24)) (n + 1) (byS v 16)) (n + 1 + 1) (byS v 8)) (n + 1 + 1 + 1) (byS v 0)
def fdB (B : Int → Int) (n a b c d f : Int) : Int → Int := adB (adB (adB (adB (adB B n a) (n + 4) b) (n + 8) c) (n + 12) d) (n + 16) f
section FEED
variable {g : GT} {e : Nat} {s : Sg} {n : Int} {B : Int → Int}
/-- the tape's own frame -/
def Ft (s s2 : Sg) : Prop := Fr (fun o => o = 2 ∨ o = 3) s s2 ∧ ∀ k, k ≠ 1 → s2 2 k = s 2 k
def Fu (s s2 : Sg) : Prop := Fr (fun o => o = 92 ∨ o = 93) s s2 ∧ ∀ k, k ≠ 1 → s2 92 k = s 92 k
theorem Ft.tr {s2 s3 : Sg} (h : Ft s s2) (h2 : Ft s2 s3) : Ft s s3 := ⟨h.1.tr h2.1, fun k hk => (h2.2 k hk).trans (h.2 k hk)⟩
theorem Fu.tr {s2 s3 : Sg} (h : Fu s s2) (h2 : Fu s2 s3) : Fu s s3 := ⟨h.1.tr h2.1, fun k hk => (h2.2 k hk).trans (h.2 k hk)⟩
theorem c_add1 {v sh sh2 : Int} {Q : Int → Sg → Prop} (ht : CTp s n B) (hn : n < 1600) (h0 : 0 ≤ sh) (e2 : w32 (sh + -8) = sh2) (hq : ∀ s2, CTp s2 (n + 1) (snB B n (byS v sh)) → Ft s s2 → P_X8_add_3 g e Q s2 v sh2) : P_X8_add_3 g e Q s v sh := by
  have nb := ht.2.1
  refine S_X8_add_3 ⟨fun q => by omega, fun _ => ?_⟩
  rw [ht.1, e2]
  refine ⟨fun q => by omega, fun _ => ⟨⟨by omega, by omega⟩, fun s1 e1 s2 e2 => hq s2 ⟨?_, ⟨by omega, by omega⟩, fun k k0 k1 => ?_⟩ ⟨?_, fun k hk => ?_⟩⟩⟩
  · rw [e2, ups_eq, e1, ups_at _ (by decide), ht.1, w32_of (by omega) (by omega)]
  · have es : s2 3 k = ups s 3 n (bSb (bSb (bShr v sh))) 3 k := by rw [e2, ups_at _ (by decide), e1]
    rw [es]
    unfold snB
    by_cases c : k = n
    · rw [c, ups_eq, if_pos rfl, bAnd_sb, bAnd_sb]
      exact ⟨rfl, bAnd_255.1, bAnd_255.2⟩
    · rw [ups_k _ c, if_neg c]
      exact ht.2.2 k k0 (by omega)
  · rw [e2, e1]
    exact (Fr.up (Or.inr rfl)).tr (Fr.up (Or.inl rfl))
  · rw [e2, ups_k _ hk, e1, ups_at _ (by decide)]
theorem C_add {v : Int} (ht : CTp s n B) (hn : n + 4 ≤ 1600) : Mw g (e + 1) M_X8_add [(17, 2), (0, v)] s (fun _ s' => CTp s' (n + 4) (adB B n v) ∧ Ft s s') := by
  refine S_X8_add (fun _ => c_add1 ht (by omega) (by decide) (sh2 := 16) (by decide) (fun s1 t1 f1 => c_add1 t1 (by omega) (by decide) (sh2 := 8) (by decide) (fun s2 t2 f2 => c_add1 t2 (by omega) (by decide) (sh2 := 0) (by decide) (fun s3 t3 f3 => c_add1 t3 (by omega) (by decide) (sh2 := -8) (by decide) (fun s4 t4 f4 => S_X8_add_3 ⟨fun _ => ⟨?_, ((f1.tr f2).tr f3).tr f4⟩, fun q => absurd (by decide) q⟩)))))
  rw [show n + 4 = n + 1 + 1 + 1 + 1 by omega]
  exact t4
theorem C_feed {a b c d f : Int} (ht : CTp s n B) : Mw g (e + 2) M_X12_feed [(20, 1), (0, a), (0, b), (0, c), (0, d), (0, f)] s (fun r s' => (n + 20 ≤ 1600 → r = n + 20 ∧ CTp s' (n + 20) (fdB B n a b c d f) ∧ Ft s s') ∧ (¬ n + 20 ≤ 1600 → r = -1 ∧ s' = ups s 91 0 (w32 (s 91 0 + 1)))) := by
  have nb := ht.2.1
  refine S_X12_feed (fun _ _ _ _ _ => ?_)
  rw [ht.1, w32_of (by omega) (by omega)]
  refine ⟨fun q => ?_, fun q => Mw.ex (C_refuse (by decide) (by decide)) ⟨fun z => absurd z q, fun _ => ⟨rfl, rfl⟩⟩⟩
  refine (C_add ht (by omega)).imp (fun _ s2 h2 => (C_add h2.1 (by omega)).imp (fun _ s4 h4 => (C_add h4.1 (by omega)).imp (fun _ s6 h6 => (C_add h6.1 (by omega)).imp (fun _ s8 h8 => (C_add h8.1 (by omega)).imp (fun _ s10 h10 => ?_)))))
  have t := h10.1
  rw [show n + 4 + 4 + 4 + 4 + 4 = n + 20 by omega, show n + 4 + 4 + 4 + 4 = n + 16 by omega, show n + 4 + 4 + 4 = n + 12 by omega, show n + 4 + 4 = n + 8 by omega] at t
  exact ⟨fun _ => ⟨t.1, t, (((h2.2.tr h4.2).tr h6.2).tr h8.2).tr h10.2⟩, fun z => absurd q z⟩
theorem C_end {v : Int} (ht : CTp s n B) : Mw g (e + 2) M_X12_end [(20, 1), (0, v)] s (fun r s' => (0 ≤ v ∧ v ≤ n → r = 1 ∧ CTp s' v B ∧ Ft s s') ∧ (¬ (0 ≤ v ∧ v ≤ n) → r = 0 ∧ s' = ups s 91 0 (w32 (s 91 0 + 1)))) := by
  have nb := ht.2.1
  have no : ¬ (0 ≤ v ∧ v ≤ n) → P_X12_end_15 g (e + 1) (fun r s' => (0 ≤ v ∧ v ≤ n → r = 1 ∧ CTp s' v B ∧ Ft s s') ∧ (¬ (0 ≤ v ∧ v ≤ n) → r = 0 ∧ s' = ups s 91 0 (w32 (s 91 0 + 1)))) s := fun z => S_X12_end_15 (Mw.ex (C_refuse (by decide) (by decide)) ⟨fun y => absurd y z, fun _ => ⟨rfl, rfl⟩⟩)
  refine S_X12_end (fun _ => ⟨fun q => no (by omega), fun q => ?_⟩)
  rw [ht.1]
  refine ⟨fun q2 s1 e1 => ⟨fun _ => ⟨rfl, ⟨by rw [e1, ups_eq], ⟨by omega, by omega⟩, fun k k0 k1 => ?_⟩, ?_, fun k hk => by rw [e1, ups_k _ hk]⟩, fun z => absurd ⟨by omega, q2⟩ z⟩, fun q2 => no (fun z => q2 z.2)⟩
  · rw [e1, ups_at _ (by decide)]; exact ht.2.2 k k0 (by omega)
  · rw [e1]; exact Fr.up (Or.inl rfl)
theorem r_put1 {v sh sh2 : Int} {Q : Int → Sg → Prop} (ht : RTp s n B) (hn : n < 1600) (h0 : 0 ≤ sh) (e2 : w32 (sh + -8) = sh2) (hq : ∀ s2, RTp s2 (n + 1) (snB B n (byS v sh)) → Fu s s2 → P_X13_put_3 g e Q s2 v sh2) : P_X13_put_3 g e Q s v sh := by
  have nb := ht.2.1
  refine S_X13_put_3 ⟨fun q => by omega, fun _ => ?_⟩
  rw [ht.1, e2]
  refine ⟨⟨by omega, by omega⟩, fun s1 e1 s2 e2 => hq s2 ⟨?_, ⟨by omega, by omega⟩, fun k k0 k1 => ?_⟩ ⟨?_, fun k hk => ?_⟩⟩
  · rw [e2, ups_eq, e1, ups_at _ (by decide), ht.1, w32_of (by omega) (by omega)]
  · have es : s2 93 k = ups s 93 n (byS v sh) 93 k := by rw [e2, ups_at _ (by decide), e1]; rfl
    rw [es]
    unfold snB
    by_cases c : k = n
    · rw [c, ups_eq, if_pos rfl]
      exact ⟨rfl, bAnd_255.1, bAnd_255.2⟩
    · rw [ups_k _ c, if_neg c]
      exact ht.2.2 k k0 (by omega)
  · rw [e2, e1]
    exact (Fr.up (Or.inr rfl)).tr (Fr.up (Or.inl rfl))
  · rw [e2, ups_k _ hk, e1, ups_at _ (by decide)]
theorem R_put {v : Int} (ht : RTp s n B) (hn : n + 4 ≤ 1600) : Mw g (e + 1) M_X13_put [(21, 92), (0, v)] s (fun _ s' => RTp s' (n + 4) (adB B n v) ∧ Fu s s') := by
  refine S_X13_put (fun _ => r_put1 ht (by omega) (by decide) (sh2 := 16) (by decide) (fun s1 t1 f1 => r_put1 t1 (by omega) (by decide) (sh2 := 8) (by decide) (fun s2 t2 f2 => r_put1 t2 (by omega) (by decide) (sh2 := 0) (by decide) (fun s3 t3 f3 => r_put1 t3 (by omega) (by decide) (sh2 := -8) (by decide) (fun s4 t4 f4 => S_X13_put_3 ⟨fun _ => ⟨?_, ((f1.tr f2).tr f3).tr f4⟩, fun q => absurd (by decide) q⟩)))))
  rw [show n + 4 = n + 1 + 1 + 1 + 1 by omega]
  exact t4
theorem R_feed {a b c d f : Int} (ht : RTp s n B) : Mw g (e + 2) M_X13_feed [(21, 92), (0, a), (0, b), (0, c), (0, d), (0, f)] s (fun r s' => (n + 20 ≤ 1600 → r = n + 20 ∧ RTp s' (n + 20) (fdB B n a b c d f) ∧ Fu s s') ∧ (¬ n + 20 ≤ 1600 → r = -1 ∧ s' = ups s 121 0 (w32 (s 121 0 + 1)))) := by
  have nb := ht.2.1
  refine S_X13_feed (fun _ _ _ _ _ => ?_)
  rw [ht.1, w32_of (by omega) (by omega)]
  refine ⟨fun q => ?_, fun q => Mw.ex (R_refuses (by decide) (by decide)) ⟨fun z => absurd z q, fun _ => ⟨rfl, rfl⟩⟩⟩
  refine (R_put ht (by omega)).imp (fun _ s2 h2 => (R_put h2.1 (by omega)).imp (fun _ s4 h4 => (R_put h4.1 (by omega)).imp (fun _ s6 h6 => (R_put h6.1 (by omega)).imp (fun _ s8 h8 => (R_put h8.1 (by omega)).imp (fun _ s10 h10 => ?_)))))
  have t := h10.1
  rw [show n + 4 + 4 + 4 + 4 + 4 = n + 20 by omega, show n + 4 + 4 + 4 + 4 = n + 16 by omega, show n + 4 + 4 + 4 = n + 12 by omega, show n + 4 + 4 = n + 8 by omega] at t
  exact ⟨fun _ => ⟨t.1, t, (((h2.2.tr h4.2).tr h6.2).tr h8.2).tr h10.2⟩, fun z => absurd q z⟩
theorem R_end {v : Int} (ht : RTp s n B) : Mw g (e + 2) M_X13_end [(21, 92), (0, v)] s (fun r s' => (0 ≤ v ∧ v ≤ n → r = 1 ∧ RTp s' v B ∧ Fu s s') ∧ (¬ (0 ≤ v ∧ v ≤ n) → r = 0 ∧ s' = ups s 121 0 (w32 (s 121 0 + 1)))) := by
  have nb := ht.2.1
  have no : ¬ (0 ≤ v ∧ v ≤ n) → P_X13_end_12 g (e + 1) (fun r s' => (0 ≤ v ∧ v ≤ n → r = 1 ∧ RTp s' v B ∧ Fu s s') ∧ (¬ (0 ≤ v ∧ v ≤ n) → r = 0 ∧ s' = ups s 121 0 (w32 (s 121 0 + 1)))) s := fun z => S_X13_end_12 (Mw.ex (R_refuses (by decide) (by decide)) ⟨fun _ => ⟨fun y => absurd y z, fun _ => ⟨rfl, rfl⟩⟩, fun y => absurd (by decide) y⟩)
  refine S_X13_end (fun _ => ⟨fun q => no (by omega), fun q => ?_⟩)
  rw [ht.1]
  refine ⟨fun q2 s1 e1 => ⟨fun _ => ⟨rfl, ⟨by rw [e1, ups_eq], ⟨by omega, by omega⟩, fun k k0 k1 => ?_⟩, ?_, fun k hk => by rw [e1, ups_k _ hk]⟩, fun z => absurd ⟨by omega, q2⟩ z⟩, fun q2 => no (fun z => q2 z.2)⟩
  · rw [e1, ups_at _ (by decide)]; exact ht.2.2 k k0 (by omega)
  · rw [e1]; exact Fr.up (Or.inl rfl)
end FEED
