/-! acts: save and takeBack of the class; keeps and undo of the reference -/
/-- row o holds the world A -/
def PK (s : Sg) (o : Int) (A : Wd) : Prop := s o 0 = A 0 1 ∧ s o 1 = A 0 2 ∧ s o 2 = A 0 9 ∧ (∀ c, 0 ≤ c → c < 8 → s o (3 + c) = A 2 c * 4096 + (A 3 c + 1) * 16 + A 1 c) ∧ (∀ k, 0 ≤ k → k < 60 → s o (11 + k) = A 6 k)
/-- the class's undo rows: u worlds U 0 .. , the oldest first -/
def UC (s : Sg) (u : Int) (U : Int → Wd) : Prop := s 65 1 = u ∧ (0 ≤ u ∧ u ≤ 20) ∧ (0 ≤ s 65 2 ∧ s 65 2 < 20) ∧ ∀ i, 0 ≤ i → i < u → PK s (67 + (s 65 2 - u + i) % 20) (U i)
def puN (u : Int) : Int := if u < 20 then u + 1 else 20
def puU (u : Int) (U : Int → Wd) (A : Wd) : Int → Wd := fun i => if u < 20 then (if i = u then A else U i) else (if i = 19 then A else U (i + 1))
/-- worlds that can be undone to are such as can be -/
def UOK (T : Tn) (u : Int) (U : Int → Wd) : Prop := ∀ i, 0 ≤ i → i < u → WOK T (U i) ∧ U i 0 1 ≤ 999
theorem pack_bits {a p h : Int} (ha : 0 ≤ a ∧ a ≤ 999) (hp : 0 ≤ p ∧ p < 256) (hh : 0 ≤ h ∧ h < 16) : bOr (bOr (bShl a 12) (bShl p 4)) h = a * 4096 + p * 16 + h := by
  have e1 : bShl a 12 = a * 2 ^ 12 := by
    rw [bShl_n ha.1 (by decide) (by decide) (by show a.toNat * 4096 < _; omega)]
    show ((a.toNat * 4096 : Nat) : Int) = a * 4096
    omega
  have e2 : bShl p 4 = p * 2 ^ 4 := by
    rw [bShl_n hp.1 (by decide) (by decide) (by show p.toNat * 16 < _; omega)]
    show ((p.toNat * 16 : Nat) : Int) = p * 16
    omega
  rw [e1, e2, bOr_add (n := 12) ha.1 (by omega) (by omega) (by omega) (by decide), show a * 2 ^ 12 + p * 2 ^ 4 = (a * 256 + p) * 2 ^ 4 by omega, bOr_add (n := 4) (by omega) hh.1 (by omega) (by omega) (by decide)]
  omega
section ACTS
variable {T : Tn} {A : Wd} {g : GT} {e : Nat} {s : Sg} {tw b u : Int} {U : Int → Wd}
theorem PK.fr {s2 : Sg} {o : Int} (h : PK s o A) (e : s2 o = s o) : PK s2 o A := by
  unfold PK
  rw [e]
  exact h
theorem save_loop {Q : Int → Sg → Prop} {r : Int} (hx : CX s 48 tw T A) (hI : WI0 A) (r0 : 67 ≤ r) (r1 : r ≤ 86) (hQ : ∀ s1 s' : Sg, Fr (fun o => o = r) s s1 → PK s1 r A → s' = ups (ups s1 65 2 (Int.tmod (w32 (s 65 2 + 1)) 20)) 65 1 (min 20 (w32 (s 65 1 + 1))) → Q 0 s') :
    ∀ (n : Nat) (c : Int) (s0 : Sg), c + n = 8 → 0 ≤ c → Fr (fun o => o = r) s s0 → s0 r 0 = A 0 1 → s0 r 1 = A 0 2 → s0 r 2 = A 0 9 → (∀ k, 0 ≤ k → k < c → s0 r (3 + k) = A 2 k * 4096 + (A 3 k + 1) * 16 + A 1 k) → P_X1_save_33 g e Q s0 48 r c := by
  intro n
  induction n with
  | zero =>
    intro c s0 hc c0 hf h0 h1 h2 hk
    refine S_X1_save_33 ⟨fun _ s1 e1 s2 e2 s3 e3 => ?_, fun q => absurd (by omega) q⟩
    have f1 : Fr (fun o => o = r) s s1 := by rw [e1]; exact hf.tr (Fr.cp rfl)
    have e65 : s1 65 = s 65 := f1 65 (by omega)
    have n1 : s2 65 1 = s 65 1 := by rw [e2, ups_k _ (by decide), e65]
    rw [n1] at e3
    rw [e65] at e2
    refine hQ s1 s3 f1 ?_ (by rw [e3, e2])
    have lo : ∀ k, k < 11 → s1 r k = s0 r k := fun k hk => by rw [e1]; unfold cpy; rw [if_neg (fun q => by omega)]
    refine ⟨by rw [lo 0 (by decide)]; exact h0, by rw [lo 1 (by decide)]; exact h1, by rw [lo 2 (by decide)]; exact h2, fun k k0 k1 => by rw [lo _ (by omega)]; exact hk k k0 (by omega), fun k k0 k1 => ?_⟩
    rw [e1]
    unfold cpy
    rw [if_pos ⟨rfl, by omega, by omega⟩, hf (48 + 6) (by omega), hx.w6, show 0 + (11 + k - 11) = k by omega]
  | succ n ih =>
    intro c s0 hc c0 hf h0 h1 h2 hk
    have cc := hx.n.2.2.2.1 c c0 (by omega)
    have cp := hI.1 c c0 (by omega)
    refine S_X1_save_33 ?_
    rw [hf (48 + 1) (by omega), hf (48 + 2) (by omega), hf (48 + 3) (by omega), hx.w1, hx.w2, hx.w3, w32_of (show _ ≤ 3 + c by omega) (by omega), w32_of (show _ ≤ A 3 c + 1 by omega) (by omega), pack_bits cc.2 (by omega) (by omega), w32_of (show _ ≤ c + 1 by omega) (by omega)]
    refine ⟨fun q => by omega, fun _ => ⟨⟨by omega, by omega⟩, ⟨by omega, by omega⟩, ⟨by omega, by omega⟩, ⟨by omega, by omega⟩, fun s4 e4 => ih (c + 1) s4 (by omega) (by omega) ?_ ?_ ?_ ?_ (fun k k0 k1 => ?_)⟩⟩
    · rw [e4]; exact hf.tr (Fr.up rfl)
    · rw [e4, ups_k _ (by omega)]; exact h0
    · rw [e4, ups_k _ (by omega)]; exact h1
    · rw [e4, ups_k _ (by omega)]; exact h2
    · rw [e4]
      by_cases z : k = c
      · rw [z, ups_eq]
      · rw [ups_k _ (by omega)]; exact hk k k0 (by omega)
theorem C_save (hx : CX s 48 tw T A) (hI : WI0 A) (hU : UC s u U) : Mw g (e + 1) M_X1_save [(10, 65), (19, 48)] s (fun _ s' => UC s' (puN u) (puU u U A) ∧ Fr (fun o => 65 ≤ o ∧ o ≤ 86) s s') := by
  obtain ⟨u1, u2, u3, u4⟩ := hU
  refine S_X1_save (fun _ => ⟨u3, fun s1 e1 s2 e2 s3 e3 => ?_⟩)
  generalize hnx : s 65 2 = nx at *
  have hf : Fr (fun o => o = 67 + nx) s s3 := by
    rw [e3, e2, e1]
    refine Fr.tr (Fr.tr (Fr.up ?_) (Fr.up ?_)) (Fr.up ?_) <;> rfl
  have q1 : s1 48 2 = A 0 2 := by rw [e1, ups_at _ (by omega)]; exact hx.en
  have q2 : s2 48 9 = A 0 9 := by rw [e2, ups_at _ (by omega), e1, ups_at _ (by omega)]; exact hx.kc
  rw [q1] at e2
  rw [q2] at e3
  rw [hx.y] at e1
  refine save_loop (s := s) hx hI (by omega) (by omega) (fun s5 s6 f5 p5 e6 => ?_) 8 0 s3 (by decide) (by decide) hf (by rw [e3, ups_k _ (by decide), e2, ups_k _ (by decide), e1, ups_eq]) (by rw [e3, ups_k _ (by decide), e2, ups_eq]) (by rw [e3, ups_eq]) (fun k k0 k1 => by omega)
  rw [hnx, u1, w32_of (show _ ≤ nx + 1 by omega) (by omega), w32_of (show _ ≤ u + 1 by omega) (by omega), tm_of (by omega)] at e6
  have a6 : ∀ o, o ≠ 65 → s6 o = s5 o := fun o ho => by rw [e6, ups_at _ ho, ups_at _ ho]
  have c6 : s6 65 1 = puN u := by rw [e6, ups_eq]; unfold puN; split <;> omega
  have x6 : s6 65 2 = (nx + 1) % 20 := by rw [e6, ups_k _ (by decide), ups_eq]
  refine ⟨⟨c6, by unfold puN; split <;> omega, by rw [x6]; omega, fun i i0 i1 => ?_⟩, fun o ho => ?_⟩
  · rw [x6]
    unfold puN at i1 ⊢
    unfold puU
    by_cases z : u < 20
    · rw [if_pos z] at i1 ⊢
      rw [if_pos z]
      by_cases y : i = u
      · rw [if_pos y, show ((nx + 1) % 20 - (u + 1) + i) % 20 = nx by omega]
        exact p5.fr (a6 _ (by omega))
      · rw [if_neg y, show ((nx + 1) % 20 - (u + 1) + i) % 20 = (nx - u + i) % 20 by omega]
        exact (u4 i i0 (by omega)).fr ((a6 _ (by omega)).trans (f5 _ (by omega)))
    · have e20 : u = 20 := by omega
      rw [if_neg z] at i1 ⊢
      rw [if_neg z]
      by_cases y : i = 19
      · rw [if_pos y, show ((nx + 1) % 20 - 20 + i) % 20 = nx by omega]
        exact p5.fr (a6 _ (by omega))
      · rw [if_neg y, show ((nx + 1) % 20 - 20 + i) % 20 = (nx - u + (i + 1)) % 20 by omega]
        exact (u4 (i + 1) (by omega) (by omega)).fr ((a6 _ (by omega)).trans (f5 _ (by omega)))
  · rw [a6 o (by omega), f5 o (by omega)]
end ACTS
