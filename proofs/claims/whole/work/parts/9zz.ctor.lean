/-! a constructor's contract, and its call -/
def rmC (d mc ms : Nat) : Room := { frames := d, cells := mc, slots := ms, locals := 40 * d }
def zA (g : GT) (o : Int) : Nat → Prop := fun q => adr g o ≤ q
def Kq (g : GT) (o0 : Int) (N2 : Nat) (P : Zt → Prop) : Array Value → State → Outcome → State → Prop := fun _ st oc t => (oc = .returned none ∧ ∃ Z2, P Z2 ∧ Br g N2 Z2 t.heap) ∧ va_F (zA g o0) st t
def Kp (g : GT) (as : List Value) (N : Nat) (Z : Zt) : Array Value → State → Prop := va_Pc as (fun U => Br g N Z U.heap ∧ Kx g U ∧ Sx g U U.heap ∧ va_AOA .int U)
def Kw (g : GT) (d : Nat) (M : MI) (o0 : Int) (as : List Value) (N : Nat) (Z : Zt) (mc ms N2 : Nat) (P : Zt → Prop) : Prop := Met (gl g) M.1 (wsM M) (rmC d mc ms) (Kp g as N Z) (Kq g o0 N2 P) mc ms (zA g o0)
def okI (own : String) (idx : Nat) (M2 : MI) (n : Nat) : Prop :=
  (Cond.methodLink own idx M2.1 ∈ lwG ∧ Cond.instanceMethod M2.1 ∈ lwG ∧ Cond.initialized M2.1.cls ∈ lwG ∧ Cond.code M2.1 M2.2.1 M2.2.2.1 M2.2.2.2 ∈ lwG) ∧
  (M2.1.name = "<init>" ∧ M2.2.2.2 = none ∧ M2.1.cls ≠ "java/lang/invoke/MethodHandle" ∧ M2.1.cls ≠ "java/lang/invoke/VarHandle" ∧ (parseMethodDescriptor M2.1.desc).map (fun d => d.parameters.length) = some n) ∧ M2.2.2.1 ≤ 21
section CTORS
variable {p : Program} {e : Env} {R : Room} {s : State} {m : MethodId} {args : Array Value} {below : List Frame} {meth : Method} {c : Code} {H : Heap} {locs : List Loc} {cells slots : Nat} {Q : State → Prop}
variable {cc : ByteArray} {pc nL : Nat} {ls : Array Slot} {rest : List Value} {A : Nat → Prop} {g : GT} {N : Nat} {Z : Zt} {own : String}
theorem Kp_blind (g : GT) (as : List Value) (N : Nat) (Z : Zt) : FrameBlind (Kp g as N Z) := by
  intro a U f mk q
  obtain ⟨q1, q2, q3, q4, q5⟩ := q
  exact ⟨q1, q2, va_K.moved (u := U) (U := U.calling f mk a) (Vm.Alike.refl U.vm) q3, Sx.moved (u := U) (U := U.calling f mk a) (Vm.Alike.refl U.vm) (va_Nw.same (U := U.calling f mk a) rfl rfl) q4, va_AOA.moved (u := U) (U := U.calling f mk a) (Vm.Alike.refl U.vm) q5⟩
theorem Sx.mk2 (hX : Sx g s s.heap) (hG : ∀ o : Int, 1 ≤ o → o ≤ 141 → gr g o) (hz : s.heap.size ≤ gz g + 141) (hS : va_S A s.heap H locs) (hA : ∀ q, A q → gz g ≤ q) : Sx g s H := by
  refine hX.kept (fun a ha na => hS.2.1 a ha (fun u => na ⟨((a - gz g : Nat) : Int) + 1, hG _ (by omega) (by omega), ?_⟩))
  have := hA a u
  unfold adr
  omega
theorem k_init {M2 : MI} {d idx n mc ms N2 : Nat} {o0 : Int} {As : List Value} {P : Zt → Prop} {stk : List Value} (hexec : p.tables.exec = Jvm.exec) (hb : c.code = cc) (hml : c.maxLocals = nL) (hts : ∀ w ∈ lwG, w.before args s = true) (hown : s.vm.findClass own = some m.cls) (hK : Kx g s) (hX : Sx g s s.heap) (hO : va_AOA .int s)
    (hG : ∀ o : Int, 1 ≤ o → o ≤ 141 → gr g o) (hz : s.heap.size ≤ gz g + 141) (hB : Br g N Z H) (hS : va_S A s.heap H locs) (hA : ∀ q, A q → gz g ≤ q) (hA0 : ∀ q, zA g o0 q → A q)
    (hM : Kw g d M2 o0 (.ref (adr g o0) :: As) N Z mc ms N2 P) (hw : okI own idx M2 n) (hn : As.length = n) (hs : As.reverse ++ .ref (adr g o0) :: rest = stk) (hc : (rest.map fun v => v.category).sum ≤ 8) (hl : ls.size = nL) (hR : d + 1 ≤ R.frames ∧ 40 * (d + 1) ≤ R.locals) (hf : cells + mc ≤ R.cells ∧ slots + ms ≤ R.slots)
    (hd : decode cc pc = .ok (.invokespecial idx, 3))
    (kk : ∀ (Z2 : Zt) (H1 : Heap) (locs1 : List Loc), P Z2 → Br g N2 Z2 H1 → va_S A s.heap H1 locs1 → W p (gl g) e R s m args below meth c H1 locs1 (cells + mc) (slots + ms) Q (F0 m (pc + 3) ls rest)) :
    W p (gl g) e R s m args below meth c H locs cells slots Q (F0 m pc ls stk) := by
  subst hs
  obtain ⟨⟨w1, w2, w3, w4⟩, ⟨w5, w6, w7⟩, w8⟩ := hw
  have hG2 : GoodIn lwG (wsM M2) := good_app (a := []) (fun w hw => by cases hw) w4
  have hcw := cwI (R := R) (own := own) (index := idx) (bytes := M2.2.1) (maxL := M2.2.2.1) (y := M2.1) (rm := rmC d mc ms) (mc := mc) (ms := ms) (ws' := lwG) n hts hG2 (by unfold wsM; rw [w6]) rfl rfl (hts _ w3) (hts _ w1) (hts _ w2) w5 w7 ⟨hR.1, by show 8 + (M2.2.2.1 + 11) + 40 * d ≤ R.locals; omega⟩
  have hrun := va_runI (p := p) (l := gl g) (e := e) (R := R) (below := below) (meth := meth) (locs := locs) (cells := cells) (slots := slots) (b := adr g o0) (As := As) (rest := rest) (g := F0 m pc ls (As.reverse ++ .ref (adr g o0) :: rest)) (H := H)
    ⟨hexec, hb, hml, hown, hts⟩ hM hcw
    ⟨Kp_blind _ _ _ _, fun U hU hW => ⟨rfl, by rw [hU]; exact hB, va_K.moved hW.alike hK, by rw [hU]; exact Sx.moved hW.alike (va_Nw.warmF hW) (hX.mk2 hG hz hS hA), va_AOA.moved hW.alike hO⟩⟩
    rfl hn hl rfl (by show 2 * 0 + _ ≤ 8; omega) hd hf
  intro T hT X
  obtain ⟨v, st0, t, T2, L2, h0, X2, hL, e1, e2, ⟨⟨hv, Z2, hp, hb2⟩, hF⟩, stp⟩ := hrun T hT X
  cases hv
  have s2 : va_S A s.heap T2.heap (locs ++ L2) := by
    refine ⟨Nat.le_trans hS.1 (by rw [e1, ← h0]; exact hF.1), fun q h1 h2 => ?_, fun q hq => ?_⟩
    · rw [e1, hF.2 q (by rw [h0]; exact Nat.lt_of_lt_of_le h1 hS.1) (fun z => h2 (hA0 q z)), h0]
      exact hS.2.1 q h1 h2
    · rcases List.mem_append.mp hq with h | h
      · exact hS.2.2 q h
      · exact hA0 _ (hL q h)
  obtain ⟨t2, a1, b1⟩ := kk Z2 T2.heap (locs ++ L2) hp (by rw [e1]; exact hb2) s2 T2 rfl X2
  exact ⟨t2, stp t2 a1, b1⟩
end CTORS
