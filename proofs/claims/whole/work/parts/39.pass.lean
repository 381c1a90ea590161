/-! the class: raise, freeze, passYear, pullOut -/
section PASS
variable {g : GT} {e : Nat} {s : Sg} {th tw : Int} {T : Tn} {A : Wd}
theorem CZ.up2 {X : WX} {b i v : Int} (h : CZ s th tw T X b) (hn : WN T (ups X.1 2 i v)) : CZ (ups s (th + 2) i v) th tw T (ups X.1 2 i v, X.2) b := by
  obtain ⟨q1, q2, q3, q4⟩ := h
  exact ⟨q1.up (by omega) (by omega) hn, by rw [ups_at s (by omega)]; exact q2, by rw [ups_at s (by omega)]; exact q3, by rw [ups_at s (by omega)]; exact q4⟩
theorem rai1_ok {c : Int} (hW : WOK T A) (c0 : 0 ≤ c) (c8 : c < 8) : WOK T (rai1 T A c) := by
  unfold rai1
  split
  · have b := groS_bd (T := T) (h := A 1 c) (a := ageS T A c) (y := A 0 1) (hW.1.2.2.2.1 c c0 c8).2
    exact hW.up2 b.1 b.2
  · exact hW
theorem raiF_ok : ∀ (n : Nat) (c : Int) (A : Wd), 0 ≤ c → c + n ≤ 8 → WOK T A → WOK T (raiF T n c A) := by
  intro n
  induction n with
  | zero => intro c A _ _ h; exact h
  | succ n ih => intro c A c0 c8 h; exact ih (c + 1) _ (by omega) (by omega) (rai1_ok h c0 (by omega))
theorem fre1_ok {c : Int} (hT : TOK T) (hW : WOK T A) (c0 : 0 ≤ c) (c8 : c < 8) : WOK T (fre1 T A c) := by
  unfold fre1
  split
  · exact hW
  · have b := (hW.1.2.2.2.1 c c0 c8).2
    have t := hT.2.2.2.2.2.2.2.2.2.2.2.2
    exact hW.up2 (by omega) (by omega)
theorem freF_ok (hT : TOK T) : ∀ (n : Nat) (c : Int) (A : Wd), 0 ≤ c → c + n ≤ 8 → WOK T A → WOK T (freF T n c A) := by
  intro n
  induction n with
  | zero => intro c A _ _ h; exact h
  | succ n ih => intro c A c0 c8 h; exact ih (c + 1) _ (by omega) (by omega) (fre1_ok hT h c0 (by omega))
theorem raise_loop {w f b : Int} (hF : TF T) : ∀ (n : Nat) (c : Int) (s0 : Sg) (A : Wd), c + n = T 1 1 → 0 ≤ c → CZ s0 th tw T (A, w, f) b → WOK T A → Fr (Jw th) s s0 → P_X11_raise_2 g (e + 4) (PZ s th tw T (raiF T n c A, w, f) b) s0 th c := by
  intro n
  induction n with
  | zero =>
    intro c s0 A hc c0 hx hW hf
    refine S_X11_raise_2 ?_
    rw [hx.1.tp]
    exact Mw.ex (C_childCount hx.1) ⟨fun _ => ⟨hx, hf⟩, fun q => absurd (by omega) q⟩
  | succ n ih =>
    intro c s0 A hc c0 hx hW hf
    have b8 := hx.1.ok.2.1
    have c8 : c < 8 := by omega
    refine S_X11_raise_2 ?_
    rw [hx.1.tp, w32_of (by omega) (by omega)]
    refine Mw.ex (C_childCount hx.1) ⟨fun q => by omega, fun _ => Mw.ex (C_where hx.1 c0 c8) ⟨fun h => ?_, fun h => ⟨⟨c0, c8⟩, Mw.ex (C_age hx.1 c0 c8) ⟨⟨c0, c8⟩, ?_⟩⟩⟩⟩
    · have e1 : rai1 T A c = A := by unfold rai1; rw [if_neg h]
      have := ih (c + 1) s0 A (by omega) (by omega) hx hW hf
      unfold raiF
      rw [e1]
      exact this
    · rw [hx.1.tp, hx.1.w1, hx.1.w2, hx.1.y]
      have hc := hW.1.2.2.2.1 c c0 c8
      have hy := hW.1.1
      refine (C_grown hx.1.2.2.2.1 hx.1.ok hF hx.1.2.1 hc.1.1 hc.1.2 (age_le hx.1 c0 c8) hc.2 ⟨hy.1, by have := hy.2; show A 0 1 ≤ 1200; omega⟩).imp (fun r s8 h8 => ⟨⟨c0, c8⟩, fun s9 e9 => ?_⟩)
      have x8 := hx.jk h8.2
      have e1 : rai1 T A c = ups A 2 c r := by unfold rai1; rw [if_pos h, h8.1]
      have hW1 := rai1_ok hW c0 c8
      have x9 := x8.up2 (i := c) (v := r) (by show WN T (ups A 2 c r); rw [← e1]; exact hW1.1)
      rw [← e9] at x9
      have := ih (c + 1) s9 (ups A 2 c r) (by omega) (by omega) x9 (by rw [← e1]; exact hW1) (by rw [e9]; exact (hf.tr (h8.2.wk (fun o ho => Jw_k ho))).tr (Fr.up (Jw_in (by decide) (by decide))))
      unfold raiF
      rw [e1]
      exact this
theorem freeze_loop {w f b : Int} : ∀ (n : Nat) (c : Int) (s0 : Sg) (A : Wd), c + n = T 1 1 → 0 ≤ c → CZ s0 th tw T (A, w, f) b → WOK T A → Fr (Jw th) s s0 → P_X11_freeze_2 g (e + 1) (PZ s th tw T (freF T n c A, w, f) b) s0 th c := by
  intro n
  induction n with
  | zero =>
    intro c s0 A hc c0 hx hW hf
    refine S_X11_freeze_2 ?_
    rw [hx.1.tp]
    exact Mw.ex (C_childCount hx.1) ⟨fun _ => ⟨hx, hf⟩, fun q => absurd (by omega) q⟩
  | succ n ih =>
    intro c s0 A hc c0 hx hW hf
    have b8 := hx.1.ok.2.1
    have c8 : c < 8 := by omega
    refine S_X11_freeze_2 ?_
    rw [hx.1.tp, w32_of (show _ ≤ c + 1 by omega) (by omega)]
    refine Mw.ex (C_childCount hx.1) ⟨fun q => by omega, fun _ => ⟨⟨c0, c8⟩, ?_⟩⟩
    rw [hx.1.w3, hx.1.w2, hx.1.tp, hx.1.t0]
    have hs := (hW.1.2.2.2.1 c c0 c8).2
    have t := hx.1.ok.2.2.2.2.2.2.2.2.2.2.2.2
    refine ⟨fun h => ?_, fun h => ⟨⟨c0, c8⟩, ⟨c0, c8⟩, fun s3 e3 => ?_⟩⟩
    · have e1 : fre1 T A c = A := by unfold fre1; rw [if_pos h]
      unfold freF
      rw [e1]
      exact ih (c + 1) s0 A (by omega) (by omega) hx hW hf
    · have e1 : fre1 T A c = ups A 2 c (max 0 (A 2 c - T 0 18)) := by unfold fre1; rw [if_neg h]
      have hW1 := fre1_ok hx.1.ok hW c0 c8
      dsimp only at e3
      rw [w32_of (by omega) (by omega)] at e3
      have x3 := hx.up2 (i := c) (v := max 0 (A 2 c - T 0 18)) (by show WN T (ups A 2 c _); rw [← e1]; exact hW1.1)
      rw [← e3] at x3
      unfold freF
      rw [e1]
      exact ih (c + 1) s3 _ (by omega) (by omega) x3 (by rw [← e1]; exact hW1) (by rw [e3]; exact hf.tr (Fr.up (Jw_in (by decide) (by decide))))
theorem C_raise {X : WX} {b : Int} (hx : CZ s th tw T X b) (hF : TF T) (hW : WOK T X.1) : Mw g (e + 5) M_X11_raise [(19, th)] s (PZ s th tw T (raiF T (T 1 1).toNat 0 X.1, X.2) b) := by
  have b8 := hx.1.ok.2.1
  exact S_X11_raise (fun _ => raise_loop hF (T 1 1).toNat 0 s X.1 (by omega) (by omega) hx hW Fr.rf)
theorem C_freeze {X : WX} {b : Int} (hx : CZ s th tw T X b) (hW : WOK T X.1) : Mw g (e + 2) M_X11_freeze [(19, th)] s (PZ s th tw T (freF T (T 1 1).toNat 0 X.1, X.2) b) := by
  have b8 := hx.1.ok.2.1
  exact S_X11_freeze (fun _ => freeze_loop (T 1 1).toNat 0 s X.1 (by omega) (by omega) hx hW Fr.rf)
theorem blu1_ok {w c : Int} {Y : Wd × Int} (hT : TOK T) (hW : WOK T Y.1) (c0 : 0 ≤ c) (c1 : c < T 1 1) : WOK T (blu1 T w Y c).1 := by
  unfold blu1
  split
  · rename_i h
    have := wh2 h.1
    exact bldA_ok hT hW c0 c1 this.1 this.2
  · exact hW
theorem bluF_ok {w : Int} (hT : TOK T) : ∀ (n : Nat) (c : Int) (Y : Wd × Int), 0 ≤ c → c + n ≤ T 1 1 → WOK T Y.1 → WOK T (bluF T w n c Y).1 := by
  intro n
  induction n with
  | zero => intro c Y _ _ h; exact h
  | succ n ih => intro c Y c0 c1 h; exact ih (c + 1) _ (by omega) (by omega) (blu1_ok hT h c0 (by omega))
theorem blu_loop {w f : Int} (hF : TF T) : ∀ (n : Nat) (c : Int) (s0 : Sg) (Y : Wd × Int), c + n = T 1 1 → 0 ≤ c → CZ s0 th tw T (Y.1, w, f) Y.2 → WOK T Y.1 → Fr (Jw th) s s0 → P_X11_passYear_39 g (e + 5) (PZ s th tw T ((bluF T w n c Y).1, w, f) (bluF T w n c Y).2) s0 th c := by
  intro n
  induction n with
  | zero =>
    intro c s0 Y hc c0 hx hW hf
    refine S_X11_passYear_39 ?_
    rw [hx.1.tp]
    exact Mw.ex (C_childCount hx.1) ⟨fun _ => ⟨hx, hf⟩, fun q => absurd (by omega) q⟩
  | succ n ih =>
    intro c s0 Y hc c0 hx hW hf
    have b8 := hx.1.ok.2.1
    have c8 : c < 8 := by omega
    refine S_X11_passYear_39 ?_
    rw [hx.1.tp, w32_of (show _ ≤ c + 1 by omega) (by omega)]
    unfold bluF
    refine Mw.ex (C_childCount hx.1) ⟨fun q => by omega, fun _ => Mw.ex (C_where hx.1 c0 c8) ?_⟩
    rw [show s0 th 10 = w from hx.2.1]
    refine ⟨fun h => ?_, fun h => ⟨fun h2 => ?_, fun h2 => ?_⟩⟩
    · have e1 : blu1 T w Y c = Y := by unfold blu1; rw [if_neg (fun q => h q.1)]
      rw [e1]
      exact ih (c + 1) s0 Y (by omega) (by omega) hx hW hf
    · have e1 : blu1 T w Y c = Y := by unfold blu1; rw [if_neg (fun q => h2 q.2)]
      rw [e1]
      exact ih (c + 1) s0 Y (by omega) (by omega) hx hW hf
    · have hw := wh2 h
      refine (C_buildIn hx hF hW c0 (by omega) hw.1 hw.2).imp (fun r5 s6 h6 => ?_)
      have e1 : blu1 T w Y c = (bldA T Y.1 c, if bldW T Y.1 c = -1 then Y.2 else w32 (Y.2 + 1)) := by unfold blu1; rw [if_pos ⟨h, h2⟩]
      rw [e1]
      refine ih (c + 1) s6 (bldA T Y.1 c, if bldW T Y.1 c = -1 then Y.2 else w32 (Y.2 + 1)) (by omega) (by omega) ?_ (bldA_ok hx.1.ok hW c0 (by omega) hw.1 hw.2) (hf.tr h6.2.2)
      exact h6.2.1
theorem CZ.yea {X : WX} {b v : Int} (h : CZ s th tw T X b) (hn : WN T (ups X.1 0 1 v)) : CZ (ups s th 1 v) th tw T (ups X.1 0 1 v, X.2) b := by
  obtain ⟨q1, q2, q3, q4⟩ := h
  exact ⟨q1.up0 (by decide) hn, by rw [ups_k s (by decide)]; exact q2, by rw [ups_k s (by decide)]; exact q3, by rw [ups_k s (by decide)]; exact q4⟩
theorem preA_ok {fr : Int} (hT : TOK T) (hW : WOK T A) : WOK T (preA T fr A) := by
  have b8 := hT.2.1
  unfold preA
  split
  · exact (raiF_ok _ _ _ (by omega) (by omega) hW).year hT
  · exact freF_ok hT _ _ _ (by omega) (by omega) ((raiF_ok _ _ _ (by omega) (by omega) hW).year hT)
theorem C_passYear {X : WX} {b fr : Int} (hx : CZ s th tw T X b) (hF : TF T) (hW : WOK T X.1) : Mw g (e + 6) M_X11_passYear [(19, th), (0, fr)] s (PZ s th tw T ((pasA T fr X.1 X.2.2 b).1, (falY T fr X.1 X.2.2).2) (pasA T fr X.1 X.2.2 b).2) := by
  have hT := hx.1.ok
  have b8 := hT.2.1
  refine S_X11_passYear (fun _ _ => (C_raise hx hF hW).imp (fun _ s2 h2 s3 e3 => ?_))
  have hW2 := raiF_ok (T := T) (T 1 1).toNat 0 X.1 (by omega) (by omega) hW
  have by1 := hW2.1.1
  have x3 := h2.1.yea (v := min 999 (raiF T (T 1 1).toNat 0 X.1 0 1 + 1)) (hW2.year hT).1
  rw [h2.1.1.y] at e3
  dsimp only at e3
  rw [w32_of (show _ ≤ raiF T (T 1 1).toNat 0 X.1 0 1 + 1 by omega) (by omega)] at e3
  rw [← e3] at x3
  have f3 : Fr (Jw th) s s3 := by rw [e3]; exact h2.2.tr (Fr.up Jw_0)
  have h28 : ∀ (s5 : Sg), CZ s5 th tw T (preA T fr X.1, X.2) b → Fr (Jw th) s s5 → P_X11_passYear_28 g (e + 5) (PZ s th tw T ((pasA T fr X.1 X.2.2 b).1, (falY T fr X.1 X.2.2).2) (pasA T fr X.1 X.2.2 b).2) s5 th := by
    intro s5 x5 f5
    have hp := preA_ok (fr := fr) hT hW
    refine S_X11_passYear_28 (fun s6 e6 => ?_)
    have x6 := x5.cnt (x := 0)
    rw [← e6] at x6
    refine (C_fall x6 hp).imp (fun _ s7 h7 => ?_)
    refine blu_loop hF (T 1 1).toNat 0 s7 ((falY T fr X.1 X.2.2).1, b) (by omega) (by omega) h7.1 (fallX_ok 8 _ hT hp) ?_
    refine f5.tr (Fr.tr ?_ h7.2)
    rw [e6]
    exact Fr.up Jw_0
  refine ⟨fun h => h28 s3 ?_ f3, fun h => (C_freeze x3 (hW2.year hT)).imp (fun _ s5 h5 => h28 s5 ?_ (f3.tr h5.2))⟩
  · unfold preA; rw [if_pos h]; exact x3
  · unfold preA; rw [if_neg h]; exact h5.1
theorem pasA_ok {fr f b : Int} (hT : TOK T) (hW : WOK T A) : WOK T (pasA T fr A f b).1 := by
  have b8 := hT.2.1
  exact bluF_ok hT _ _ _ (by omega) (by omega) (fallX_ok 8 _ hT (preA_ok hT hW))
theorem C_pullOut {X : WX} {b c : Int} (hx : CZ s th tw T X b) (hW : WOK T X.1) (c0 : 0 ≤ c) (c8 : c < 8) (h3 : X.1 3 c ≠ -1) : Mw g (e + 5) M_X11_pullOut [(19, th), (0, c)] s (PZ s th tw T (fallX T 8 (dropX X (X.1 3 c))) b) := by
  obtain ⟨p0, p1, p2⟩ := (hW.2.1.1 c c0 c8).resolve_left h3
  have hl : X.1 4 (X.1 3 c) ≠ -1 := by rw [p2]; omega
  have hh := hW.2.2.1 (X.1 3 c / 4) (by omega) (by omega)
  have hlt : X.1 3 c % 4 < X.1 5 (X.1 3 c / 4) := by
    have := hh.2.2 (X.1 3 c % 4) (by omega) (by omega)
    rw [show 4 * (X.1 3 c / 4) + X.1 3 c % 4 = X.1 3 c by omega] at this
    have : ¬ X.1 5 (X.1 3 c / 4) ≤ X.1 3 c % 4 := fun z => hl (this.mpr z)
    omega
  refine S_X11_pullOut (fun _ _ => ⟨⟨c0, c8⟩, ?_⟩)
  rw [hx.1.w3]
  refine (C_dropFrom hx hW.2.1 p0 p1 hh.2.1 (by omega)).imp (fun _ s2 h2 => ?_)
  exact (C_fall h2.1 (dropX_spec hW p0 p1 hl).1).imp (fun _ s4 h4 => ⟨h4.1, h2.2.tr h4.2⟩)
end PASS
