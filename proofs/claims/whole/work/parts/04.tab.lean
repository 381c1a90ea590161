/-! the layout of the objects: by program (wip/gen/gtab.py) out of the two constructors -/
abbrev Sg : Type := Int → Int → Int
def ups (σ : Sg) (o k v : Int) : Sg := fun o2 k2 => if o2 = o ∧ k2 = k then v else σ o2 k2
def tgL : List Nat := [0, 20, 17, 30, 18, 31, 32, 33, 33, 33, 34, 34, 33, 33, 33, 35, 35, 36, 11, 37, 38, 11, 37, 38, 33, 18, 31, 32, 33, 33, 33, 34, 34, 33, 33, 33, 35, 35, 36, 11, 37, 38, 11, 37, 38, 33, 13, 15, 19, 33, 33, 33, 39, 40, 41, 14, 34, 34, 19, 33, 33, 33, 39, 40, 41, 10, 42, 43, 43, 43, 43, 43, 43, 43, 43, 43, 43, 43, 43, 43, 43, 43, 43, 43, 43, 43, 43, 16, 34, 12, 44, 34, 21, 45, 46, 47, 47, 46, 40, 40, 40, 46, 48, 48, 46, 33, 33, 36, 35, 35, 49, 49, 50, 51, 52, 48, 48, 53, 48, 48, 54, 34, 55, 55, 56, 56, 56, 56, 56, 55, 57, 58, 47, 34, 34, 34, 40, 40, 34, 59, 35, 60]
def tg (o : Int) : Nat := if o < 0 then 0 else tgL.getD o.toNat 0
def atL : List (Nat × Nat × Nat) := [(6, 1600, 0), (0, 3, 0), (7, 3, 33), (0, 8, 0), (0, 6, 0), (0, 4, 0), (0, 10, 0), (0, 1600, 0), (0, 96, 0), (0, 64, 0), (0, 16, 0), (0, 60, 0), (7, 20, 43), (0, 71, 0), (0, 61, 0), (0, 1800, 0), (0, 2, 0), (0, 12, 0), (0, 20, 0), (0, 3200, 0), (2, 12, 0), (2, 16, 0), (2, 8, 0), (1, 20, 0), (0, 500, 0), (0, 23, 0), (0, 184, 0), (0, 5520, 0), (2, 500, 0), (1, 625, 0), (0, 70, 0)]
def aE (t : Nat) : Nat := (atL.getD (t - 30) (0, 0, 0)).1
def aN (t : Nat) : Nat := (atL.getD (t - 30) (0, 0, 0)).2.1
def aI (t : Nat) : Nat := (atL.getD (t - 30) (0, 0, 0)).2.2
def fkL : List (List (Nat × Option Int)) := [
  [(42, some (1)), (0, none), (0, none)],
  [(37, some (1)), (38, some (2)), (0, none)],
  [(44, some (1)), (0, none)],
  [(15, some (1)), (18, none), (11, none), (0, none), (0, none)],
  [(19, some (3)), (34, some (1)), (0, none), (34, some (2)), (0, none)],
  [(17, some (-45)), (0, none), (0, none), (3, none), (0, none), (0, none), (0, none), (0, none)],
  [(0, none), (0, none), (34, some (1))],
  [(30, some (1)), (0, none)],
  [(31, some (1)), (32, some (2)), (34, some (6)), (34, some (7)), (33, some (8)), (33, some (9)), (33, some (10)), (35, some (11)), (35, some (12)), (36, some (13)), (11, some (14)), (11, some (17)), (33, some (20)), (0, none), (0, none), (0, none), (0, none), (0, none), (0, none)],
  [(18, none), (0, none), (0, none), (33, some (1)), (33, some (2)), (33, some (3)), (39, some (4)), (40, some (5)), (41, some (6)), (0, none), (0, none), (0, none), (0, none)],
  [(17, some (1)), (13, some (45)), (19, some (47)), (14, some (54)), (10, some (64)), (16, some (86)), (12, some (88)), (34, some (90)), (18, none), (18, none), (0, none), (0, none), (0, none)],
  [(45, some (1)), (0, none), (0, none), (0, none), (0, none), (0, none), (0, none), (2, none), (0, none), (0, none), (0, none), (0, none), (0, none), (0, none), (46, some (2)), (47, some (3)), (47, some (4)), (46, some (5)), (40, some (6)), (40, some (7)), (40, some (8)), (46, some (9)), (48, some (10)), (48, some (11)), (46, some (12)), (33, some (13)), (33, some (14)), (36, some (15)), (35, some (16)), (35, some (17)), (49, some (18)), (49, some (19)), (50, some (20)), (51, some (21)), (52, some (22)), (0, none), (0, none), (0, none), (48, some (23)), (48, some (24)), (53, some (25)), (48, some (26)), (48, some (27)), (0, none), (0, none), (54, some (28)), (0, none), (0, none), (34, some (29)), (55, some (30)), (55, some (31)), (56, some (32)), (56, some (33)), (56, some (34)), (56, some (35)), (56, some (36)), (55, some (37)), (57, some (38)), (0, none), (0, none), (2, none), (58, some (39)), (47, some (40)), (0, none), (0, none), (34, some (41)), (34, some (42)), (34, some (43)), (0, none), (0, none), (40, some (44)), (40, some (45)), (34, some (46)), (59, some (47)), (35, some (48)), (60, some (49)), (0, none)]]
def fkT (ci k : Nat) : Nat := ((fkL.getD ci []).getD k (0, none)).1
def fkO (ci k : Nat) : Option Int := ((fkL.getD ci []).getD k (0, none)).2
def nF (ci : Nat) : Nat := (fkL.getD ci []).length
def cNm : Nat → String
  | 0 => RX1
  | 1 => RX2
  | 2 => RX3
  | 3 => RX4
  | 4 => RX5
  | 5 => RX6
  | 6 => RX7
  | 7 => RX8
  | 8 => RX9
  | 9 => RX11
  | 10 => RX12
  | _ => RX13
def cT : Nat → u_T
  | 0 => TX1
  | 1 => TX2
  | 2 => TX3
  | 3 => TX4
  | 4 => TX5
  | 5 => TX6
  | 6 => TX7
  | 7 => TX8
  | 8 => TX9
  | 9 => TX11
  | 10 => TX12
  | _ => TX13
def cTy : Nat → Nat → FieldType
  | 0 => tyX1
  | 1 => tyX2
  | 2 => tyX3
  | 3 => tyX4
  | 4 => tyX5
  | 5 => tyX6
  | 6 => tyX7
  | 7 => tyX8
  | 8 => tyX9
  | 9 => tyX11
  | 10 => tyX12
  | _ => tyX13
theorem cl_at {ci : Nat} (h : ci < 12) : vwCl[ci]? = some (cNm ci, cT ci, nF ci) := by
  match ci, h with
  | 0, _ => rfl
  | 1, _ => rfl
  | 2, _ => rfl
  | 3, _ => rfl
  | 4, _ => rfl
  | 5, _ => rfl
  | 6, _ => rfl
  | 7, _ => rfl
  | 8, _ => rfl
  | 9, _ => rfl
  | 10, _ => rfl
  | 11, _ => rfl
  | n + 12, h => exact absurd h (by omega)
theorem cl_ty {ci : Nat} (h : ci < 12) : ∀ k, k < nF ci → parseFieldDescriptor (cT ci k).2.2.1 = some (cTy ci k) := by
  match ci, h with
  | 0, _ => exact tyX1_ok
  | 1, _ => exact tyX2_ok
  | 2, _ => exact tyX3_ok
  | 3, _ => exact tyX4_ok
  | 4, _ => exact tyX5_ok
  | 5, _ => exact tyX6_ok
  | 6, _ => exact tyX7_ok
  | 7, _ => exact tyX8_ok
  | 8, _ => exact tyX9_ok
  | 9, _ => exact tyX11_ok
  | 10, _ => exact tyX12_ok
  | 11, _ => exact tyX13_ok
  | n + 12, h => exact absurd h (by omega)
theorem cl_nm {ci : Nat} (h : ci < 12) : ∀ a, a < nF ci → ∀ b, b < nF ci → a ≠ b → (cT ci a).2.1 ≠ (cT ci b).2.1 := by
  match ci, h with
  | 0, _ => exact nmX1
  | 1, _ => exact nmX2
  | 2, _ => exact nmX3
  | 3, _ => exact nmX4
  | 4, _ => exact nmX5
  | 5, _ => exact nmX6
  | 6, _ => exact nmX7
  | 7, _ => exact nmX8
  | 8, _ => exact nmX9
  | 9, _ => exact nmX11
  | 10, _ => exact nmX12
  | 11, _ => exact nmX13
  | n + 12, h => exact absurd h (by omega)
def lwG : List Cond := lw_tbl.filter goodWord
theorem lwG_of {w : Cond} (k : Nat) (h : lw_tbl[k]? = some w) (hg : goodWord w = true) : w ∈ lwG := List.mem_filter.mpr ⟨List.mem_of_getElem? h, hg⟩
theorem lwG_in : GoodIn lwG lwG := fun w h => ⟨h, good_of_word (List.mem_filter.mp h).2⟩
theorem cl_in0 : ∀ w ∈ u_ws RX1 TX1 3, w ∈ lwG := by
  have h : (List.range 3).all (fun k => decide (lw_tbl[([521, 523, 525] : List Nat).getD k 0]? = some (u_lay RX1 TX1 k)) && goodWord (u_lay RX1 TX1 k)) = true := by decide +kernel
  intro w hw
  obtain ⟨k, hk, rfl⟩ := List.mem_map.mp hw
  have h1 := List.all_eq_true.mp h k hk
  rw [Bool.and_eq_true, decide_eq_true_eq] at h1
  exact lwG_of _ h1.1 h1.2
theorem cl_in1 : ∀ w ∈ u_ws RX2 TX2 3, w ∈ lwG := by
  have h : (List.range 3).all (fun k => decide (lw_tbl[([211, 213, 215] : List Nat).getD k 0]? = some (u_lay RX2 TX2 k)) && goodWord (u_lay RX2 TX2 k)) = true := by decide +kernel
  intro w hw
  obtain ⟨k, hk, rfl⟩ := List.mem_map.mp hw
  have h1 := List.all_eq_true.mp h k hk
  rw [Bool.and_eq_true, decide_eq_true_eq] at h1
  exact lwG_of _ h1.1 h1.2
theorem cl_in2 : ∀ w ∈ u_ws RX3 TX3 2, w ∈ lwG := by
  have h : (List.range 2).all (fun k => decide (lw_tbl[([555, 557] : List Nat).getD k 0]? = some (u_lay RX3 TX3 k)) && goodWord (u_lay RX3 TX3 k)) = true := by decide +kernel
  intro w hw
  obtain ⟨k, hk, rfl⟩ := List.mem_map.mp hw
  have h1 := List.all_eq_true.mp h k hk
  rw [Bool.and_eq_true, decide_eq_true_eq] at h1
  exact lwG_of _ h1.1 h1.2
theorem cl_in3 : ∀ w ∈ u_ws RX4 TX4 5, w ∈ lwG := by
  have h : (List.range 5).all (fun k => decide (lw_tbl[([379, 381, 383, 385, 387] : List Nat).getD k 0]? = some (u_lay RX4 TX4 k)) && goodWord (u_lay RX4 TX4 k)) = true := by decide +kernel
  intro w hw
  obtain ⟨k, hk, rfl⟩ := List.mem_map.mp hw
  have h1 := List.all_eq_true.mp h k hk
  rw [Bool.and_eq_true, decide_eq_true_eq] at h1
  exact lwG_of _ h1.1 h1.2
theorem cl_in4 : ∀ w ∈ u_ws RX5 TX5 5, w ∈ lwG := by
  have h : (List.range 5).all (fun k => decide (lw_tbl[([499, 501, 503, 505, 507] : List Nat).getD k 0]? = some (u_lay RX5 TX5 k)) && goodWord (u_lay RX5 TX5 k)) = true := by decide +kernel
  intro w hw
  obtain ⟨k, hk, rfl⟩ := List.mem_map.mp hw
  have h1 := List.all_eq_true.mp h k hk
  rw [Bool.and_eq_true, decide_eq_true_eq] at h1
  exact lwG_of _ h1.1 h1.2
theorem cl_in5 : ∀ w ∈ u_ws RX6 TX6 8, w ∈ lwG := by
  have h : (List.range 8).all (fun k => decide (lw_tbl[([356, 358, 360, 362, 364, 366, 368, 370] : List Nat).getD k 0]? = some (u_lay RX6 TX6 k)) && goodWord (u_lay RX6 TX6 k)) = true := by decide +kernel
  intro w hw
  obtain ⟨k, hk, rfl⟩ := List.mem_map.mp hw
  have h1 := List.all_eq_true.mp h k hk
  rw [Bool.and_eq_true, decide_eq_true_eq] at h1
  exact lwG_of _ h1.1 h1.2
theorem cl_in6 : ∀ w ∈ u_ws RX7 TX7 3, w ∈ lwG := by
  have h : (List.range 3).all (fun k => decide (lw_tbl[([538, 540, 542] : List Nat).getD k 0]? = some (u_lay RX7 TX7 k)) && goodWord (u_lay RX7 TX7 k)) = true := by decide +kernel
  intro w hw
  obtain ⟨k, hk, rfl⟩ := List.mem_map.mp hw
  have h1 := List.all_eq_true.mp h k hk
  rw [Bool.and_eq_true, decide_eq_true_eq] at h1
  exact lwG_of _ h1.1 h1.2
theorem cl_in7 : ∀ w ∈ u_ws RX8 TX8 2, w ∈ lwG := by
  have h : (List.range 2).all (fun k => decide (lw_tbl[([185, 187] : List Nat).getD k 0]? = some (u_lay RX8 TX8 k)) && goodWord (u_lay RX8 TX8 k)) = true := by decide +kernel
  intro w hw
  obtain ⟨k, hk, rfl⟩ := List.mem_map.mp hw
  have h1 := List.all_eq_true.mp h k hk
  rw [Bool.and_eq_true, decide_eq_true_eq] at h1
  exact lwG_of _ h1.1 h1.2
theorem cl_in8 : ∀ w ∈ u_ws RX9 TX9 19, w ∈ lwG := by
  have h : (List.range 19).all (fun k => decide (lw_tbl[([289, 291, 293, 295, 297, 299, 301, 303, 305, 307, 309, 311, 313, 315, 317, 319, 321, 323, 325] : List Nat).getD k 0]? = some (u_lay RX9 TX9 k)) && goodWord (u_lay RX9 TX9 k)) = true := by decide +kernel
  intro w hw
  obtain ⟨k, hk, rfl⟩ := List.mem_map.mp hw
  have h1 := List.all_eq_true.mp h k hk
  rw [Bool.and_eq_true, decide_eq_true_eq] at h1
  exact lwG_of _ h1.1 h1.2
theorem cl_in9 : ∀ w ∈ u_ws RX11 TX11 13, w ∈ lwG := by
  have h : (List.range 13).all (fun k => decide (lw_tbl[([456, 458, 460, 462, 464, 466, 468, 470, 472, 474, 476, 478, 480] : List Nat).getD k 0]? = some (u_lay RX11 TX11 k)) && goodWord (u_lay RX11 TX11 k)) = true := by decide +kernel
  intro w hw
  obtain ⟨k, hk, rfl⟩ := List.mem_map.mp hw
  have h1 := List.all_eq_true.mp h k hk
  rw [Bool.and_eq_true, decide_eq_true_eq] at h1
  exact lwG_of _ h1.1 h1.2
theorem cl_in10 : ∀ w ∈ u_ws RX12 TX12 13, w ∈ lwG := by
  have h : (List.range 13).all (fun k => decide (lw_tbl[([573, 575, 577, 579, 581, 583, 585, 587, 589, 591, 593, 595, 597] : List Nat).getD k 0]? = some (u_lay RX12 TX12 k)) && goodWord (u_lay RX12 TX12 k)) = true := by decide +kernel
  intro w hw
  obtain ⟨k, hk, rfl⟩ := List.mem_map.mp hw
  have h1 := List.all_eq_true.mp h k hk
  rw [Bool.and_eq_true, decide_eq_true_eq] at h1
  exact lwG_of _ h1.1 h1.2
theorem cl_in11 : ∀ w ∈ u_ws RX13 TX13 77, w ∈ lwG := by
  have h : (List.range 77).all (fun k => decide (lw_tbl[([1441, 1443, 1445, 1447, 1449, 1451, 1453, 1455, 1457, 1459, 1461, 1463, 1465, 1467, 1469, 1471, 1473, 1475, 1477, 1479, 1481, 1483, 1485, 1487, 1489, 1491, 1493, 1495, 1497, 1499, 1501, 1503, 1505, 1507, 1509, 1511, 1513, 1515, 1517, 1519, 1521, 1523, 1525, 1527, 1529, 1531, 1533, 1535, 1537, 1539, 1541, 1543, 1545, 1547, 1549, 1551, 1553, 1555, 1557, 1559, 1561, 1563, 1565, 1567, 1569, 1571, 1573, 1575, 1577, 1579, 1581, 1583, 1585, 1587, 1589, 1591, 1593] : List Nat).getD k 0]? = some (u_lay RX13 TX13 k)) && goodWord (u_lay RX13 TX13 k)) = true := by decide +kernel
  intro w hw
  obtain ⟨k, hk, rfl⟩ := List.mem_map.mp hw
  have h1 := List.all_eq_true.mp h k hk
  rw [Bool.and_eq_true, decide_eq_true_eq] at h1
  exact lwG_of _ h1.1 h1.2
theorem cl_in {ci : Nat} (h : ci < 12) : ∀ w ∈ u_ws (cNm ci) (cT ci) (nF ci), w ∈ lwG := by
  match ci, h with
  | 0, _ => exact cl_in0
  | 1, _ => exact cl_in1
  | 2, _ => exact cl_in2
  | 3, _ => exact cl_in3
  | 4, _ => exact cl_in4
  | 5, _ => exact cl_in5
  | 6, _ => exact cl_in6
  | 7, _ => exact cl_in7
  | 8, _ => exact cl_in8
  | 9, _ => exact cl_in9
  | 10, _ => exact cl_in10
  | 11, _ => exact cl_in11
  | n + 12, h => exact absurd h (by omega)
def enN : List String := ["HOME", "TALK", "WARM", "CHILD", "OF", "BORN", "TWINS", "FEUD", "WALL", "WIDE", "HIGH", "GAINS", "MAY", "RAISED", "TO", "WEIGHS", "FROST", "BITES", "AGE", "STRONG", "YEAR", "COURSE", "LEFT", "UNDER", "IF", "OR", "AND", "NOT", "ALL", "MIN", "MAX", "OTHER"]
def enC : List Int := [123022395, 287753796, 330920073, 47484252, 218422251, 37033929, 299389149, 89166906, 330801246, 334890207, 119717838, 101161656, 187559307, 259002904, 294949755, 332864551, 95969016, 33878601, 18167409, 283623667, 361412685, 51445319, 174976767, 308850084, 132328809, 224799543, 21867813, 209249973, 20962395, 191594322, 187539624, 0]
def enF : List Int := [(-1), (0), (1), (-1), (-1), (-1), (-1), (-1), (-1), (-1), (-1), (-1), (-1), (-1), (-1), (-1), (-1), (-1), (2), (3), (4), (5), (6), (7), (-1), (-1), (-1), (-1), (-1), (-1), (-1), (-1)]
def enS : List Int := [1, 0, 0, 2, 0, 0, 3, 4, 5, 0, 0, 6, 7, 8, 0, 9, 10, 11, 0, 0, 0, 0, 0, 0, 0, 0, 0, 0, 0, 0, 0, 0]
def enT : List (String × String × String × List Int32) := [("java/lang/Enum", "ordinal", "I", [0, 1, 2, 3, 4, 5, 6, 7, 8, 9, 10, 11, 12, 13, 14, 15, 16, 17, 18, 19, 20, 21, 22, 23, 24, 25, 26, 27, 28, 29, 30, 31]), (RX10, "code", "I", [123022395, 287753796, 330920073, 47484252, 218422251, 37033929, 299389149, 89166906, 330801246, 334890207, 119717838, 101161656, 187559307, 259002904, 294949755, 332864551, 95969016, 33878601, 18167409, 283623667, 361412685, 51445319, 174976767, 308850084, 132328809, 224799543, 21867813, 209249973, 20962395, 191594322, 187539624, 0]), (RX10, "fact", "I", [(-1), 0, 1, (-1), (-1), (-1), (-1), (-1), (-1), (-1), (-1), (-1), (-1), (-1), (-1), (-1), (-1), (-1), 2, 3, 4, 5, 6, 7, (-1), (-1), (-1), (-1), (-1), (-1), (-1), (-1)])]
