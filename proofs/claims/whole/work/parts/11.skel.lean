/-- the memory of a world: whole numbers of objects (by cell and place), long ones, contents of arrays -/
abbrev Mem : Type := (Nat → Nat → Int32) × (Nat → Nat → Int64) × (Nat → Nat → Int32)
/-- what the launch chose: classes and slots, classes of arrays, addresses -/
abbrev Gl : Type := va_G × (Nat → ClassId) × (Nat → Nat)
def gF (μ : Mem) (q k : Nat) : Int32 := μ.1 q k
def gL (μ : Mem) (q k : Nat) : Int64 := μ.2.1 q k
def gA (μ : Mem) (q : Nat) : Nat → Int32 := μ.2.2 q
def sF (μ : Mem) (q k : Nat) (v : Int32) : Mem := (fun a b => if a = q then (if b = k then v else μ.1 a b) else μ.1 a b, μ.2)
def sL (μ : Mem) (q k : Nat) (v : Int64) : Mem := (μ.1, fun a b => if a = q then (if b = k then v else μ.2.1 a b) else μ.2.1 a b, μ.2.2)
def sA (μ : Mem) (q : Nat) (f : Nat → Int32) : Mem := (μ.1, μ.2.1, fun a => if a = q then f else μ.2.2 a)
/-- the cells: class (0 .. 12; arrays: 13 int, 14 byte, 15 boolean, 16 Plain, 17 State, 18 Slope), length, references -/
def av_skl : List (Nat × Nat × List Nat) := [(11, 0, [14, 28, 8, 0, 9, 11, 0, 0, 0, 0, 0]), (16, 6, [2, 3, 4, 5, 6, 7]), (4, 0, []), (0, 0, []), (3, 0, []), (6, 0, []), (2, 0, []), (10, 0, []), (17, 2, [42, 56]), (5, 0, [10, 0, 0, 0, 0]), (14, 150, []), (1, 0, [15, 21, 12, 13, 0, 0]), (18, 7, [70, 74, 78, 82, 86, 90, 94]), (13, 6, []), (8, 0, [15, 21, 25, 0, 26, 27, 0]), (9, 0, [1, 0, 16, 17, 0, 18, 19, 20]), (13, 8, []), (13, 8, []), (13, 6, []), (13, 6, []), (13, 6, []), (7, 0, [15, 22, 23, 0, 0, 0, 0, 0, 24]), (13, 8, []), (13, 8, []), (13, 8, []), (13, 152, []), (13, 6, []), (13, 6, []), (8, 0, [29, 35, 39, 0, 40, 41, 0]), (9, 0, [1, 0, 30, 31, 0, 32, 33, 34]), (13, 8, []), (13, 8, []), (13, 6, []), (13, 6, []), (13, 6, []), (7, 0, [29, 36, 37, 0, 0, 0, 0, 0, 38]), (13, 8, []), (13, 8, []), (13, 8, []), (13, 152, []), (13, 6, []), (13, 6, []), (8, 0, [43, 49, 53, 0, 54, 55, 0]), (9, 0, [1, 0, 44, 45, 0, 46, 47, 48]), (13, 8, []), (13, 8, []), (13, 6, []), (13, 6, []), (13, 6, []), (7, 0, [43, 50, 51, 0, 0, 0, 0, 0, 52]), (13, 8, []), (13, 8, []), (13, 8, []), (13, 152, []), (13, 6, []), (13, 6, []), (8, 0, [57, 63, 67, 0, 68, 69, 0]), (9, 0, [1, 0, 58, 59, 0, 60, 61, 62]), (13, 8, []), (13, 8, []), (13, 6, []), (13, 6, []), (13, 6, []), (7, 0, [57, 64, 65, 0, 0, 0, 0, 0, 66]), (13, 8, []), (13, 8, []), (13, 8, []), (13, 152, []), (13, 6, []), (13, 6, []), (7, 0, [15, 71, 72, 0, 0, 0, 0, 0, 73]), (13, 8, []), (13, 8, []), (13, 8, []), (7, 0, [15, 75, 76, 0, 0, 0, 0, 0, 77]), (13, 8, []), (13, 8, []), (13, 8, []), (7, 0, [15, 79, 80, 0, 0, 0, 0, 0, 81]), (13, 8, []), (13, 8, []), (13, 8, []), (7, 0, [15, 83, 84, 0, 0, 0, 0, 0, 85]), (13, 8, []), (13, 8, []), (13, 8, []), (7, 0, [15, 87, 88, 0, 0, 0, 0, 0, 89]), (13, 8, []), (13, 8, []), (13, 8, []), (7, 0, [15, 91, 92, 0, 0, 0, 0, 0, 93]), (13, 8, []), (13, 8, []), (13, 8, []), (7, 0, [15, 95, 96, 0, 0, 0, 0, 0, 97]), (13, 8, []), (13, 8, []), (13, 8, []), (12, 0, [99, 100, 101, 102, 0, 0, 103, 104, 0, 0, 0, 0, 0, 105, 106, 107, 108, 109, 110, 0, 0, 111, 0, 0, 0, 0, 0, 112, 113]), (13, 221, []), (13, 442, []), (15, 2, []), (13, 3, []), (13, 8, []), (13, 8, []), (13, 6, []), (13, 6, []), (13, 5, []), (13, 5, []), (13, 40, []), (13, 40, []), (13, 150, []), (13, 69, []), (13, 3, [])]
def av_cls (q : Nat) : Nat := (av_skl.getD q (99, 0, [])).1
def av_ln (q : Nat) : Nat := (av_skl.getD q (99, 0, [])).2.1
def av_rf (q k : Nat) : Nat := ((av_skl.getD q (99, 0, [])).2.2).getD k 0
def av_fl (g : Gl) (μ : Mem) (q : Nat) (ci : Nat) : List Value := match ci with
  | 1 => [.ref (g.2.2 (av_rf q 0)), .ref (g.2.2 (av_rf q 1)), .ref (g.2.2 (av_rf q 2)), .ref (g.2.2 (av_rf q 3)), .int (gF μ q 4), .int (gF μ q 5)]
  | 5 => [.ref (g.2.2 (av_rf q 0)), .int (gF μ q 1), .int (gF μ q 2), .int (gF μ q 3), .int (gF μ q 4)]
  | 7 => [.ref (g.2.2 (av_rf q 0)), .ref (g.2.2 (av_rf q 1)), .ref (g.2.2 (av_rf q 2)), .int (gF μ q 3), .int (gF μ q 4), .int (gF μ q 5), .int (gF μ q 6), .int (gF μ q 7), .ref (g.2.2 (av_rf q 8))]
  | 8 => [.ref (g.2.2 (av_rf q 0)), .ref (g.2.2 (av_rf q 1)), .ref (g.2.2 (av_rf q 2)), .int (gF μ q 3), .ref (g.2.2 (av_rf q 4)), .ref (g.2.2 (av_rf q 5)), .int (gF μ q 6)]
  | 9 => [.ref (g.2.2 (av_rf q 0)), .int (gF μ q 1), .ref (g.2.2 (av_rf q 2)), .ref (g.2.2 (av_rf q 3)), .int (gF μ q 4), .ref (g.2.2 (av_rf q 5)), .ref (g.2.2 (av_rf q 6)), .ref (g.2.2 (av_rf q 7))]
  | 11 => [.ref (g.2.2 (av_rf q 0)), .ref (g.2.2 (av_rf q 1)), .ref (g.2.2 (av_rf q 2)), .int (gF μ q 3), .ref (g.2.2 (av_rf q 4)), .ref (g.2.2 (av_rf q 5)), .long (gL μ q 6), .long (gL μ q 7), .int (gF μ q 8), .int (gF μ q 9), .int (gF μ q 10)]
  | 12 => [.ref (g.2.2 (av_rf q 0)), .ref (g.2.2 (av_rf q 1)), .ref (g.2.2 (av_rf q 2)), .ref (g.2.2 (av_rf q 3)), .long (gL μ q 4), .long (gL μ q 5), .ref (g.2.2 (av_rf q 6)), .ref (g.2.2 (av_rf q 7)), .int (gF μ q 8), .int (gF μ q 9), .int (gF μ q 10), .int (gF μ q 11), .int (gF μ q 12), .ref (g.2.2 (av_rf q 13)), .ref (g.2.2 (av_rf q 14)), .ref (g.2.2 (av_rf q 15)), .ref (g.2.2 (av_rf q 16)), .ref (g.2.2 (av_rf q 17)), .ref (g.2.2 (av_rf q 18)), .int (gF μ q 19), .int (gF μ q 20), .ref (g.2.2 (av_rf q 21)), .int (gF μ q 22), .int (gF μ q 23), .int (gF μ q 24), .int (gF μ q 25), .int (gF μ q 26), .ref (g.2.2 (av_rf q 27)), .ref (g.2.2 (av_rf q 28))]
  | _ => []
theorem av_fl_0 (g : Gl) (μ : Mem) (q : Nat) : av_fl g μ q 0 = [] := rfl
theorem av_fl_1 (g : Gl) (μ : Mem) (q : Nat) : av_fl g μ q 1 = [.ref (g.2.2 (av_rf q 0)), .ref (g.2.2 (av_rf q 1)), .ref (g.2.2 (av_rf q 2)), .ref (g.2.2 (av_rf q 3)), .int (gF μ q 4), .int (gF μ q 5)] := rfl
theorem av_fs_1_4 (g : Gl) (μ : Mem) (q : Nat) (v : Int32) : av_fl g (sF μ q 4 v) q 1 = (av_fl g μ q 1).set 4 (.int v) := by simp [av_fl, sF, gF, gL]
theorem av_fs_1_5 (g : Gl) (μ : Mem) (q : Nat) (v : Int32) : av_fl g (sF μ q 5 v) q 1 = (av_fl g μ q 1).set 5 (.int v) := by simp [av_fl, sF, gF, gL]
theorem av_fl_2 (g : Gl) (μ : Mem) (q : Nat) : av_fl g μ q 2 = [] := rfl
theorem av_fl_3 (g : Gl) (μ : Mem) (q : Nat) : av_fl g μ q 3 = [] := rfl
theorem av_fl_4 (g : Gl) (μ : Mem) (q : Nat) : av_fl g μ q 4 = [] := rfl
theorem av_fl_5 (g : Gl) (μ : Mem) (q : Nat) : av_fl g μ q 5 = [.ref (g.2.2 (av_rf q 0)), .int (gF μ q 1), .int (gF μ q 2), .int (gF μ q 3), .int (gF μ q 4)] := rfl
theorem av_fs_5_1 (g : Gl) (μ : Mem) (q : Nat) (v : Int32) : av_fl g (sF μ q 1 v) q 5 = (av_fl g μ q 5).set 1 (.int v) := by simp [av_fl, sF, gF, gL]
theorem av_fs_5_2 (g : Gl) (μ : Mem) (q : Nat) (v : Int32) : av_fl g (sF μ q 2 v) q 5 = (av_fl g μ q 5).set 2 (.int v) := by simp [av_fl, sF, gF, gL]
theorem av_fs_5_3 (g : Gl) (μ : Mem) (q : Nat) (v : Int32) : av_fl g (sF μ q 3 v) q 5 = (av_fl g μ q 5).set 3 (.int v) := by simp [av_fl, sF, gF, gL]
theorem av_fs_5_4 (g : Gl) (μ : Mem) (q : Nat) (v : Int32) : av_fl g (sF μ q 4 v) q 5 = (av_fl g μ q 5).set 4 (.int v) := by simp [av_fl, sF, gF, gL]
theorem av_fl_6 (g : Gl) (μ : Mem) (q : Nat) : av_fl g μ q 6 = [] := rfl
theorem av_fl_7 (g : Gl) (μ : Mem) (q : Nat) : av_fl g μ q 7 = [.ref (g.2.2 (av_rf q 0)), .ref (g.2.2 (av_rf q 1)), .ref (g.2.2 (av_rf q 2)), .int (gF μ q 3), .int (gF μ q 4), .int (gF μ q 5), .int (gF μ q 6), .int (gF μ q 7), .ref (g.2.2 (av_rf q 8))] := rfl
theorem av_fs_7_3 (g : Gl) (μ : Mem) (q : Nat) (v : Int32) : av_fl g (sF μ q 3 v) q 7 = (av_fl g μ q 7).set 3 (.int v) := by simp [av_fl, sF, gF, gL]
theorem av_fs_7_4 (g : Gl) (μ : Mem) (q : Nat) (v : Int32) : av_fl g (sF μ q 4 v) q 7 = (av_fl g μ q 7).set 4 (.int v) := by simp [av_fl, sF, gF, gL]
theorem av_fs_7_5 (g : Gl) (μ : Mem) (q : Nat) (v : Int32) : av_fl g (sF μ q 5 v) q 7 = (av_fl g μ q 7).set 5 (.int v) := by simp [av_fl, sF, gF, gL]
theorem av_fs_7_6 (g : Gl) (μ : Mem) (q : Nat) (v : Int32) : av_fl g (sF μ q 6 v) q 7 = (av_fl g μ q 7).set 6 (.int v) := by simp [av_fl, sF, gF, gL]
theorem av_fs_7_7 (g : Gl) (μ : Mem) (q : Nat) (v : Int32) : av_fl g (sF μ q 7 v) q 7 = (av_fl g μ q 7).set 7 (.int v) := by simp [av_fl, sF, gF, gL]
theorem av_fl_8 (g : Gl) (μ : Mem) (q : Nat) : av_fl g μ q 8 = [.ref (g.2.2 (av_rf q 0)), .ref (g.2.2 (av_rf q 1)), .ref (g.2.2 (av_rf q 2)), .int (gF μ q 3), .ref (g.2.2 (av_rf q 4)), .ref (g.2.2 (av_rf q 5)), .int (gF μ q 6)] := rfl
theorem av_fs_8_3 (g : Gl) (μ : Mem) (q : Nat) (v : Int32) : av_fl g (sF μ q 3 v) q 8 = (av_fl g μ q 8).set 3 (.int v) := by simp [av_fl, sF, gF, gL]
theorem av_fs_8_6 (g : Gl) (μ : Mem) (q : Nat) (v : Int32) : av_fl g (sF μ q 6 v) q 8 = (av_fl g μ q 8).set 6 (.int v) := by simp [av_fl, sF, gF, gL]
theorem av_fl_9 (g : Gl) (μ : Mem) (q : Nat) : av_fl g μ q 9 = [.ref (g.2.2 (av_rf q 0)), .int (gF μ q 1), .ref (g.2.2 (av_rf q 2)), .ref (g.2.2 (av_rf q 3)), .int (gF μ q 4), .ref (g.2.2 (av_rf q 5)), .ref (g.2.2 (av_rf q 6)), .ref (g.2.2 (av_rf q 7))] := rfl
theorem av_fs_9_1 (g : Gl) (μ : Mem) (q : Nat) (v : Int32) : av_fl g (sF μ q 1 v) q 9 = (av_fl g μ q 9).set 1 (.int v) := by simp [av_fl, sF, gF, gL]
theorem av_fs_9_4 (g : Gl) (μ : Mem) (q : Nat) (v : Int32) : av_fl g (sF μ q 4 v) q 9 = (av_fl g μ q 9).set 4 (.int v) := by simp [av_fl, sF, gF, gL]
theorem av_fl_10 (g : Gl) (μ : Mem) (q : Nat) : av_fl g μ q 10 = [] := rfl
theorem av_fl_11 (g : Gl) (μ : Mem) (q : Nat) : av_fl g μ q 11 = [.ref (g.2.2 (av_rf q 0)), .ref (g.2.2 (av_rf q 1)), .ref (g.2.2 (av_rf q 2)), .int (gF μ q 3), .ref (g.2.2 (av_rf q 4)), .ref (g.2.2 (av_rf q 5)), .long (gL μ q 6), .long (gL μ q 7), .int (gF μ q 8), .int (gF μ q 9), .int (gF μ q 10)] := rfl
theorem av_fs_11_3 (g : Gl) (μ : Mem) (q : Nat) (v : Int32) : av_fl g (sF μ q 3 v) q 11 = (av_fl g μ q 11).set 3 (.int v) := by simp [av_fl, sF, gF, gL]
theorem av_fs_11_6 (g : Gl) (μ : Mem) (q : Nat) (v : Int64) : av_fl g (sL μ q 6 v) q 11 = (av_fl g μ q 11).set 6 (.long v) := by simp [av_fl, sL, gF, gL]
theorem av_fs_11_7 (g : Gl) (μ : Mem) (q : Nat) (v : Int64) : av_fl g (sL μ q 7 v) q 11 = (av_fl g μ q 11).set 7 (.long v) := by simp [av_fl, sL, gF, gL]
theorem av_fs_11_8 (g : Gl) (μ : Mem) (q : Nat) (v : Int32) : av_fl g (sF μ q 8 v) q 11 = (av_fl g μ q 11).set 8 (.int v) := by simp [av_fl, sF, gF, gL]
theorem av_fs_11_9 (g : Gl) (μ : Mem) (q : Nat) (v : Int32) : av_fl g (sF μ q 9 v) q 11 = (av_fl g μ q 11).set 9 (.int v) := by simp [av_fl, sF, gF, gL]
theorem av_fs_11_10 (g : Gl) (μ : Mem) (q : Nat) (v : Int32) : av_fl g (sF μ q 10 v) q 11 = (av_fl g μ q 11).set 10 (.int v) := by simp [av_fl, sF, gF, gL]
theorem av_fl_12 (g : Gl) (μ : Mem) (q : Nat) : av_fl g μ q 12 = [.ref (g.2.2 (av_rf q 0)), .ref (g.2.2 (av_rf q 1)), .ref (g.2.2 (av_rf q 2)), .ref (g.2.2 (av_rf q 3)), .long (gL μ q 4), .long (gL μ q 5), .ref (g.2.2 (av_rf q 6)), .ref (g.2.2 (av_rf q 7)), .int (gF μ q 8), .int (gF μ q 9), .int (gF μ q 10), .int (gF μ q 11), .int (gF μ q 12), .ref (g.2.2 (av_rf q 13)), .ref (g.2.2 (av_rf q 14)), .ref (g.2.2 (av_rf q 15)), .ref (g.2.2 (av_rf q 16)), .ref (g.2.2 (av_rf q 17)), .ref (g.2.2 (av_rf q 18)), .int (gF μ q 19), .int (gF μ q 20), .ref (g.2.2 (av_rf q 21)), .int (gF μ q 22), .int (gF μ q 23), .int (gF μ q 24), .int (gF μ q 25), .int (gF μ q 26), .ref (g.2.2 (av_rf q 27)), .ref (g.2.2 (av_rf q 28))] := rfl
theorem av_fs_12_4 (g : Gl) (μ : Mem) (q : Nat) (v : Int64) : av_fl g (sL μ q 4 v) q 12 = (av_fl g μ q 12).set 4 (.long v) := by simp [av_fl, sL, gF, gL]
theorem av_fs_12_5 (g : Gl) (μ : Mem) (q : Nat) (v : Int64) : av_fl g (sL μ q 5 v) q 12 = (av_fl g μ q 12).set 5 (.long v) := by simp [av_fl, sL, gF, gL]
theorem av_fs_12_8 (g : Gl) (μ : Mem) (q : Nat) (v : Int32) : av_fl g (sF μ q 8 v) q 12 = (av_fl g μ q 12).set 8 (.int v) := by simp [av_fl, sF, gF, gL]
theorem av_fs_12_9 (g : Gl) (μ : Mem) (q : Nat) (v : Int32) : av_fl g (sF μ q 9 v) q 12 = (av_fl g μ q 12).set 9 (.int v) := by simp [av_fl, sF, gF, gL]
theorem av_fs_12_10 (g : Gl) (μ : Mem) (q : Nat) (v : Int32) : av_fl g (sF μ q 10 v) q 12 = (av_fl g μ q 12).set 10 (.int v) := by simp [av_fl, sF, gF, gL]
theorem av_fs_12_11 (g : Gl) (μ : Mem) (q : Nat) (v : Int32) : av_fl g (sF μ q 11 v) q 12 = (av_fl g μ q 12).set 11 (.int v) := by simp [av_fl, sF, gF, gL]
theorem av_fs_12_12 (g : Gl) (μ : Mem) (q : Nat) (v : Int32) : av_fl g (sF μ q 12 v) q 12 = (av_fl g μ q 12).set 12 (.int v) := by simp [av_fl, sF, gF, gL]
theorem av_fs_12_19 (g : Gl) (μ : Mem) (q : Nat) (v : Int32) : av_fl g (sF μ q 19 v) q 12 = (av_fl g μ q 12).set 19 (.int v) := by simp [av_fl, sF, gF, gL]
theorem av_fs_12_20 (g : Gl) (μ : Mem) (q : Nat) (v : Int32) : av_fl g (sF μ q 20 v) q 12 = (av_fl g μ q 12).set 20 (.int v) := by simp [av_fl, sF, gF, gL]
theorem av_fs_12_22 (g : Gl) (μ : Mem) (q : Nat) (v : Int32) : av_fl g (sF μ q 22 v) q 12 = (av_fl g μ q 12).set 22 (.int v) := by simp [av_fl, sF, gF, gL]
theorem av_fs_12_23 (g : Gl) (μ : Mem) (q : Nat) (v : Int32) : av_fl g (sF μ q 23 v) q 12 = (av_fl g μ q 12).set 23 (.int v) := by simp [av_fl, sF, gF, gL]
theorem av_fs_12_24 (g : Gl) (μ : Mem) (q : Nat) (v : Int32) : av_fl g (sF μ q 24 v) q 12 = (av_fl g μ q 12).set 24 (.int v) := by simp [av_fl, sF, gF, gL]
theorem av_fs_12_25 (g : Gl) (μ : Mem) (q : Nat) (v : Int32) : av_fl g (sF μ q 25 v) q 12 = (av_fl g μ q 12).set 25 (.int v) := by simp [av_fl, sF, gF, gL]
theorem av_fs_12_26 (g : Gl) (μ : Mem) (q : Nat) (v : Int32) : av_fl g (sF μ q 26 v) q 12 = (av_fl g μ q 12).set 26 (.int v) := by simp [av_fl, sF, gF, gL]
abbrev av_wc : Nat × Nat := (0, 98)
abbrev av_wm : Nat × Nat := (98, 16)
def av_t (w : Nat × Nat) (q ci : Nat) : Prop := av_cls q = ci ∧ w.1 ≤ q ∧ q < w.1 + w.2
theorem av_cls_big {q : Nat} (h : 114 ≤ q) : av_cls q = 99 := by
  unfold av_cls
  rw [List.getD_eq_getElem?_getD, List.getElem?_eq_none (by simpa [av_skl] using h)]
  rfl
theorem av_ty_1_0 {q : Nat} (h : av_t av_wc q 1) : av_t av_wc (av_rf q 0) 9 := by
  have h2 : q < 114 := by have := h.2.2; simp at this; omega
  have hd : ∀ x, x < 114 → av_cls x = 1 → av_wc.1 ≤ x → x < av_wc.1 + av_wc.2 → (av_cls (av_rf x 0) = 9 ∧ av_wc.1 ≤ av_rf x 0 ∧ av_rf x 0 < av_wc.1 + av_wc.2) := by decide +kernel
  exact hd q h2 h.1 h.2.1 h.2.2
theorem av_ty_1_1 {q : Nat} (h : av_t av_wc q 1) : av_t av_wc (av_rf q 1) 7 := by
  have h2 : q < 114 := by have := h.2.2; simp at this; omega
  have hd : ∀ x, x < 114 → av_cls x = 1 → av_wc.1 ≤ x → x < av_wc.1 + av_wc.2 → (av_cls (av_rf x 1) = 7 ∧ av_wc.1 ≤ av_rf x 1 ∧ av_rf x 1 < av_wc.1 + av_wc.2) := by decide +kernel
  exact hd q h2 h.1 h.2.1 h.2.2
theorem av_ty_1_2 {q : Nat} (h : av_t av_wc q 1) : av_t av_wc (av_rf q 2) 18 := by
  have h2 : q < 114 := by have := h.2.2; simp at this; omega
  have hd : ∀ x, x < 114 → av_cls x = 1 → av_wc.1 ≤ x → x < av_wc.1 + av_wc.2 → (av_cls (av_rf x 2) = 18 ∧ av_wc.1 ≤ av_rf x 2 ∧ av_rf x 2 < av_wc.1 + av_wc.2) := by decide +kernel
  exact hd q h2 h.1 h.2.1 h.2.2
theorem av_ll_1_2 {q : Nat} (h : av_t av_wc q 1) : av_ln (av_rf q 2) = 7 := by
  have h2 : q < 114 := by have := h.2.2; simp at this; omega
  have hd : ∀ x, x < 114 → av_cls x = 1 → av_ln (av_rf x 2) = 7 := by decide +kernel
  exact hd q h2 h.1
theorem av_ty_1_3 {q : Nat} (h : av_t av_wc q 1) : av_t av_wc (av_rf q 3) 13 := by
  have h2 : q < 114 := by have := h.2.2; simp at this; omega
  have hd : ∀ x, x < 114 → av_cls x = 1 → av_wc.1 ≤ x → x < av_wc.1 + av_wc.2 → (av_cls (av_rf x 3) = 13 ∧ av_wc.1 ≤ av_rf x 3 ∧ av_rf x 3 < av_wc.1 + av_wc.2) := by decide +kernel
  exact hd q h2 h.1 h.2.1 h.2.2
theorem av_ll_1_3 {q : Nat} (h : av_t av_wc q 1) : av_ln (av_rf q 3) = 6 := by
  have h2 : q < 114 := by have := h.2.2; simp at this; omega
  have hd : ∀ x, x < 114 → av_cls x = 1 → av_ln (av_rf x 3) = 6 := by decide +kernel
  exact hd q h2 h.1
theorem av_ty_5_0 {q : Nat} (h : av_t av_wc q 5) : av_t av_wc (av_rf q 0) 14 := by
  have h2 : q < 114 := by have := h.2.2; simp at this; omega
  have hd : ∀ x, x < 114 → av_cls x = 5 → av_wc.1 ≤ x → x < av_wc.1 + av_wc.2 → (av_cls (av_rf x 0) = 14 ∧ av_wc.1 ≤ av_rf x 0 ∧ av_rf x 0 < av_wc.1 + av_wc.2) := by decide +kernel
  exact hd q h2 h.1 h.2.1 h.2.2
theorem av_ll_5_0 {q : Nat} (h : av_t av_wc q 5) : av_ln (av_rf q 0) = 150 := by
  have h2 : q < 114 := by have := h.2.2; simp at this; omega
  have hd : ∀ x, x < 114 → av_cls x = 5 → av_ln (av_rf x 0) = 150 := by decide +kernel
  exact hd q h2 h.1
theorem av_ty_7_0 {q : Nat} (h : av_t av_wc q 7) : av_t av_wc (av_rf q 0) 9 := by
  have h2 : q < 114 := by have := h.2.2; simp at this; omega
  have hd : ∀ x, x < 114 → av_cls x = 7 → av_wc.1 ≤ x → x < av_wc.1 + av_wc.2 → (av_cls (av_rf x 0) = 9 ∧ av_wc.1 ≤ av_rf x 0 ∧ av_rf x 0 < av_wc.1 + av_wc.2) := by decide +kernel
  exact hd q h2 h.1 h.2.1 h.2.2
theorem av_ty_7_1 {q : Nat} (h : av_t av_wc q 7) : av_t av_wc (av_rf q 1) 13 := by
  have h2 : q < 114 := by have := h.2.2; simp at this; omega
  have hd : ∀ x, x < 114 → av_cls x = 7 → av_wc.1 ≤ x → x < av_wc.1 + av_wc.2 → (av_cls (av_rf x 1) = 13 ∧ av_wc.1 ≤ av_rf x 1 ∧ av_rf x 1 < av_wc.1 + av_wc.2) := by decide +kernel
  exact hd q h2 h.1 h.2.1 h.2.2
theorem av_ll_7_1 {q : Nat} (h : av_t av_wc q 7) : av_ln (av_rf q 1) = 8 := by
  have h2 : q < 114 := by have := h.2.2; simp at this; omega
  have hd : ∀ x, x < 114 → av_cls x = 7 → av_ln (av_rf x 1) = 8 := by decide +kernel
  exact hd q h2 h.1
theorem av_ty_7_2 {q : Nat} (h : av_t av_wc q 7) : av_t av_wc (av_rf q 2) 13 := by
  have h2 : q < 114 := by have := h.2.2; simp at this; omega
  have hd : ∀ x, x < 114 → av_cls x = 7 → av_wc.1 ≤ x → x < av_wc.1 + av_wc.2 → (av_cls (av_rf x 2) = 13 ∧ av_wc.1 ≤ av_rf x 2 ∧ av_rf x 2 < av_wc.1 + av_wc.2) := by decide +kernel
  exact hd q h2 h.1 h.2.1 h.2.2
theorem av_ll_7_2 {q : Nat} (h : av_t av_wc q 7) : av_ln (av_rf q 2) = 8 := by
  have h2 : q < 114 := by have := h.2.2; simp at this; omega
  have hd : ∀ x, x < 114 → av_cls x = 7 → av_ln (av_rf x 2) = 8 := by decide +kernel
  exact hd q h2 h.1
theorem av_ty_7_8 {q : Nat} (h : av_t av_wc q 7) : av_t av_wc (av_rf q 8) 13 := by
  have h2 : q < 114 := by have := h.2.2; simp at this; omega
  have hd : ∀ x, x < 114 → av_cls x = 7 → av_wc.1 ≤ x → x < av_wc.1 + av_wc.2 → (av_cls (av_rf x 8) = 13 ∧ av_wc.1 ≤ av_rf x 8 ∧ av_rf x 8 < av_wc.1 + av_wc.2) := by decide +kernel
  exact hd q h2 h.1 h.2.1 h.2.2
theorem av_ll_7_8 {q : Nat} (h : av_t av_wc q 7) : av_ln (av_rf q 8) = 8 := by
  have h2 : q < 114 := by have := h.2.2; simp at this; omega
  have hd : ∀ x, x < 114 → av_cls x = 7 → av_ln (av_rf x 8) = 8 := by decide +kernel
  exact hd q h2 h.1
theorem av_ty_8_0 {q : Nat} (h : av_t av_wc q 8) : av_t av_wc (av_rf q 0) 9 := by
  have h2 : q < 114 := by have := h.2.2; simp at this; omega
  have hd : ∀ x, x < 114 → av_cls x = 8 → av_wc.1 ≤ x → x < av_wc.1 + av_wc.2 → (av_cls (av_rf x 0) = 9 ∧ av_wc.1 ≤ av_rf x 0 ∧ av_rf x 0 < av_wc.1 + av_wc.2) := by decide +kernel
  exact hd q h2 h.1 h.2.1 h.2.2
theorem av_ty_8_1 {q : Nat} (h : av_t av_wc q 8) : av_t av_wc (av_rf q 1) 7 := by
  have h2 : q < 114 := by have := h.2.2; simp at this; omega
  have hd : ∀ x, x < 114 → av_cls x = 8 → av_wc.1 ≤ x → x < av_wc.1 + av_wc.2 → (av_cls (av_rf x 1) = 7 ∧ av_wc.1 ≤ av_rf x 1 ∧ av_rf x 1 < av_wc.1 + av_wc.2) := by decide +kernel
  exact hd q h2 h.1 h.2.1 h.2.2
theorem av_ty_8_2 {q : Nat} (h : av_t av_wc q 8) : av_t av_wc (av_rf q 2) 13 := by
  have h2 : q < 114 := by have := h.2.2; simp at this; omega
  have hd : ∀ x, x < 114 → av_cls x = 8 → av_wc.1 ≤ x → x < av_wc.1 + av_wc.2 → (av_cls (av_rf x 2) = 13 ∧ av_wc.1 ≤ av_rf x 2 ∧ av_rf x 2 < av_wc.1 + av_wc.2) := by decide +kernel
  exact hd q h2 h.1 h.2.1 h.2.2
theorem av_ll_8_2 {q : Nat} (h : av_t av_wc q 8) : av_ln (av_rf q 2) = 152 := by
  have h2 : q < 114 := by have := h.2.2; simp at this; omega
  have hd : ∀ x, x < 114 → av_cls x = 8 → av_ln (av_rf x 2) = 152 := by decide +kernel
  exact hd q h2 h.1
theorem av_ty_8_4 {q : Nat} (h : av_t av_wc q 8) : av_t av_wc (av_rf q 4) 13 := by
  have h2 : q < 114 := by have := h.2.2; simp at this; omega
  have hd : ∀ x, x < 114 → av_cls x = 8 → av_wc.1 ≤ x → x < av_wc.1 + av_wc.2 → (av_cls (av_rf x 4) = 13 ∧ av_wc.1 ≤ av_rf x 4 ∧ av_rf x 4 < av_wc.1 + av_wc.2) := by decide +kernel
  exact hd q h2 h.1 h.2.1 h.2.2
theorem av_ll_8_4 {q : Nat} (h : av_t av_wc q 8) : av_ln (av_rf q 4) = 6 := by
  have h2 : q < 114 := by have := h.2.2; simp at this; omega
  have hd : ∀ x, x < 114 → av_cls x = 8 → av_ln (av_rf x 4) = 6 := by decide +kernel
  exact hd q h2 h.1
theorem av_ty_8_5 {q : Nat} (h : av_t av_wc q 8) : av_t av_wc (av_rf q 5) 13 := by
  have h2 : q < 114 := by have := h.2.2; simp at this; omega
  have hd : ∀ x, x < 114 → av_cls x = 8 → av_wc.1 ≤ x → x < av_wc.1 + av_wc.2 → (av_cls (av_rf x 5) = 13 ∧ av_wc.1 ≤ av_rf x 5 ∧ av_rf x 5 < av_wc.1 + av_wc.2) := by decide +kernel
  exact hd q h2 h.1 h.2.1 h.2.2
theorem av_ll_8_5 {q : Nat} (h : av_t av_wc q 8) : av_ln (av_rf q 5) = 6 := by
  have h2 : q < 114 := by have := h.2.2; simp at this; omega
  have hd : ∀ x, x < 114 → av_cls x = 8 → av_ln (av_rf x 5) = 6 := by decide +kernel
  exact hd q h2 h.1
theorem av_ty_9_0 {q : Nat} (h : av_t av_wc q 9) : av_t av_wc (av_rf q 0) 16 := by
  have h2 : q < 114 := by have := h.2.2; simp at this; omega
  have hd : ∀ x, x < 114 → av_cls x = 9 → av_wc.1 ≤ x → x < av_wc.1 + av_wc.2 → (av_cls (av_rf x 0) = 16 ∧ av_wc.1 ≤ av_rf x 0 ∧ av_rf x 0 < av_wc.1 + av_wc.2) := by decide +kernel
  exact hd q h2 h.1 h.2.1 h.2.2
theorem av_ll_9_0 {q : Nat} (h : av_t av_wc q 9) : av_ln (av_rf q 0) = 6 := by
  have h2 : q < 114 := by have := h.2.2; simp at this; omega
  have hd : ∀ x, x < 114 → av_cls x = 9 → av_ln (av_rf x 0) = 6 := by decide +kernel
  exact hd q h2 h.1
theorem av_ty_9_2 {q : Nat} (h : av_t av_wc q 9) : av_t av_wc (av_rf q 2) 13 := by
  have h2 : q < 114 := by have := h.2.2; simp at this; omega
  have hd : ∀ x, x < 114 → av_cls x = 9 → av_wc.1 ≤ x → x < av_wc.1 + av_wc.2 → (av_cls (av_rf x 2) = 13 ∧ av_wc.1 ≤ av_rf x 2 ∧ av_rf x 2 < av_wc.1 + av_wc.2) := by decide +kernel
  exact hd q h2 h.1 h.2.1 h.2.2
theorem av_ll_9_2 {q : Nat} (h : av_t av_wc q 9) : av_ln (av_rf q 2) = 8 := by
  have h2 : q < 114 := by have := h.2.2; simp at this; omega
  have hd : ∀ x, x < 114 → av_cls x = 9 → av_ln (av_rf x 2) = 8 := by decide +kernel
  exact hd q h2 h.1
theorem av_ty_9_3 {q : Nat} (h : av_t av_wc q 9) : av_t av_wc (av_rf q 3) 13 := by
  have h2 : q < 114 := by have := h.2.2; simp at this; omega
  have hd : ∀ x, x < 114 → av_cls x = 9 → av_wc.1 ≤ x → x < av_wc.1 + av_wc.2 → (av_cls (av_rf x 3) = 13 ∧ av_wc.1 ≤ av_rf x 3 ∧ av_rf x 3 < av_wc.1 + av_wc.2) := by decide +kernel
  exact hd q h2 h.1 h.2.1 h.2.2
theorem av_ll_9_3 {q : Nat} (h : av_t av_wc q 9) : av_ln (av_rf q 3) = 8 := by
  have h2 : q < 114 := by have := h.2.2; simp at this; omega
  have hd : ∀ x, x < 114 → av_cls x = 9 → av_ln (av_rf x 3) = 8 := by decide +kernel
  exact hd q h2 h.1
theorem av_ty_9_5 {q : Nat} (h : av_t av_wc q 9) : av_t av_wc (av_rf q 5) 13 := by
  have h2 : q < 114 := by have := h.2.2; simp at this; omega
  have hd : ∀ x, x < 114 → av_cls x = 9 → av_wc.1 ≤ x → x < av_wc.1 + av_wc.2 → (av_cls (av_rf x 5) = 13 ∧ av_wc.1 ≤ av_rf x 5 ∧ av_rf x 5 < av_wc.1 + av_wc.2) := by decide +kernel
  exact hd q h2 h.1 h.2.1 h.2.2
theorem av_ll_9_5 {q : Nat} (h : av_t av_wc q 9) : av_ln (av_rf q 5) = 6 := by
  have h2 : q < 114 := by have := h.2.2; simp at this; omega
  have hd : ∀ x, x < 114 → av_cls x = 9 → av_ln (av_rf x 5) = 6 := by decide +kernel
  exact hd q h2 h.1
theorem av_ty_9_6 {q : Nat} (h : av_t av_wc q 9) : av_t av_wc (av_rf q 6) 13 := by
  have h2 : q < 114 := by have := h.2.2; simp at this; omega
  have hd : ∀ x, x < 114 → av_cls x = 9 → av_wc.1 ≤ x → x < av_wc.1 + av_wc.2 → (av_cls (av_rf x 6) = 13 ∧ av_wc.1 ≤ av_rf x 6 ∧ av_rf x 6 < av_wc.1 + av_wc.2) := by decide +kernel
  exact hd q h2 h.1 h.2.1 h.2.2
theorem av_ll_9_6 {q : Nat} (h : av_t av_wc q 9) : av_ln (av_rf q 6) = 6 := by
  have h2 : q < 114 := by have := h.2.2; simp at this; omega
  have hd : ∀ x, x < 114 → av_cls x = 9 → av_ln (av_rf x 6) = 6 := by decide +kernel
  exact hd q h2 h.1
theorem av_ty_9_7 {q : Nat} (h : av_t av_wc q 9) : av_t av_wc (av_rf q 7) 13 := by
  have h2 : q < 114 := by have := h.2.2; simp at this; omega
  have hd : ∀ x, x < 114 → av_cls x = 9 → av_wc.1 ≤ x → x < av_wc.1 + av_wc.2 → (av_cls (av_rf x 7) = 13 ∧ av_wc.1 ≤ av_rf x 7 ∧ av_rf x 7 < av_wc.1 + av_wc.2) := by decide +kernel
  exact hd q h2 h.1 h.2.1 h.2.2
theorem av_ll_9_7 {q : Nat} (h : av_t av_wc q 9) : av_ln (av_rf q 7) = 6 := by
  have h2 : q < 114 := by have := h.2.2; simp at this; omega
  have hd : ∀ x, x < 114 → av_cls x = 9 → av_ln (av_rf x 7) = 6 := by decide +kernel
  exact hd q h2 h.1
theorem av_ty_11_0 {q : Nat} (h : av_t av_wc q 11) : av_t av_wc (av_rf q 0) 8 := by
  have h2 : q < 114 := by have := h.2.2; simp at this; omega
  have hd : ∀ x, x < 114 → av_cls x = 11 → av_wc.1 ≤ x → x < av_wc.1 + av_wc.2 → (av_cls (av_rf x 0) = 8 ∧ av_wc.1 ≤ av_rf x 0 ∧ av_rf x 0 < av_wc.1 + av_wc.2) := by decide +kernel
  exact hd q h2 h.1 h.2.1 h.2.2
theorem av_ty_11_1 {q : Nat} (h : av_t av_wc q 11) : av_t av_wc (av_rf q 1) 8 := by
  have h2 : q < 114 := by have := h.2.2; simp at this; omega
  have hd : ∀ x, x < 114 → av_cls x = 11 → av_wc.1 ≤ x → x < av_wc.1 + av_wc.2 → (av_cls (av_rf x 1) = 8 ∧ av_wc.1 ≤ av_rf x 1 ∧ av_rf x 1 < av_wc.1 + av_wc.2) := by decide +kernel
  exact hd q h2 h.1 h.2.1 h.2.2
theorem av_ty_11_2 {q : Nat} (h : av_t av_wc q 11) : av_t av_wc (av_rf q 2) 17 := by
  have h2 : q < 114 := by have := h.2.2; simp at this; omega
  have hd : ∀ x, x < 114 → av_cls x = 11 → av_wc.1 ≤ x → x < av_wc.1 + av_wc.2 → (av_cls (av_rf x 2) = 17 ∧ av_wc.1 ≤ av_rf x 2 ∧ av_rf x 2 < av_wc.1 + av_wc.2) := by decide +kernel
  exact hd q h2 h.1 h.2.1 h.2.2
theorem av_ll_11_2 {q : Nat} (h : av_t av_wc q 11) : av_ln (av_rf q 2) = 2 := by
  have h2 : q < 114 := by have := h.2.2; simp at this; omega
  have hd : ∀ x, x < 114 → av_cls x = 11 → av_ln (av_rf x 2) = 2 := by decide +kernel
  exact hd q h2 h.1
theorem av_ty_11_4 {q : Nat} (h : av_t av_wc q 11) : av_t av_wc (av_rf q 4) 5 := by
  have h2 : q < 114 := by have := h.2.2; simp at this; omega
  have hd : ∀ x, x < 114 → av_cls x = 11 → av_wc.1 ≤ x → x < av_wc.1 + av_wc.2 → (av_cls (av_rf x 4) = 5 ∧ av_wc.1 ≤ av_rf x 4 ∧ av_rf x 4 < av_wc.1 + av_wc.2) := by decide +kernel
  exact hd q h2 h.1 h.2.1 h.2.2
theorem av_ty_11_5 {q : Nat} (h : av_t av_wc q 11) : av_t av_wc (av_rf q 5) 1 := by
  have h2 : q < 114 := by have := h.2.2; simp at this; omega
  have hd : ∀ x, x < 114 → av_cls x = 11 → av_wc.1 ≤ x → x < av_wc.1 + av_wc.2 → (av_cls (av_rf x 5) = 1 ∧ av_wc.1 ≤ av_rf x 5 ∧ av_rf x 5 < av_wc.1 + av_wc.2) := by decide +kernel
  exact hd q h2 h.1 h.2.1 h.2.2
theorem av_ty_12_0 {q : Nat} (h : av_t av_wm q 12) : av_t av_wm (av_rf q 0) 13 := by
  have h2 : q < 114 := by have := h.2.2; simp at this; omega
  have hd : ∀ x, x < 114 → av_cls x = 12 → av_wm.1 ≤ x → x < av_wm.1 + av_wm.2 → (av_cls (av_rf x 0) = 13 ∧ av_wm.1 ≤ av_rf x 0 ∧ av_rf x 0 < av_wm.1 + av_wm.2) := by decide +kernel
  exact hd q h2 h.1 h.2.1 h.2.2
theorem av_ll_12_0 {q : Nat} (h : av_t av_wm q 12) : av_ln (av_rf q 0) = 221 := by
  have h2 : q < 114 := by have := h.2.2; simp at this; omega
  have hd : ∀ x, x < 114 → av_cls x = 12 → av_ln (av_rf x 0) = 221 := by decide +kernel
  exact hd q h2 h.1
theorem av_ty_12_1 {q : Nat} (h : av_t av_wm q 12) : av_t av_wm (av_rf q 1) 13 := by
  have h2 : q < 114 := by have := h.2.2; simp at this; omega
  have hd : ∀ x, x < 114 → av_cls x = 12 → av_wm.1 ≤ x → x < av_wm.1 + av_wm.2 → (av_cls (av_rf x 1) = 13 ∧ av_wm.1 ≤ av_rf x 1 ∧ av_rf x 1 < av_wm.1 + av_wm.2) := by decide +kernel
  exact hd q h2 h.1 h.2.1 h.2.2
theorem av_ll_12_1 {q : Nat} (h : av_t av_wm q 12) : av_ln (av_rf q 1) = 442 := by
  have h2 : q < 114 := by have := h.2.2; simp at this; omega
  have hd : ∀ x, x < 114 → av_cls x = 12 → av_ln (av_rf x 1) = 442 := by decide +kernel
  exact hd q h2 h.1
theorem av_ty_12_2 {q : Nat} (h : av_t av_wm q 12) : av_t av_wm (av_rf q 2) 15 := by
  have h2 : q < 114 := by have := h.2.2; simp at this; omega
  have hd : ∀ x, x < 114 → av_cls x = 12 → av_wm.1 ≤ x → x < av_wm.1 + av_wm.2 → (av_cls (av_rf x 2) = 15 ∧ av_wm.1 ≤ av_rf x 2 ∧ av_rf x 2 < av_wm.1 + av_wm.2) := by decide +kernel
  exact hd q h2 h.1 h.2.1 h.2.2
theorem av_ll_12_2 {q : Nat} (h : av_t av_wm q 12) : av_ln (av_rf q 2) = 2 := by
  have h2 : q < 114 := by have := h.2.2; simp at this; omega
  have hd : ∀ x, x < 114 → av_cls x = 12 → av_ln (av_rf x 2) = 2 := by decide +kernel
  exact hd q h2 h.1
theorem av_ty_12_3 {q : Nat} (h : av_t av_wm q 12) : av_t av_wm (av_rf q 3) 13 := by
  have h2 : q < 114 := by have := h.2.2; simp at this; omega
  have hd : ∀ x, x < 114 → av_cls x = 12 → av_wm.1 ≤ x → x < av_wm.1 + av_wm.2 → (av_cls (av_rf x 3) = 13 ∧ av_wm.1 ≤ av_rf x 3 ∧ av_rf x 3 < av_wm.1 + av_wm.2) := by decide +kernel
  exact hd q h2 h.1 h.2.1 h.2.2
theorem av_ll_12_3 {q : Nat} (h : av_t av_wm q 12) : av_ln (av_rf q 3) = 3 := by
  have h2 : q < 114 := by have := h.2.2; simp at this; omega
  have hd : ∀ x, x < 114 → av_cls x = 12 → av_ln (av_rf x 3) = 3 := by decide +kernel
  exact hd q h2 h.1
theorem av_ty_12_6 {q : Nat} (h : av_t av_wm q 12) : av_t av_wm (av_rf q 6) 13 := by
  have h2 : q < 114 := by have := h.2.2; simp at this; omega
  have hd : ∀ x, x < 114 → av_cls x = 12 → av_wm.1 ≤ x → x < av_wm.1 + av_wm.2 → (av_cls (av_rf x 6) = 13 ∧ av_wm.1 ≤ av_rf x 6 ∧ av_rf x 6 < av_wm.1 + av_wm.2) := by decide +kernel
  exact hd q h2 h.1 h.2.1 h.2.2
theorem av_ll_12_6 {q : Nat} (h : av_t av_wm q 12) : av_ln (av_rf q 6) = 8 := by
  have h2 : q < 114 := by have := h.2.2; simp at this; omega
  have hd : ∀ x, x < 114 → av_cls x = 12 → av_ln (av_rf x 6) = 8 := by decide +kernel
  exact hd q h2 h.1
theorem av_ty_12_7 {q : Nat} (h : av_t av_wm q 12) : av_t av_wm (av_rf q 7) 13 := by
  have h2 : q < 114 := by have := h.2.2; simp at this; omega
  have hd : ∀ x, x < 114 → av_cls x = 12 → av_wm.1 ≤ x → x < av_wm.1 + av_wm.2 → (av_cls (av_rf x 7) = 13 ∧ av_wm.1 ≤ av_rf x 7 ∧ av_rf x 7 < av_wm.1 + av_wm.2) := by decide +kernel
  exact hd q h2 h.1 h.2.1 h.2.2
theorem av_ll_12_7 {q : Nat} (h : av_t av_wm q 12) : av_ln (av_rf q 7) = 8 := by
  have h2 : q < 114 := by have := h.2.2; simp at this; omega
  have hd : ∀ x, x < 114 → av_cls x = 12 → av_ln (av_rf x 7) = 8 := by decide +kernel
  exact hd q h2 h.1
theorem av_ty_12_13 {q : Nat} (h : av_t av_wm q 12) : av_t av_wm (av_rf q 13) 13 := by
  have h2 : q < 114 := by have := h.2.2; simp at this; omega
  have hd : ∀ x, x < 114 → av_cls x = 12 → av_wm.1 ≤ x → x < av_wm.1 + av_wm.2 → (av_cls (av_rf x 13) = 13 ∧ av_wm.1 ≤ av_rf x 13 ∧ av_rf x 13 < av_wm.1 + av_wm.2) := by decide +kernel
  exact hd q h2 h.1 h.2.1 h.2.2
theorem av_ll_12_13 {q : Nat} (h : av_t av_wm q 12) : av_ln (av_rf q 13) = 6 := by
  have h2 : q < 114 := by have := h.2.2; simp at this; omega
  have hd : ∀ x, x < 114 → av_cls x = 12 → av_ln (av_rf x 13) = 6 := by decide +kernel
  exact hd q h2 h.1
theorem av_ty_12_14 {q : Nat} (h : av_t av_wm q 12) : av_t av_wm (av_rf q 14) 13 := by
  have h2 : q < 114 := by have := h.2.2; simp at this; omega
  have hd : ∀ x, x < 114 → av_cls x = 12 → av_wm.1 ≤ x → x < av_wm.1 + av_wm.2 → (av_cls (av_rf x 14) = 13 ∧ av_wm.1 ≤ av_rf x 14 ∧ av_rf x 14 < av_wm.1 + av_wm.2) := by decide +kernel
  exact hd q h2 h.1 h.2.1 h.2.2
theorem av_ll_12_14 {q : Nat} (h : av_t av_wm q 12) : av_ln (av_rf q 14) = 6 := by
  have h2 : q < 114 := by have := h.2.2; simp at this; omega
  have hd : ∀ x, x < 114 → av_cls x = 12 → av_ln (av_rf x 14) = 6 := by decide +kernel
  exact hd q h2 h.1
theorem av_ty_12_15 {q : Nat} (h : av_t av_wm q 12) : av_t av_wm (av_rf q 15) 13 := by
  have h2 : q < 114 := by have := h.2.2; simp at this; omega
  have hd : ∀ x, x < 114 → av_cls x = 12 → av_wm.1 ≤ x → x < av_wm.1 + av_wm.2 → (av_cls (av_rf x 15) = 13 ∧ av_wm.1 ≤ av_rf x 15 ∧ av_rf x 15 < av_wm.1 + av_wm.2) := by decide +kernel
  exact hd q h2 h.1 h.2.1 h.2.2
theorem av_ll_12_15 {q : Nat} (h : av_t av_wm q 12) : av_ln (av_rf q 15) = 5 := by
  have h2 : q < 114 := by have := h.2.2; simp at this; omega
  have hd : ∀ x, x < 114 → av_cls x = 12 → av_ln (av_rf x 15) = 5 := by decide +kernel
  exact hd q h2 h.1
theorem av_ty_12_16 {q : Nat} (h : av_t av_wm q 12) : av_t av_wm (av_rf q 16) 13 := by
  have h2 : q < 114 := by have := h.2.2; simp at this; omega
  have hd : ∀ x, x < 114 → av_cls x = 12 → av_wm.1 ≤ x → x < av_wm.1 + av_wm.2 → (av_cls (av_rf x 16) = 13 ∧ av_wm.1 ≤ av_rf x 16 ∧ av_rf x 16 < av_wm.1 + av_wm.2) := by decide +kernel
  exact hd q h2 h.1 h.2.1 h.2.2
theorem av_ll_12_16 {q : Nat} (h : av_t av_wm q 12) : av_ln (av_rf q 16) = 5 := by
  have h2 : q < 114 := by have := h.2.2; simp at this; omega
  have hd : ∀ x, x < 114 → av_cls x = 12 → av_ln (av_rf x 16) = 5 := by decide +kernel
  exact hd q h2 h.1
theorem av_ty_12_17 {q : Nat} (h : av_t av_wm q 12) : av_t av_wm (av_rf q 17) 13 := by
  have h2 : q < 114 := by have := h.2.2; simp at this; omega
  have hd : ∀ x, x < 114 → av_cls x = 12 → av_wm.1 ≤ x → x < av_wm.1 + av_wm.2 → (av_cls (av_rf x 17) = 13 ∧ av_wm.1 ≤ av_rf x 17 ∧ av_rf x 17 < av_wm.1 + av_wm.2) := by decide +kernel
  exact hd q h2 h.1 h.2.1 h.2.2
theorem av_ll_12_17 {q : Nat} (h : av_t av_wm q 12) : av_ln (av_rf q 17) = 40 := by
  have h2 : q < 114 := by have := h.2.2; simp at this; omega
  have hd : ∀ x, x < 114 → av_cls x = 12 → av_ln (av_rf x 17) = 40 := by decide +kernel
  exact hd q h2 h.1
theorem av_ty_12_18 {q : Nat} (h : av_t av_wm q 12) : av_t av_wm (av_rf q 18) 13 := by
  have h2 : q < 114 := by have := h.2.2; simp at this; omega
  have hd : ∀ x, x < 114 → av_cls x = 12 → av_wm.1 ≤ x → x < av_wm.1 + av_wm.2 → (av_cls (av_rf x 18) = 13 ∧ av_wm.1 ≤ av_rf x 18 ∧ av_rf x 18 < av_wm.1 + av_wm.2) := by decide +kernel
  exact hd q h2 h.1 h.2.1 h.2.2
theorem av_ll_12_18 {q : Nat} (h : av_t av_wm q 12) : av_ln (av_rf q 18) = 40 := by
  have h2 : q < 114 := by have := h.2.2; simp at this; omega
  have hd : ∀ x, x < 114 → av_cls x = 12 → av_ln (av_rf x 18) = 40 := by decide +kernel
  exact hd q h2 h.1
theorem av_ty_12_21 {q : Nat} (h : av_t av_wm q 12) : av_t av_wm (av_rf q 21) 13 := by
  have h2 : q < 114 := by have := h.2.2; simp at this; omega
  have hd : ∀ x, x < 114 → av_cls x = 12 → av_wm.1 ≤ x → x < av_wm.1 + av_wm.2 → (av_cls (av_rf x 21) = 13 ∧ av_wm.1 ≤ av_rf x 21 ∧ av_rf x 21 < av_wm.1 + av_wm.2) := by decide +kernel
  exact hd q h2 h.1 h.2.1 h.2.2
theorem av_ll_12_21 {q : Nat} (h : av_t av_wm q 12) : av_ln (av_rf q 21) = 150 := by
  have h2 : q < 114 := by have := h.2.2; simp at this; omega
  have hd : ∀ x, x < 114 → av_cls x = 12 → av_ln (av_rf x 21) = 150 := by decide +kernel
  exact hd q h2 h.1
theorem av_ty_12_27 {q : Nat} (h : av_t av_wm q 12) : av_t av_wm (av_rf q 27) 13 := by
  have h2 : q < 114 := by have := h.2.2; simp at this; omega
  have hd : ∀ x, x < 114 → av_cls x = 12 → av_wm.1 ≤ x → x < av_wm.1 + av_wm.2 → (av_cls (av_rf x 27) = 13 ∧ av_wm.1 ≤ av_rf x 27 ∧ av_rf x 27 < av_wm.1 + av_wm.2) := by decide +kernel
  exact hd q h2 h.1 h.2.1 h.2.2
theorem av_ll_12_27 {q : Nat} (h : av_t av_wm q 12) : av_ln (av_rf q 27) = 69 := by
  have h2 : q < 114 := by have := h.2.2; simp at this; omega
  have hd : ∀ x, x < 114 → av_cls x = 12 → av_ln (av_rf x 27) = 69 := by decide +kernel
  exact hd q h2 h.1
theorem av_ty_12_28 {q : Nat} (h : av_t av_wm q 12) : av_t av_wm (av_rf q 28) 13 := by
  have h2 : q < 114 := by have := h.2.2; simp at this; omega
  have hd : ∀ x, x < 114 → av_cls x = 12 → av_wm.1 ≤ x → x < av_wm.1 + av_wm.2 → (av_cls (av_rf x 28) = 13 ∧ av_wm.1 ≤ av_rf x 28 ∧ av_rf x 28 < av_wm.1 + av_wm.2) := by decide +kernel
  exact hd q h2 h.1 h.2.1 h.2.2
theorem av_ll_12_28 {q : Nat} (h : av_t av_wm q 12) : av_ln (av_rf q 28) = 3 := by
  have h2 : q < 114 := by have := h.2.2; simp at this; omega
  have hd : ∀ x, x < 114 → av_cls x = 12 → av_ln (av_rf x 28) = 3 := by decide +kernel
  exact hd q h2 h.1
theorem av_t0 : av_t av_wc 0 11 := by refine ⟨?_, ?_, ?_⟩ <;> decide +kernel
theorem av_r0_0 : av_rf 0 0 = 14 := by decide +kernel
theorem av_r0_1 : av_rf 0 1 = 28 := by decide +kernel
theorem av_r0_2 : av_rf 0 2 = 8 := by decide +kernel
theorem av_r0_4 : av_rf 0 4 = 9 := by decide +kernel
theorem av_r0_5 : av_rf 0 5 = 11 := by decide +kernel
theorem av_t1 : av_t av_wc 1 16 := by refine ⟨?_, ?_, ?_⟩ <;> decide +kernel
theorem av_l1 : av_ln 1 = 6 := by decide +kernel
theorem av_r1_0 : av_rf 1 0 = 2 := by decide +kernel
theorem av_r1_1 : av_rf 1 1 = 3 := by decide +kernel
theorem av_r1_2 : av_rf 1 2 = 4 := by decide +kernel
theorem av_r1_3 : av_rf 1 3 = 5 := by decide +kernel
theorem av_r1_4 : av_rf 1 4 = 6 := by decide +kernel
theorem av_r1_5 : av_rf 1 5 = 7 := by decide +kernel
theorem av_t2 : av_t av_wc 2 4 := by refine ⟨?_, ?_, ?_⟩ <;> decide +kernel
theorem av_t3 : av_t av_wc 3 0 := by refine ⟨?_, ?_, ?_⟩ <;> decide +kernel
theorem av_t4 : av_t av_wc 4 3 := by refine ⟨?_, ?_, ?_⟩ <;> decide +kernel
theorem av_t5 : av_t av_wc 5 6 := by refine ⟨?_, ?_, ?_⟩ <;> decide +kernel
theorem av_t6 : av_t av_wc 6 2 := by refine ⟨?_, ?_, ?_⟩ <;> decide +kernel
theorem av_t7 : av_t av_wc 7 10 := by refine ⟨?_, ?_, ?_⟩ <;> decide +kernel
theorem av_t8 : av_t av_wc 8 17 := by refine ⟨?_, ?_, ?_⟩ <;> decide +kernel
theorem av_l8 : av_ln 8 = 2 := by decide +kernel
theorem av_r8_0 : av_rf 8 0 = 42 := by decide +kernel
theorem av_r8_1 : av_rf 8 1 = 56 := by decide +kernel
theorem av_t9 : av_t av_wc 9 5 := by refine ⟨?_, ?_, ?_⟩ <;> decide +kernel
theorem av_r9_0 : av_rf 9 0 = 10 := by decide +kernel
theorem av_t10 : av_t av_wc 10 14 := by refine ⟨?_, ?_, ?_⟩ <;> decide +kernel
theorem av_l10 : av_ln 10 = 150 := by decide +kernel
theorem av_t11 : av_t av_wc 11 1 := by refine ⟨?_, ?_, ?_⟩ <;> decide +kernel
theorem av_r11_0 : av_rf 11 0 = 15 := by decide +kernel
theorem av_r11_1 : av_rf 11 1 = 21 := by decide +kernel
theorem av_r11_2 : av_rf 11 2 = 12 := by decide +kernel
theorem av_r11_3 : av_rf 11 3 = 13 := by decide +kernel
theorem av_t12 : av_t av_wc 12 18 := by refine ⟨?_, ?_, ?_⟩ <;> decide +kernel
theorem av_l12 : av_ln 12 = 7 := by decide +kernel
theorem av_r12_0 : av_rf 12 0 = 70 := by decide +kernel
theorem av_r12_1 : av_rf 12 1 = 74 := by decide +kernel
theorem av_r12_2 : av_rf 12 2 = 78 := by decide +kernel
theorem av_r12_3 : av_rf 12 3 = 82 := by decide +kernel
theorem av_r12_4 : av_rf 12 4 = 86 := by decide +kernel
theorem av_r12_5 : av_rf 12 5 = 90 := by decide +kernel
theorem av_r12_6 : av_rf 12 6 = 94 := by decide +kernel
theorem av_t13 : av_t av_wc 13 13 := by refine ⟨?_, ?_, ?_⟩ <;> decide +kernel
theorem av_l13 : av_ln 13 = 6 := by decide +kernel
theorem av_t14 : av_t av_wc 14 8 := by refine ⟨?_, ?_, ?_⟩ <;> decide +kernel
theorem av_r14_0 : av_rf 14 0 = 15 := by decide +kernel
theorem av_r14_1 : av_rf 14 1 = 21 := by decide +kernel
theorem av_r14_2 : av_rf 14 2 = 25 := by decide +kernel
theorem av_r14_4 : av_rf 14 4 = 26 := by decide +kernel
theorem av_r14_5 : av_rf 14 5 = 27 := by decide +kernel
theorem av_t15 : av_t av_wc 15 9 := by refine ⟨?_, ?_, ?_⟩ <;> decide +kernel
theorem av_r15_0 : av_rf 15 0 = 1 := by decide +kernel
theorem av_r15_2 : av_rf 15 2 = 16 := by decide +kernel
theorem av_r15_3 : av_rf 15 3 = 17 := by decide +kernel
theorem av_r15_5 : av_rf 15 5 = 18 := by decide +kernel
theorem av_r15_6 : av_rf 15 6 = 19 := by decide +kernel
theorem av_r15_7 : av_rf 15 7 = 20 := by decide +kernel
theorem av_t16 : av_t av_wc 16 13 := by refine ⟨?_, ?_, ?_⟩ <;> decide +kernel
theorem av_l16 : av_ln 16 = 8 := by decide +kernel
theorem av_t17 : av_t av_wc 17 13 := by refine ⟨?_, ?_, ?_⟩ <;> decide +kernel
theorem av_l17 : av_ln 17 = 8 := by decide +kernel
theorem av_t18 : av_t av_wc 18 13 := by refine ⟨?_, ?_, ?_⟩ <;> decide +kernel
theorem av_l18 : av_ln 18 = 6 := by decide +kernel
theorem av_t19 : av_t av_wc 19 13 := by refine ⟨?_, ?_, ?_⟩ <;> decide +kernel
theorem av_l19 : av_ln 19 = 6 := by decide +kernel
theorem av_t20 : av_t av_wc 20 13 := by refine ⟨?_, ?_, ?_⟩ <;> decide +kernel
theorem av_l20 : av_ln 20 = 6 := by decide +kernel
theorem av_t21 : av_t av_wc 21 7 := by refine ⟨?_, ?_, ?_⟩ <;> decide +kernel
theorem av_r21_0 : av_rf 21 0 = 15 := by decide +kernel
theorem av_r21_1 : av_rf 21 1 = 22 := by decide +kernel
theorem av_r21_2 : av_rf 21 2 = 23 := by decide +kernel
theorem av_r21_8 : av_rf 21 8 = 24 := by decide +kernel
theorem av_t22 : av_t av_wc 22 13 := by refine ⟨?_, ?_, ?_⟩ <;> decide +kernel
theorem av_l22 : av_ln 22 = 8 := by decide +kernel
theorem av_t23 : av_t av_wc 23 13 := by refine ⟨?_, ?_, ?_⟩ <;> decide +kernel
theorem av_l23 : av_ln 23 = 8 := by decide +kernel
theorem av_t24 : av_t av_wc 24 13 := by refine ⟨?_, ?_, ?_⟩ <;> decide +kernel
theorem av_l24 : av_ln 24 = 8 := by decide +kernel
theorem av_t25 : av_t av_wc 25 13 := by refine ⟨?_, ?_, ?_⟩ <;> decide +kernel
theorem av_l25 : av_ln 25 = 152 := by decide +kernel
theorem av_t26 : av_t av_wc 26 13 := by refine ⟨?_, ?_, ?_⟩ <;> decide +kernel
theorem av_l26 : av_ln 26 = 6 := by decide +kernel
theorem av_t27 : av_t av_wc 27 13 := by refine ⟨?_, ?_, ?_⟩ <;> decide +kernel
theorem av_l27 : av_ln 27 = 6 := by decide +kernel
theorem av_t28 : av_t av_wc 28 8 := by refine ⟨?_, ?_, ?_⟩ <;> decide +kernel
theorem av_r28_0 : av_rf 28 0 = 29 := by decide +kernel
theorem av_r28_1 : av_rf 28 1 = 35 := by decide +kernel
theorem av_r28_2 : av_rf 28 2 = 39 := by decide +kernel
theorem av_r28_4 : av_rf 28 4 = 40 := by decide +kernel
theorem av_r28_5 : av_rf 28 5 = 41 := by decide +kernel
theorem av_t29 : av_t av_wc 29 9 := by refine ⟨?_, ?_, ?_⟩ <;> decide +kernel
theorem av_r29_0 : av_rf 29 0 = 1 := by decide +kernel
theorem av_r29_2 : av_rf 29 2 = 30 := by decide +kernel
theorem av_r29_3 : av_rf 29 3 = 31 := by decide +kernel
theorem av_r29_5 : av_rf 29 5 = 32 := by decide +kernel
theorem av_r29_6 : av_rf 29 6 = 33 := by decide +kernel
theorem av_r29_7 : av_rf 29 7 = 34 := by decide +kernel
theorem av_t30 : av_t av_wc 30 13 := by refine ⟨?_, ?_, ?_⟩ <;> decide +kernel
theorem av_l30 : av_ln 30 = 8 := by decide +kernel
theorem av_t31 : av_t av_wc 31 13 := by refine ⟨?_, ?_, ?_⟩ <;> decide +kernel
theorem av_l31 : av_ln 31 = 8 := by decide +kernel
theorem av_t32 : av_t av_wc 32 13 := by refine ⟨?_, ?_, ?_⟩ <;> decide +kernel
theorem av_l32 : av_ln 32 = 6 := by decide +kernel
theorem av_t33 : av_t av_wc 33 13 := by refine ⟨?_, ?_, ?_⟩ <;> decide +kernel
theorem av_l33 : av_ln 33 = 6 := by decide +kernel
theorem av_t34 : av_t av_wc 34 13 := by refine ⟨?_, ?_, ?_⟩ <;> decide +kernel
theorem av_l34 : av_ln 34 = 6 := by decide +kernel
theorem av_t35 : av_t av_wc 35 7 := by refine ⟨?_, ?_, ?_⟩ <;> decide +kernel
theorem av_r35_0 : av_rf 35 0 = 29 := by decide +kernel
theorem av_r35_1 : av_rf 35 1 = 36 := by decide +kernel
theorem av_r35_2 : av_rf 35 2 = 37 := by decide +kernel
theorem av_r35_8 : av_rf 35 8 = 38 := by decide +kernel
theorem av_t36 : av_t av_wc 36 13 := by refine ⟨?_, ?_, ?_⟩ <;> decide +kernel
theorem av_l36 : av_ln 36 = 8 := by decide +kernel
theorem av_t37 : av_t av_wc 37 13 := by refine ⟨?_, ?_, ?_⟩ <;> decide +kernel
theorem av_l37 : av_ln 37 = 8 := by decide +kernel
theorem av_t38 : av_t av_wc 38 13 := by refine ⟨?_, ?_, ?_⟩ <;> decide +kernel
theorem av_l38 : av_ln 38 = 8 := by decide +kernel
theorem av_t39 : av_t av_wc 39 13 := by refine ⟨?_, ?_, ?_⟩ <;> decide +kernel
theorem av_l39 : av_ln 39 = 152 := by decide +kernel
theorem av_t40 : av_t av_wc 40 13 := by refine ⟨?_, ?_, ?_⟩ <;> decide +kernel
theorem av_l40 : av_ln 40 = 6 := by decide +kernel
theorem av_t41 : av_t av_wc 41 13 := by refine ⟨?_, ?_, ?_⟩ <;> decide +kernel
theorem av_l41 : av_ln 41 = 6 := by decide +kernel
theorem av_t42 : av_t av_wc 42 8 := by refine ⟨?_, ?_, ?_⟩ <;> decide +kernel
theorem av_r42_0 : av_rf 42 0 = 43 := by decide +kernel
theorem av_r42_1 : av_rf 42 1 = 49 := by decide +kernel
theorem av_r42_2 : av_rf 42 2 = 53 := by decide +kernel
theorem av_r42_4 : av_rf 42 4 = 54 := by decide +kernel
theorem av_r42_5 : av_rf 42 5 = 55 := by decide +kernel
theorem av_t43 : av_t av_wc 43 9 := by refine ⟨?_, ?_, ?_⟩ <;> decide +kernel
theorem av_r43_0 : av_rf 43 0 = 1 := by decide +kernel
theorem av_r43_2 : av_rf 43 2 = 44 := by decide +kernel
theorem av_r43_3 : av_rf 43 3 = 45 := by decide +kernel
theorem av_r43_5 : av_rf 43 5 = 46 := by decide +kernel
theorem av_r43_6 : av_rf 43 6 = 47 := by decide +kernel
theorem av_r43_7 : av_rf 43 7 = 48 := by decide +kernel
theorem av_t44 : av_t av_wc 44 13 := by refine ⟨?_, ?_, ?_⟩ <;> decide +kernel
theorem av_l44 : av_ln 44 = 8 := by decide +kernel
theorem av_t45 : av_t av_wc 45 13 := by refine ⟨?_, ?_, ?_⟩ <;> decide +kernel
theorem av_l45 : av_ln 45 = 8 := by decide +kernel
theorem av_t46 : av_t av_wc 46 13 := by refine ⟨?_, ?_, ?_⟩ <;> decide +kernel
theorem av_l46 : av_ln 46 = 6 := by decide +kernel
theorem av_t47 : av_t av_wc 47 13 := by refine ⟨?_, ?_, ?_⟩ <;> decide +kernel
theorem av_l47 : av_ln 47 = 6 := by decide +kernel
theorem av_t48 : av_t av_wc 48 13 := by refine ⟨?_, ?_, ?_⟩ <;> decide +kernel
theorem av_l48 : av_ln 48 = 6 := by decide +kernel
theorem av_t49 : av_t av_wc 49 7 := by refine ⟨?_, ?_, ?_⟩ <;> decide +kernel
theorem av_r49_0 : av_rf 49 0 = 43 := by decide +kernel
theorem av_r49_1 : av_rf 49 1 = 50 := by decide +kernel
theorem av_r49_2 : av_rf 49 2 = 51 := by decide +kernel
theorem av_r49_8 : av_rf 49 8 = 52 := by decide +kernel
theorem av_t50 : av_t av_wc 50 13 := by refine ⟨?_, ?_, ?_⟩ <;> decide +kernel
theorem av_l50 : av_ln 50 = 8 := by decide +kernel
theorem av_t51 : av_t av_wc 51 13 := by refine ⟨?_, ?_, ?_⟩ <;> decide +kernel
theorem av_l51 : av_ln 51 = 8 := by decide +kernel
theorem av_t52 : av_t av_wc 52 13 := by refine ⟨?_, ?_, ?_⟩ <;> decide +kernel
theorem av_l52 : av_ln 52 = 8 := by decide +kernel
theorem av_t53 : av_t av_wc 53 13 := by refine ⟨?_, ?_, ?_⟩ <;> decide +kernel
theorem av_l53 : av_ln 53 = 152 := by decide +kernel
theorem av_t54 : av_t av_wc 54 13 := by refine ⟨?_, ?_, ?_⟩ <;> decide +kernel
theorem av_l54 : av_ln 54 = 6 := by decide +kernel
theorem av_t55 : av_t av_wc 55 13 := by refine ⟨?_, ?_, ?_⟩ <;> decide +kernel
theorem av_l55 : av_ln 55 = 6 := by decide +kernel
theorem av_t56 : av_t av_wc 56 8 := by refine ⟨?_, ?_, ?_⟩ <;> decide +kernel
theorem av_r56_0 : av_rf 56 0 = 57 := by decide +kernel
theorem av_r56_1 : av_rf 56 1 = 63 := by decide +kernel
theorem av_r56_2 : av_rf 56 2 = 67 := by decide +kernel
theorem av_r56_4 : av_rf 56 4 = 68 := by decide +kernel
theorem av_r56_5 : av_rf 56 5 = 69 := by decide +kernel
theorem av_t57 : av_t av_wc 57 9 := by refine ⟨?_, ?_, ?_⟩ <;> decide +kernel
theorem av_r57_0 : av_rf 57 0 = 1 := by decide +kernel
theorem av_r57_2 : av_rf 57 2 = 58 := by decide +kernel
theorem av_r57_3 : av_rf 57 3 = 59 := by decide +kernel
theorem av_r57_5 : av_rf 57 5 = 60 := by decide +kernel
theorem av_r57_6 : av_rf 57 6 = 61 := by decide +kernel
theorem av_r57_7 : av_rf 57 7 = 62 := by decide +kernel
theorem av_t58 : av_t av_wc 58 13 := by refine ⟨?_, ?_, ?_⟩ <;> decide +kernel
theorem av_l58 : av_ln 58 = 8 := by decide +kernel
theorem av_t59 : av_t av_wc 59 13 := by refine ⟨?_, ?_, ?_⟩ <;> decide +kernel
theorem av_l59 : av_ln 59 = 8 := by decide +kernel
theorem av_t60 : av_t av_wc 60 13 := by refine ⟨?_, ?_, ?_⟩ <;> decide +kernel
theorem av_l60 : av_ln 60 = 6 := by decide +kernel
theorem av_t61 : av_t av_wc 61 13 := by refine ⟨?_, ?_, ?_⟩ <;> decide +kernel
theorem av_l61 : av_ln 61 = 6 := by decide +kernel
theorem av_t62 : av_t av_wc 62 13 := by refine ⟨?_, ?_, ?_⟩ <;> decide +kernel
theorem av_l62 : av_ln 62 = 6 := by decide +kernel
theorem av_t63 : av_t av_wc 63 7 := by refine ⟨?_, ?_, ?_⟩ <;> decide +kernel
theorem av_r63_0 : av_rf 63 0 = 57 := by decide +kernel
theorem av_r63_1 : av_rf 63 1 = 64 := by decide +kernel
theorem av_r63_2 : av_rf 63 2 = 65 := by decide +kernel
theorem av_r63_8 : av_rf 63 8 = 66 := by decide +kernel
theorem av_t64 : av_t av_wc 64 13 := by refine ⟨?_, ?_, ?_⟩ <;> decide +kernel
theorem av_l64 : av_ln 64 = 8 := by decide +kernel
theorem av_t65 : av_t av_wc 65 13 := by refine ⟨?_, ?_, ?_⟩ <;> decide +kernel
theorem av_l65 : av_ln 65 = 8 := by decide +kernel
theorem av_t66 : av_t av_wc 66 13 := by refine ⟨?_, ?_, ?_⟩ <;> decide +kernel
theorem av_l66 : av_ln 66 = 8 := by decide +kernel
theorem av_t67 : av_t av_wc 67 13 := by refine ⟨?_, ?_, ?_⟩ <;> decide +kernel
theorem av_l67 : av_ln 67 = 152 := by decide +kernel
theorem av_t68 : av_t av_wc 68 13 := by refine ⟨?_, ?_, ?_⟩ <;> decide +kernel
theorem av_l68 : av_ln 68 = 6 := by decide +kernel
theorem av_t69 : av_t av_wc 69 13 := by refine ⟨?_, ?_, ?_⟩ <;> decide +kernel
theorem av_l69 : av_ln 69 = 6 := by decide +kernel
theorem av_t70 : av_t av_wc 70 7 := by refine ⟨?_, ?_, ?_⟩ <;> decide +kernel
theorem av_r70_0 : av_rf 70 0 = 15 := by decide +kernel
theorem av_r70_1 : av_rf 70 1 = 71 := by decide +kernel
theorem av_r70_2 : av_rf 70 2 = 72 := by decide +kernel
theorem av_r70_8 : av_rf 70 8 = 73 := by decide +kernel
theorem av_t71 : av_t av_wc 71 13 := by refine ⟨?_, ?_, ?_⟩ <;> decide +kernel
theorem av_l71 : av_ln 71 = 8 := by decide +kernel
theorem av_t72 : av_t av_wc 72 13 := by refine ⟨?_, ?_, ?_⟩ <;> decide +kernel
theorem av_l72 : av_ln 72 = 8 := by decide +kernel
theorem av_t73 : av_t av_wc 73 13 := by refine ⟨?_, ?_, ?_⟩ <;> decide +kernel
theorem av_l73 : av_ln 73 = 8 := by decide +kernel
theorem av_t74 : av_t av_wc 74 7 := by refine ⟨?_, ?_, ?_⟩ <;> decide +kernel
theorem av_r74_0 : av_rf 74 0 = 15 := by decide +kernel
theorem av_r74_1 : av_rf 74 1 = 75 := by decide +kernel
theorem av_r74_2 : av_rf 74 2 = 76 := by decide +kernel
theorem av_r74_8 : av_rf 74 8 = 77 := by decide +kernel
theorem av_t75 : av_t av_wc 75 13 := by refine ⟨?_, ?_, ?_⟩ <;> decide +kernel
theorem av_l75 : av_ln 75 = 8 := by decide +kernel
theorem av_t76 : av_t av_wc 76 13 := by refine ⟨?_, ?_, ?_⟩ <;> decide +kernel
theorem av_l76 : av_ln 76 = 8 := by decide +kernel
theorem av_t77 : av_t av_wc 77 13 := by refine ⟨?_, ?_, ?_⟩ <;> decide +kernel
theorem av_l77 : av_ln 77 = 8 := by decide +kernel
theorem av_t78 : av_t av_wc 78 7 := by refine ⟨?_, ?_, ?_⟩ <;> decide +kernel
theorem av_r78_0 : av_rf 78 0 = 15 := by decide +kernel
theorem av_r78_1 : av_rf 78 1 = 79 := by decide +kernel
theorem av_r78_2 : av_rf 78 2 = 80 := by decide +kernel
theorem av_r78_8 : av_rf 78 8 = 81 := by decide +kernel
theorem av_t79 : av_t av_wc 79 13 := by refine ⟨?_, ?_, ?_⟩ <;> decide +kernel
theorem av_l79 : av_ln 79 = 8 := by decide +kernel
theorem av_t80 : av_t av_wc 80 13 := by refine ⟨?_, ?_, ?_⟩ <;> decide +kernel
theorem av_l80 : av_ln 80 = 8 := by decide +kernel
theorem av_t81 : av_t av_wc 81 13 := by refine ⟨?_, ?_, ?_⟩ <;> decide +kernel
theorem av_l81 : av_ln 81 = 8 := by decide +kernel
theorem av_t82 : av_t av_wc 82 7 := by refine ⟨?_, ?_, ?_⟩ <;> decide +kernel
theorem av_r82_0 : av_rf 82 0 = 15 := by decide +kernel
theorem av_r82_1 : av_rf 82 1 = 83 := by decide +kernel
theorem av_r82_2 : av_rf 82 2 = 84 := by decide +kernel
theorem av_r82_8 : av_rf 82 8 = 85 := by decide +kernel
theorem av_t83 : av_t av_wc 83 13 := by refine ⟨?_, ?_, ?_⟩ <;> decide +kernel
theorem av_l83 : av_ln 83 = 8 := by decide +kernel
theorem av_t84 : av_t av_wc 84 13 := by refine ⟨?_, ?_, ?_⟩ <;> decide +kernel
theorem av_l84 : av_ln 84 = 8 := by decide +kernel
theorem av_t85 : av_t av_wc 85 13 := by refine ⟨?_, ?_, ?_⟩ <;> decide +kernel
theorem av_l85 : av_ln 85 = 8 := by decide +kernel
theorem av_t86 : av_t av_wc 86 7 := by refine ⟨?_, ?_, ?_⟩ <;> decide +kernel
theorem av_r86_0 : av_rf 86 0 = 15 := by decide +kernel
theorem av_r86_1 : av_rf 86 1 = 87 := by decide +kernel
theorem av_r86_2 : av_rf 86 2 = 88 := by decide +kernel
theorem av_r86_8 : av_rf 86 8 = 89 := by decide +kernel
theorem av_t87 : av_t av_wc 87 13 := by refine ⟨?_, ?_, ?_⟩ <;> decide +kernel
theorem av_l87 : av_ln 87 = 8 := by decide +kernel
theorem av_t88 : av_t av_wc 88 13 := by refine ⟨?_, ?_, ?_⟩ <;> decide +kernel
theorem av_l88 : av_ln 88 = 8 := by decide +kernel
theorem av_t89 : av_t av_wc 89 13 := by refine ⟨?_, ?_, ?_⟩ <;> decide +kernel
theorem av_l89 : av_ln 89 = 8 := by decide +kernel
theorem av_t90 : av_t av_wc 90 7 := by refine ⟨?_, ?_, ?_⟩ <;> decide +kernel
theorem av_r90_0 : av_rf 90 0 = 15 := by decide +kernel
theorem av_r90_1 : av_rf 90 1 = 91 := by decide +kernel
theorem av_r90_2 : av_rf 90 2 = 92 := by decide +kernel
theorem av_r90_8 : av_rf 90 8 = 93 := by decide +kernel
theorem av_t91 : av_t av_wc 91 13 := by refine ⟨?_, ?_, ?_⟩ <;> decide +kernel
theorem av_l91 : av_ln 91 = 8 := by decide +kernel
theorem av_t92 : av_t av_wc 92 13 := by refine ⟨?_, ?_, ?_⟩ <;> decide +kernel
theorem av_l92 : av_ln 92 = 8 := by decide +kernel
theorem av_t93 : av_t av_wc 93 13 := by refine ⟨?_, ?_, ?_⟩ <;> decide +kernel
theorem av_l93 : av_ln 93 = 8 := by decide +kernel
theorem av_t94 : av_t av_wc 94 7 := by refine ⟨?_, ?_, ?_⟩ <;> decide +kernel
theorem av_r94_0 : av_rf 94 0 = 15 := by decide +kernel
theorem av_r94_1 : av_rf 94 1 = 95 := by decide +kernel
theorem av_r94_2 : av_rf 94 2 = 96 := by decide +kernel
theorem av_r94_8 : av_rf 94 8 = 97 := by decide +kernel
theorem av_t95 : av_t av_wc 95 13 := by refine ⟨?_, ?_, ?_⟩ <;> decide +kernel
theorem av_l95 : av_ln 95 = 8 := by decide +kernel
theorem av_t96 : av_t av_wc 96 13 := by refine ⟨?_, ?_, ?_⟩ <;> decide +kernel
theorem av_l96 : av_ln 96 = 8 := by decide +kernel
theorem av_t97 : av_t av_wc 97 13 := by refine ⟨?_, ?_, ?_⟩ <;> decide +kernel
theorem av_l97 : av_ln 97 = 8 := by decide +kernel
theorem av_t98 : av_t av_wm 98 12 := by refine ⟨?_, ?_, ?_⟩ <;> decide +kernel
theorem av_r98_0 : av_rf 98 0 = 99 := by decide +kernel
theorem av_r98_1 : av_rf 98 1 = 100 := by decide +kernel
theorem av_r98_2 : av_rf 98 2 = 101 := by decide +kernel
theorem av_r98_3 : av_rf 98 3 = 102 := by decide +kernel
theorem av_r98_6 : av_rf 98 6 = 103 := by decide +kernel
theorem av_r98_7 : av_rf 98 7 = 104 := by decide +kernel
theorem av_r98_13 : av_rf 98 13 = 105 := by decide +kernel
theorem av_r98_14 : av_rf 98 14 = 106 := by decide +kernel
theorem av_r98_15 : av_rf 98 15 = 107 := by decide +kernel
theorem av_r98_16 : av_rf 98 16 = 108 := by decide +kernel
theorem av_r98_17 : av_rf 98 17 = 109 := by decide +kernel
theorem av_r98_18 : av_rf 98 18 = 110 := by decide +kernel
theorem av_r98_21 : av_rf 98 21 = 111 := by decide +kernel
theorem av_r98_27 : av_rf 98 27 = 112 := by decide +kernel
theorem av_r98_28 : av_rf 98 28 = 113 := by decide +kernel
theorem av_t99 : av_t av_wm 99 13 := by refine ⟨?_, ?_, ?_⟩ <;> decide +kernel
theorem av_l99 : av_ln 99 = 221 := by decide +kernel
theorem av_t100 : av_t av_wm 100 13 := by refine ⟨?_, ?_, ?_⟩ <;> decide +kernel
theorem av_l100 : av_ln 100 = 442 := by decide +kernel
theorem av_t101 : av_t av_wm 101 15 := by refine ⟨?_, ?_, ?_⟩ <;> decide +kernel
theorem av_l101 : av_ln 101 = 2 := by decide +kernel
theorem av_t102 : av_t av_wm 102 13 := by refine ⟨?_, ?_, ?_⟩ <;> decide +kernel
theorem av_l102 : av_ln 102 = 3 := by decide +kernel
theorem av_t103 : av_t av_wm 103 13 := by refine ⟨?_, ?_, ?_⟩ <;> decide +kernel
theorem av_l103 : av_ln 103 = 8 := by decide +kernel
theorem av_t104 : av_t av_wm 104 13 := by refine ⟨?_, ?_, ?_⟩ <;> decide +kernel
theorem av_l104 : av_ln 104 = 8 := by decide +kernel
theorem av_t105 : av_t av_wm 105 13 := by refine ⟨?_, ?_, ?_⟩ <;> decide +kernel
theorem av_l105 : av_ln 105 = 6 := by decide +kernel
theorem av_t106 : av_t av_wm 106 13 := by refine ⟨?_, ?_, ?_⟩ <;> decide +kernel
theorem av_l106 : av_ln 106 = 6 := by decide +kernel
theorem av_t107 : av_t av_wm 107 13 := by refine ⟨?_, ?_, ?_⟩ <;> decide +kernel
theorem av_l107 : av_ln 107 = 5 := by decide +kernel
theorem av_t108 : av_t av_wm 108 13 := by refine ⟨?_, ?_, ?_⟩ <;> decide +kernel
theorem av_l108 : av_ln 108 = 5 := by decide +kernel
theorem av_t109 : av_t av_wm 109 13 := by refine ⟨?_, ?_, ?_⟩ <;> decide +kernel
theorem av_l109 : av_ln 109 = 40 := by decide +kernel
theorem av_t110 : av_t av_wm 110 13 := by refine ⟨?_, ?_, ?_⟩ <;> decide +kernel
theorem av_l110 : av_ln 110 = 40 := by decide +kernel
theorem av_t111 : av_t av_wm 111 13 := by refine ⟨?_, ?_, ?_⟩ <;> decide +kernel
theorem av_l111 : av_ln 111 = 150 := by decide +kernel
theorem av_t112 : av_t av_wm 112 13 := by refine ⟨?_, ?_, ?_⟩ <;> decide +kernel
theorem av_l112 : av_ln 112 = 69 := by decide +kernel
theorem av_t113 : av_t av_wm 113 13 := by refine ⟨?_, ?_, ?_⟩ <;> decide +kernel
theorem av_l113 : av_ln 113 = 3 := by decide +kernel
