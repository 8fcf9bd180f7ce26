def ct_FA (g : Gl) (u : Nat → Nat) : va_W := [(u 0, .inr (11, [.ref (u 14), .ref (u 28), .ref (u 8), .int 0, .ref (u 9), .ref (u 11), .long 0, .long 1, .int 0, .int 0, .int 0])), (u 1, .inl (g.2.1 16, 6, .inr (.inr (.inr (.inr (va_up (va_up (va_up (va_up (va_up (va_up (fun _ => none) 0 (some (u 2))) 1 (some (u 3))) 2 (some (u 4))) 3 (some (u 5))) 4 (some (u 6))) 5 (some (u 7)))))))), (u 2, .inr (4, [])), (u 3, .inr (0, [])), (u 4, .inr (3, [])), (u 5, .inr (6, [])), (u 6, .inr (2, [])), (u 7, .inr (10, [])), (u 8, .inl (g.2.1 17, 2, .inr (.inr (.inr (.inr (va_up (va_up (fun _ => none) 0 (some (u 42))) 1 (some (u 56)))))))), (u 9, .inr (5, [.ref (u 10), .int 0, .int 0, .int 0, .int (-1)])), (u 10, .inl (g.2.1 14, 150, .inl (fun _ => (0 : Int32)))), (u 11, .inr (1, [.ref (u 15), .ref (u 21), .ref (u 12), .ref (u 13), .int 0, .int 0])), (u 12, .inl (g.2.1 18, 7, .inr (.inr (.inr (.inr (va_up (va_up (va_up (va_up (va_up (va_up (va_up (fun _ => none) 0 (some (u 70))) 1 (some (u 74))) 2 (some (u 78))) 3 (some (u 82))) 4 (some (u 86))) 5 (some (u 90))) 6 (some (u 94)))))))), (u 13, .inl (g.2.1 13, 6, .inl (fun _ => (0 : Int32)))), (u 14, .inr (8, [.ref (u 15), .ref (u 21), .ref (u 25), .int 0, .ref (u 26), .ref (u 27), .int 0])), (u 15, .inr (9, [.ref (u 1), .int 0, .ref (u 16), .ref (u 17), .int 0, .ref (u 18), .ref (u 19), .ref (u 20)])), (u 16, .inl (g.2.1 13, 8, .inl (fun _ => (0 : Int32)))), (u 17, .inl (g.2.1 13, 8, .inl (fun _ => (0 : Int32)))), (u 18, .inl (g.2.1 13, 6, .inl (fun _ => (0 : Int32)))), (u 19, .inl (g.2.1 13, 6, .inl (fun _ => (0 : Int32)))), (u 20, .inl (g.2.1 13, 6, .inl (fun _ => (0 : Int32)))), (u 21, .inr (7, [.ref (u 15), .ref (u 22), .ref (u 23), .int 0, .int (-1), .int 0, .int 0, .int 0, .ref (u 24)])), (u 22, .inl (g.2.1 13, 8, .inl (fun _ => (0 : Int32)))), (u 23, .inl (g.2.1 13, 8, .inl (fun _ => (0 : Int32)))), (u 24, .inl (g.2.1 13, 8, .inl (fun _ => (0 : Int32)))), (u 25, .inl (g.2.1 13, 152, .inl (fun _ => (0 : Int32)))), (u 26, .inl (g.2.1 13, 6, .inl (fun _ => (0 : Int32)))), (u 27, .inl (g.2.1 13, 6, .inl (fun _ => (0 : Int32)))), (u 28, .inr (8, [.ref (u 29), .ref (u 35), .ref (u 39), .int 0, .ref (u 40), .ref (u 41), .int 0])), (u 29, .inr (9, [.ref (u 1), .int 0, .ref (u 30), .ref (u 31), .int 0, .ref (u 32), .ref (u 33), .ref (u 34)])), (u 30, .inl (g.2.1 13, 8, .inl (fun _ => (0 : Int32)))), (u 31, .inl (g.2.1 13, 8, .inl (fun _ => (0 : Int32)))), (u 32, .inl (g.2.1 13, 6, .inl (fun _ => (0 : Int32)))), (u 33, .inl (g.2.1 13, 6, .inl (fun _ => (0 : Int32)))), (u 34, .inl (g.2.1 13, 6, .inl (fun _ => (0 : Int32)))), (u 35, .inr (7, [.ref (u 29), .ref (u 36), .ref (u 37), .int 0, .int (-1), .int 0, .int 0, .int 0, .ref (u 38)])), (u 36, .inl (g.2.1 13, 8, .inl (fun _ => (0 : Int32)))), (u 37, .inl (g.2.1 13, 8, .inl (fun _ => (0 : Int32)))), (u 38, .inl (g.2.1 13, 8, .inl (fun _ => (0 : Int32)))), (u 39, .inl (g.2.1 13, 152, .inl (fun _ => (0 : Int32)))), (u 40, .inl (g.2.1 13, 6, .inl (fun _ => (0 : Int32)))), (u 41, .inl (g.2.1 13, 6, .inl (fun _ => (0 : Int32)))), (u 42, .inr (8, [.ref (u 43), .ref (u 49), .ref (u 53), .int 0, .ref (u 54), .ref (u 55), .int 0])), (u 43, .inr (9, [.ref (u 1), .int 0, .ref (u 44), .ref (u 45), .int 0, .ref (u 46), .ref (u 47), .ref (u 48)])), (u 44, .inl (g.2.1 13, 8, .inl (fun _ => (0 : Int32)))), (u 45, .inl (g.2.1 13, 8, .inl (fun _ => (0 : Int32)))), (u 46, .inl (g.2.1 13, 6, .inl (fun _ => (0 : Int32)))), (u 47, .inl (g.2.1 13, 6, .inl (fun _ => (0 : Int32)))), (u 48, .inl (g.2.1 13, 6, .inl (fun _ => (0 : Int32)))), (u 49, .inr (7, [.ref (u 43), .ref (u 50), .ref (u 51), .int 0, .int (-1), .int 0, .int 0, .int 0, .ref (u 52)])), (u 50, .inl (g.2.1 13, 8, .inl (fun _ => (0 : Int32)))), (u 51, .inl (g.2.1 13, 8, .inl (fun _ => (0 : Int32)))), (u 52, .inl (g.2.1 13, 8, .inl (fun _ => (0 : Int32)))), (u 53, .inl (g.2.1 13, 152, .inl (fun _ => (0 : Int32)))), (u 54, .inl (g.2.1 13, 6, .inl (fun _ => (0 : Int32)))), (u 55, .inl (g.2.1 13, 6, .inl (fun _ => (0 : Int32)))), (u 56, .inr (8, [.ref (u 57), .ref (u 63), .ref (u 67), .int 0, .ref (u 68), .ref (u 69), .int 0])), (u 57, .inr (9, [.ref (u 1), .int 0, .ref (u 58), .ref (u 59), .int 0, .ref (u 60), .ref (u 61), .ref (u 62)])), (u 58, .inl (g.2.1 13, 8, .inl (fun _ => (0 : Int32)))), (u 59, .inl (g.2.1 13, 8, .inl (fun _ => (0 : Int32)))), (u 60, .inl (g.2.1 13, 6, .inl (fun _ => (0 : Int32)))), (u 61, .inl (g.2.1 13, 6, .inl (fun _ => (0 : Int32)))), (u 62, .inl (g.2.1 13, 6, .inl (fun _ => (0 : Int32)))), (u 63, .inr (7, [.ref (u 57), .ref (u 64), .ref (u 65), .int 0, .int (-1), .int 0, .int 0, .int 0, .ref (u 66)])), (u 64, .inl (g.2.1 13, 8, .inl (fun _ => (0 : Int32)))), (u 65, .inl (g.2.1 13, 8, .inl (fun _ => (0 : Int32)))), (u 66, .inl (g.2.1 13, 8, .inl (fun _ => (0 : Int32)))), (u 67, .inl (g.2.1 13, 152, .inl (fun _ => (0 : Int32)))), (u 68, .inl (g.2.1 13, 6, .inl (fun _ => (0 : Int32)))), (u 69, .inl (g.2.1 13, 6, .inl (fun _ => (0 : Int32)))), (u 70, .inr (7, [.ref (u 15), .ref (u 71), .ref (u 72), .int 0, .int (-1), .int 0, .int 0, .int 0, .ref (u 73)])), (u 71, .inl (g.2.1 13, 8, .inl (fun _ => (0 : Int32)))), (u 72, .inl (g.2.1 13, 8, .inl (fun _ => (0 : Int32)))), (u 73, .inl (g.2.1 13, 8, .inl (fun _ => (0 : Int32)))), (u 74, .inr (7, [.ref (u 15), .ref (u 75), .ref (u 76), .int 0, .int (-1), .int 0, .int 0, .int 0, .ref (u 77)])), (u 75, .inl (g.2.1 13, 8, .inl (fun _ => (0 : Int32)))), (u 76, .inl (g.2.1 13, 8, .inl (fun _ => (0 : Int32)))), (u 77, .inl (g.2.1 13, 8, .inl (fun _ => (0 : Int32)))), (u 78, .inr (7, [.ref (u 15), .ref (u 79), .ref (u 80), .int 0, .int (-1), .int 0, .int 0, .int 0, .ref (u 81)])), (u 79, .inl (g.2.1 13, 8, .inl (fun _ => (0 : Int32)))), (u 80, .inl (g.2.1 13, 8, .inl (fun _ => (0 : Int32)))), (u 81, .inl (g.2.1 13, 8, .inl (fun _ => (0 : Int32)))), (u 82, .inr (7, [.ref (u 15), .ref (u 83), .ref (u 84), .int 0, .int (-1), .int 0, .int 0, .int 0, .ref (u 85)])), (u 83, .inl (g.2.1 13, 8, .inl (fun _ => (0 : Int32)))), (u 84, .inl (g.2.1 13, 8, .inl (fun _ => (0 : Int32)))), (u 85, .inl (g.2.1 13, 8, .inl (fun _ => (0 : Int32)))), (u 86, .inr (7, [.ref (u 15), .ref (u 87), .ref (u 88), .int 0, .int (-1), .int 0, .int 0, .int 0, .ref (u 89)])), (u 87, .inl (g.2.1 13, 8, .inl (fun _ => (0 : Int32)))), (u 88, .inl (g.2.1 13, 8, .inl (fun _ => (0 : Int32)))), (u 89, .inl (g.2.1 13, 8, .inl (fun _ => (0 : Int32)))), (u 90, .inr (7, [.ref (u 15), .ref (u 91), .ref (u 92), .int 0, .int (-1), .int 0, .int 0, .int 0, .ref (u 93)])), (u 91, .inl (g.2.1 13, 8, .inl (fun _ => (0 : Int32)))), (u 92, .inl (g.2.1 13, 8, .inl (fun _ => (0 : Int32)))), (u 93, .inl (g.2.1 13, 8, .inl (fun _ => (0 : Int32)))), (u 94, .inr (7, [.ref (u 15), .ref (u 95), .ref (u 96), .int 0, .int (-1), .int 0, .int 0, .int 0, .ref (u 97)])), (u 95, .inl (g.2.1 13, 8, .inl (fun _ => (0 : Int32)))), (u 96, .inl (g.2.1 13, 8, .inl (fun _ => (0 : Int32)))), (u 97, .inl (g.2.1 13, 8, .inl (fun _ => (0 : Int32))))]
def ct_FM (g : Gl) (u : Nat → Nat) : va_W := [(u 0, .inr (12, [.ref (u 1), .ref (u 2), .ref (u 3), .ref (u 4), .long 0, .long 1, .ref (u 5), .ref (u 6), .int 0, .int 0, .int 0, .int 0, .int 0, .ref (u 7), .ref (u 8), .ref (u 9), .ref (u 10), .ref (u 11), .ref (u 12), .int 0, .int 0, .ref (u 13), .int 0, .int 0, .int 0, .int 0, .int 0, .ref (u 14), .ref (u 15)])), (u 1, .inl (g.2.1 13, 221, .inl (upd (fun _ => (0 : Int32)) 5 (-1)))), (u 2, .inl (g.2.1 13, 442, .inl (fun _ => (0 : Int32)))), (u 3, .inl (g.2.1 15, 2, .inl (fun _ => (0 : Int32)))), (u 4, .inl (g.2.1 13, 3, .inl (fun _ => (0 : Int32)))), (u 5, .inl (g.2.1 13, 8, .inl (fun _ => (0 : Int32)))), (u 6, .inl (g.2.1 13, 8, .inl (fun _ => (0 : Int32)))), (u 7, .inl (g.2.1 13, 6, .inl (fun _ => (0 : Int32)))), (u 8, .inl (g.2.1 13, 6, .inl (fun _ => (0 : Int32)))), (u 9, .inl (g.2.1 13, 5, .inl (fun _ => (0 : Int32)))), (u 10, .inl (g.2.1 13, 5, .inl (fun _ => (0 : Int32)))), (u 11, .inl (g.2.1 13, 40, .inl (fun _ => (0 : Int32)))), (u 12, .inl (g.2.1 13, 40, .inl (fun _ => (0 : Int32)))), (u 13, .inl (g.2.1 13, 150, .inl (fun _ => (0 : Int32)))), (u 14, .inl (g.2.1 13, 69, .inl (fun _ => (0 : Int32)))), (u 15, .inl (g.2.1 13, 3, .inl (fun _ => (0 : Int32))))]
theorem ct_FA_len (g : Gl) (u : Nat → Nat) : (ct_FA g u).length = 98 := rfl
theorem ct_FM_len (g : Gl) (u : Nat → Nat) : (ct_FM g u).length = 16 := rfl
theorem ct_rng {α : Type} (xs ys : List α) {n : Nat} (h : xs.length = n) : (List.range n).map (fun i => (xs ++ ys)[i]?) = xs.map some := by
  subst h
  apply List.ext_getElem?
  intro i
  rw [List.getElem?_map, List.getElem?_map]
  by_cases hi : i < xs.length
  · rw [List.getElem?_range hi]
    simp [List.getElem?_append_left hi, List.getElem?_eq_getElem hi]
  · rw [List.getElem?_eq_none (by simpa using hi), List.getElem?_eq_none (by omega)]
    rfl
def ct_ad (u v w : Nat → Nat) : Nat → Nat := fun q => if q < 98 then u q else if q < 114 then v (q - 98) else w (q - 200)
/-- the memories behind the constructors -/
def ct_mc : Mem := (fun q k => if k = 4 then (if av_cls q = 7 then -1 else if q = 9 then -1 else 0) else 0, fun q k => if q = 0 then (if k = 7 then 1 else 0) else 0, fun _ _ => 0)
def ct_mm : Mem := (fun _ _ => 0, fun q k => if k = 5 then 1 else 0, fun q => if q = 99 then upd (fun _ => 0) 5 (-1) else fun _ => 0)
theorem ct_arr {cA : ClassId} {n : Nat} {z z' : Nat → Value} (h : ∀ j, j < n → z j = z' j) : arrV cA n z = arrV cA n z' := by
  unfold arrV
  congr 1
  apply Array.ext
  · simp
  · intro i h1 h2
    simp at h1 ⊢
    exact h i h1
theorem ct_c0 (D : va_G) (ca : Nat → ClassId) (a0 u v w : Nat → Nat) : av_cell (D, ca, ct_ad u v w) ct_mc 0 = (ct_FA (D, ca, a0) u).getD 0 (0, .inr (0, [])) := rfl
theorem ct_c2 (D : va_G) (ca : Nat → ClassId) (a0 u v w : Nat → Nat) : av_cell (D, ca, ct_ad u v w) ct_mc 2 = (ct_FA (D, ca, a0) u).getD 2 (0, .inr (0, [])) := rfl
theorem ct_c3 (D : va_G) (ca : Nat → ClassId) (a0 u v w : Nat → Nat) : av_cell (D, ca, ct_ad u v w) ct_mc 3 = (ct_FA (D, ca, a0) u).getD 3 (0, .inr (0, [])) := rfl
theorem ct_c4 (D : va_G) (ca : Nat → ClassId) (a0 u v w : Nat → Nat) : av_cell (D, ca, ct_ad u v w) ct_mc 4 = (ct_FA (D, ca, a0) u).getD 4 (0, .inr (0, [])) := rfl
theorem ct_c5 (D : va_G) (ca : Nat → ClassId) (a0 u v w : Nat → Nat) : av_cell (D, ca, ct_ad u v w) ct_mc 5 = (ct_FA (D, ca, a0) u).getD 5 (0, .inr (0, [])) := rfl
theorem ct_c6 (D : va_G) (ca : Nat → ClassId) (a0 u v w : Nat → Nat) : av_cell (D, ca, ct_ad u v w) ct_mc 6 = (ct_FA (D, ca, a0) u).getD 6 (0, .inr (0, [])) := rfl
theorem ct_c7 (D : va_G) (ca : Nat → ClassId) (a0 u v w : Nat → Nat) : av_cell (D, ca, ct_ad u v w) ct_mc 7 = (ct_FA (D, ca, a0) u).getD 7 (0, .inr (0, [])) := rfl
theorem ct_c9 (D : va_G) (ca : Nat → ClassId) (a0 u v w : Nat → Nat) : av_cell (D, ca, ct_ad u v w) ct_mc 9 = (ct_FA (D, ca, a0) u).getD 9 (0, .inr (0, [])) := rfl
theorem ct_c10 (D : va_G) (ca : Nat → ClassId) (a0 u v w : Nat → Nat) : av_cell (D, ca, ct_ad u v w) ct_mc 10 = (ct_FA (D, ca, a0) u).getD 10 (0, .inr (0, [])) := rfl
theorem ct_c11 (D : va_G) (ca : Nat → ClassId) (a0 u v w : Nat → Nat) : av_cell (D, ca, ct_ad u v w) ct_mc 11 = (ct_FA (D, ca, a0) u).getD 11 (0, .inr (0, [])) := rfl
theorem ct_c13 (D : va_G) (ca : Nat → ClassId) (a0 u v w : Nat → Nat) : av_cell (D, ca, ct_ad u v w) ct_mc 13 = (ct_FA (D, ca, a0) u).getD 13 (0, .inr (0, [])) := rfl
theorem ct_c14 (D : va_G) (ca : Nat → ClassId) (a0 u v w : Nat → Nat) : av_cell (D, ca, ct_ad u v w) ct_mc 14 = (ct_FA (D, ca, a0) u).getD 14 (0, .inr (0, [])) := rfl
theorem ct_c15 (D : va_G) (ca : Nat → ClassId) (a0 u v w : Nat → Nat) : av_cell (D, ca, ct_ad u v w) ct_mc 15 = (ct_FA (D, ca, a0) u).getD 15 (0, .inr (0, [])) := rfl
theorem ct_c16 (D : va_G) (ca : Nat → ClassId) (a0 u v w : Nat → Nat) : av_cell (D, ca, ct_ad u v w) ct_mc 16 = (ct_FA (D, ca, a0) u).getD 16 (0, .inr (0, [])) := rfl
theorem ct_c17 (D : va_G) (ca : Nat → ClassId) (a0 u v w : Nat → Nat) : av_cell (D, ca, ct_ad u v w) ct_mc 17 = (ct_FA (D, ca, a0) u).getD 17 (0, .inr (0, [])) := rfl
theorem ct_c18 (D : va_G) (ca : Nat → ClassId) (a0 u v w : Nat → Nat) : av_cell (D, ca, ct_ad u v w) ct_mc 18 = (ct_FA (D, ca, a0) u).getD 18 (0, .inr (0, [])) := rfl
theorem ct_c19 (D : va_G) (ca : Nat → ClassId) (a0 u v w : Nat → Nat) : av_cell (D, ca, ct_ad u v w) ct_mc 19 = (ct_FA (D, ca, a0) u).getD 19 (0, .inr (0, [])) := rfl
theorem ct_c20 (D : va_G) (ca : Nat → ClassId) (a0 u v w : Nat → Nat) : av_cell (D, ca, ct_ad u v w) ct_mc 20 = (ct_FA (D, ca, a0) u).getD 20 (0, .inr (0, [])) := rfl
theorem ct_c21 (D : va_G) (ca : Nat → ClassId) (a0 u v w : Nat → Nat) : av_cell (D, ca, ct_ad u v w) ct_mc 21 = (ct_FA (D, ca, a0) u).getD 21 (0, .inr (0, [])) := rfl
theorem ct_c22 (D : va_G) (ca : Nat → ClassId) (a0 u v w : Nat → Nat) : av_cell (D, ca, ct_ad u v w) ct_mc 22 = (ct_FA (D, ca, a0) u).getD 22 (0, .inr (0, [])) := rfl
theorem ct_c23 (D : va_G) (ca : Nat → ClassId) (a0 u v w : Nat → Nat) : av_cell (D, ca, ct_ad u v w) ct_mc 23 = (ct_FA (D, ca, a0) u).getD 23 (0, .inr (0, [])) := rfl
theorem ct_c24 (D : va_G) (ca : Nat → ClassId) (a0 u v w : Nat → Nat) : av_cell (D, ca, ct_ad u v w) ct_mc 24 = (ct_FA (D, ca, a0) u).getD 24 (0, .inr (0, [])) := rfl
theorem ct_c25 (D : va_G) (ca : Nat → ClassId) (a0 u v w : Nat → Nat) : av_cell (D, ca, ct_ad u v w) ct_mc 25 = (ct_FA (D, ca, a0) u).getD 25 (0, .inr (0, [])) := rfl
theorem ct_c26 (D : va_G) (ca : Nat → ClassId) (a0 u v w : Nat → Nat) : av_cell (D, ca, ct_ad u v w) ct_mc 26 = (ct_FA (D, ca, a0) u).getD 26 (0, .inr (0, [])) := rfl
theorem ct_c27 (D : va_G) (ca : Nat → ClassId) (a0 u v w : Nat → Nat) : av_cell (D, ca, ct_ad u v w) ct_mc 27 = (ct_FA (D, ca, a0) u).getD 27 (0, .inr (0, [])) := rfl
theorem ct_c28 (D : va_G) (ca : Nat → ClassId) (a0 u v w : Nat → Nat) : av_cell (D, ca, ct_ad u v w) ct_mc 28 = (ct_FA (D, ca, a0) u).getD 28 (0, .inr (0, [])) := rfl
theorem ct_c29 (D : va_G) (ca : Nat → ClassId) (a0 u v w : Nat → Nat) : av_cell (D, ca, ct_ad u v w) ct_mc 29 = (ct_FA (D, ca, a0) u).getD 29 (0, .inr (0, [])) := rfl
theorem ct_c30 (D : va_G) (ca : Nat → ClassId) (a0 u v w : Nat → Nat) : av_cell (D, ca, ct_ad u v w) ct_mc 30 = (ct_FA (D, ca, a0) u).getD 30 (0, .inr (0, [])) := rfl
theorem ct_c31 (D : va_G) (ca : Nat → ClassId) (a0 u v w : Nat → Nat) : av_cell (D, ca, ct_ad u v w) ct_mc 31 = (ct_FA (D, ca, a0) u).getD 31 (0, .inr (0, [])) := rfl
theorem ct_c32 (D : va_G) (ca : Nat → ClassId) (a0 u v w : Nat → Nat) : av_cell (D, ca, ct_ad u v w) ct_mc 32 = (ct_FA (D, ca, a0) u).getD 32 (0, .inr (0, [])) := rfl
theorem ct_c33 (D : va_G) (ca : Nat → ClassId) (a0 u v w : Nat → Nat) : av_cell (D, ca, ct_ad u v w) ct_mc 33 = (ct_FA (D, ca, a0) u).getD 33 (0, .inr (0, [])) := rfl
theorem ct_c34 (D : va_G) (ca : Nat → ClassId) (a0 u v w : Nat → Nat) : av_cell (D, ca, ct_ad u v w) ct_mc 34 = (ct_FA (D, ca, a0) u).getD 34 (0, .inr (0, [])) := rfl
theorem ct_c35 (D : va_G) (ca : Nat → ClassId) (a0 u v w : Nat → Nat) : av_cell (D, ca, ct_ad u v w) ct_mc 35 = (ct_FA (D, ca, a0) u).getD 35 (0, .inr (0, [])) := rfl
theorem ct_c36 (D : va_G) (ca : Nat → ClassId) (a0 u v w : Nat → Nat) : av_cell (D, ca, ct_ad u v w) ct_mc 36 = (ct_FA (D, ca, a0) u).getD 36 (0, .inr (0, [])) := rfl
theorem ct_c37 (D : va_G) (ca : Nat → ClassId) (a0 u v w : Nat → Nat) : av_cell (D, ca, ct_ad u v w) ct_mc 37 = (ct_FA (D, ca, a0) u).getD 37 (0, .inr (0, [])) := rfl
theorem ct_c38 (D : va_G) (ca : Nat → ClassId) (a0 u v w : Nat → Nat) : av_cell (D, ca, ct_ad u v w) ct_mc 38 = (ct_FA (D, ca, a0) u).getD 38 (0, .inr (0, [])) := rfl
theorem ct_c39 (D : va_G) (ca : Nat → ClassId) (a0 u v w : Nat → Nat) : av_cell (D, ca, ct_ad u v w) ct_mc 39 = (ct_FA (D, ca, a0) u).getD 39 (0, .inr (0, [])) := rfl
theorem ct_c40 (D : va_G) (ca : Nat → ClassId) (a0 u v w : Nat → Nat) : av_cell (D, ca, ct_ad u v w) ct_mc 40 = (ct_FA (D, ca, a0) u).getD 40 (0, .inr (0, [])) := rfl
theorem ct_c41 (D : va_G) (ca : Nat → ClassId) (a0 u v w : Nat → Nat) : av_cell (D, ca, ct_ad u v w) ct_mc 41 = (ct_FA (D, ca, a0) u).getD 41 (0, .inr (0, [])) := rfl
theorem ct_c42 (D : va_G) (ca : Nat → ClassId) (a0 u v w : Nat → Nat) : av_cell (D, ca, ct_ad u v w) ct_mc 42 = (ct_FA (D, ca, a0) u).getD 42 (0, .inr (0, [])) := rfl
theorem ct_c43 (D : va_G) (ca : Nat → ClassId) (a0 u v w : Nat → Nat) : av_cell (D, ca, ct_ad u v w) ct_mc 43 = (ct_FA (D, ca, a0) u).getD 43 (0, .inr (0, [])) := rfl
theorem ct_c44 (D : va_G) (ca : Nat → ClassId) (a0 u v w : Nat → Nat) : av_cell (D, ca, ct_ad u v w) ct_mc 44 = (ct_FA (D, ca, a0) u).getD 44 (0, .inr (0, [])) := rfl
theorem ct_c45 (D : va_G) (ca : Nat → ClassId) (a0 u v w : Nat → Nat) : av_cell (D, ca, ct_ad u v w) ct_mc 45 = (ct_FA (D, ca, a0) u).getD 45 (0, .inr (0, [])) := rfl
theorem ct_c46 (D : va_G) (ca : Nat → ClassId) (a0 u v w : Nat → Nat) : av_cell (D, ca, ct_ad u v w) ct_mc 46 = (ct_FA (D, ca, a0) u).getD 46 (0, .inr (0, [])) := rfl
theorem ct_c47 (D : va_G) (ca : Nat → ClassId) (a0 u v w : Nat → Nat) : av_cell (D, ca, ct_ad u v w) ct_mc 47 = (ct_FA (D, ca, a0) u).getD 47 (0, .inr (0, [])) := rfl
theorem ct_c48 (D : va_G) (ca : Nat → ClassId) (a0 u v w : Nat → Nat) : av_cell (D, ca, ct_ad u v w) ct_mc 48 = (ct_FA (D, ca, a0) u).getD 48 (0, .inr (0, [])) := rfl
theorem ct_c49 (D : va_G) (ca : Nat → ClassId) (a0 u v w : Nat → Nat) : av_cell (D, ca, ct_ad u v w) ct_mc 49 = (ct_FA (D, ca, a0) u).getD 49 (0, .inr (0, [])) := rfl
theorem ct_c50 (D : va_G) (ca : Nat → ClassId) (a0 u v w : Nat → Nat) : av_cell (D, ca, ct_ad u v w) ct_mc 50 = (ct_FA (D, ca, a0) u).getD 50 (0, .inr (0, [])) := rfl
theorem ct_c51 (D : va_G) (ca : Nat → ClassId) (a0 u v w : Nat → Nat) : av_cell (D, ca, ct_ad u v w) ct_mc 51 = (ct_FA (D, ca, a0) u).getD 51 (0, .inr (0, [])) := rfl
theorem ct_c52 (D : va_G) (ca : Nat → ClassId) (a0 u v w : Nat → Nat) : av_cell (D, ca, ct_ad u v w) ct_mc 52 = (ct_FA (D, ca, a0) u).getD 52 (0, .inr (0, [])) := rfl
theorem ct_c53 (D : va_G) (ca : Nat → ClassId) (a0 u v w : Nat → Nat) : av_cell (D, ca, ct_ad u v w) ct_mc 53 = (ct_FA (D, ca, a0) u).getD 53 (0, .inr (0, [])) := rfl
theorem ct_c54 (D : va_G) (ca : Nat → ClassId) (a0 u v w : Nat → Nat) : av_cell (D, ca, ct_ad u v w) ct_mc 54 = (ct_FA (D, ca, a0) u).getD 54 (0, .inr (0, [])) := rfl
theorem ct_c55 (D : va_G) (ca : Nat → ClassId) (a0 u v w : Nat → Nat) : av_cell (D, ca, ct_ad u v w) ct_mc 55 = (ct_FA (D, ca, a0) u).getD 55 (0, .inr (0, [])) := rfl
theorem ct_c56 (D : va_G) (ca : Nat → ClassId) (a0 u v w : Nat → Nat) : av_cell (D, ca, ct_ad u v w) ct_mc 56 = (ct_FA (D, ca, a0) u).getD 56 (0, .inr (0, [])) := rfl
theorem ct_c57 (D : va_G) (ca : Nat → ClassId) (a0 u v w : Nat → Nat) : av_cell (D, ca, ct_ad u v w) ct_mc 57 = (ct_FA (D, ca, a0) u).getD 57 (0, .inr (0, [])) := rfl
theorem ct_c58 (D : va_G) (ca : Nat → ClassId) (a0 u v w : Nat → Nat) : av_cell (D, ca, ct_ad u v w) ct_mc 58 = (ct_FA (D, ca, a0) u).getD 58 (0, .inr (0, [])) := rfl
theorem ct_c59 (D : va_G) (ca : Nat → ClassId) (a0 u v w : Nat → Nat) : av_cell (D, ca, ct_ad u v w) ct_mc 59 = (ct_FA (D, ca, a0) u).getD 59 (0, .inr (0, [])) := rfl
theorem ct_c60 (D : va_G) (ca : Nat → ClassId) (a0 u v w : Nat → Nat) : av_cell (D, ca, ct_ad u v w) ct_mc 60 = (ct_FA (D, ca, a0) u).getD 60 (0, .inr (0, [])) := rfl
theorem ct_c61 (D : va_G) (ca : Nat → ClassId) (a0 u v w : Nat → Nat) : av_cell (D, ca, ct_ad u v w) ct_mc 61 = (ct_FA (D, ca, a0) u).getD 61 (0, .inr (0, [])) := rfl
theorem ct_c62 (D : va_G) (ca : Nat → ClassId) (a0 u v w : Nat → Nat) : av_cell (D, ca, ct_ad u v w) ct_mc 62 = (ct_FA (D, ca, a0) u).getD 62 (0, .inr (0, [])) := rfl
theorem ct_c63 (D : va_G) (ca : Nat → ClassId) (a0 u v w : Nat → Nat) : av_cell (D, ca, ct_ad u v w) ct_mc 63 = (ct_FA (D, ca, a0) u).getD 63 (0, .inr (0, [])) := rfl
theorem ct_c64 (D : va_G) (ca : Nat → ClassId) (a0 u v w : Nat → Nat) : av_cell (D, ca, ct_ad u v w) ct_mc 64 = (ct_FA (D, ca, a0) u).getD 64 (0, .inr (0, [])) := rfl
theorem ct_c65 (D : va_G) (ca : Nat → ClassId) (a0 u v w : Nat → Nat) : av_cell (D, ca, ct_ad u v w) ct_mc 65 = (ct_FA (D, ca, a0) u).getD 65 (0, .inr (0, [])) := rfl
theorem ct_c66 (D : va_G) (ca : Nat → ClassId) (a0 u v w : Nat → Nat) : av_cell (D, ca, ct_ad u v w) ct_mc 66 = (ct_FA (D, ca, a0) u).getD 66 (0, .inr (0, [])) := rfl
theorem ct_c67 (D : va_G) (ca : Nat → ClassId) (a0 u v w : Nat → Nat) : av_cell (D, ca, ct_ad u v w) ct_mc 67 = (ct_FA (D, ca, a0) u).getD 67 (0, .inr (0, [])) := rfl
theorem ct_c68 (D : va_G) (ca : Nat → ClassId) (a0 u v w : Nat → Nat) : av_cell (D, ca, ct_ad u v w) ct_mc 68 = (ct_FA (D, ca, a0) u).getD 68 (0, .inr (0, [])) := rfl
theorem ct_c69 (D : va_G) (ca : Nat → ClassId) (a0 u v w : Nat → Nat) : av_cell (D, ca, ct_ad u v w) ct_mc 69 = (ct_FA (D, ca, a0) u).getD 69 (0, .inr (0, [])) := rfl
theorem ct_c70 (D : va_G) (ca : Nat → ClassId) (a0 u v w : Nat → Nat) : av_cell (D, ca, ct_ad u v w) ct_mc 70 = (ct_FA (D, ca, a0) u).getD 70 (0, .inr (0, [])) := rfl
theorem ct_c71 (D : va_G) (ca : Nat → ClassId) (a0 u v w : Nat → Nat) : av_cell (D, ca, ct_ad u v w) ct_mc 71 = (ct_FA (D, ca, a0) u).getD 71 (0, .inr (0, [])) := rfl
theorem ct_c72 (D : va_G) (ca : Nat → ClassId) (a0 u v w : Nat → Nat) : av_cell (D, ca, ct_ad u v w) ct_mc 72 = (ct_FA (D, ca, a0) u).getD 72 (0, .inr (0, [])) := rfl
theorem ct_c73 (D : va_G) (ca : Nat → ClassId) (a0 u v w : Nat → Nat) : av_cell (D, ca, ct_ad u v w) ct_mc 73 = (ct_FA (D, ca, a0) u).getD 73 (0, .inr (0, [])) := rfl
theorem ct_c74 (D : va_G) (ca : Nat → ClassId) (a0 u v w : Nat → Nat) : av_cell (D, ca, ct_ad u v w) ct_mc 74 = (ct_FA (D, ca, a0) u).getD 74 (0, .inr (0, [])) := rfl
theorem ct_c75 (D : va_G) (ca : Nat → ClassId) (a0 u v w : Nat → Nat) : av_cell (D, ca, ct_ad u v w) ct_mc 75 = (ct_FA (D, ca, a0) u).getD 75 (0, .inr (0, [])) := rfl
theorem ct_c76 (D : va_G) (ca : Nat → ClassId) (a0 u v w : Nat → Nat) : av_cell (D, ca, ct_ad u v w) ct_mc 76 = (ct_FA (D, ca, a0) u).getD 76 (0, .inr (0, [])) := rfl
theorem ct_c77 (D : va_G) (ca : Nat → ClassId) (a0 u v w : Nat → Nat) : av_cell (D, ca, ct_ad u v w) ct_mc 77 = (ct_FA (D, ca, a0) u).getD 77 (0, .inr (0, [])) := rfl
theorem ct_c78 (D : va_G) (ca : Nat → ClassId) (a0 u v w : Nat → Nat) : av_cell (D, ca, ct_ad u v w) ct_mc 78 = (ct_FA (D, ca, a0) u).getD 78 (0, .inr (0, [])) := rfl
theorem ct_c79 (D : va_G) (ca : Nat → ClassId) (a0 u v w : Nat → Nat) : av_cell (D, ca, ct_ad u v w) ct_mc 79 = (ct_FA (D, ca, a0) u).getD 79 (0, .inr (0, [])) := rfl
theorem ct_c80 (D : va_G) (ca : Nat → ClassId) (a0 u v w : Nat → Nat) : av_cell (D, ca, ct_ad u v w) ct_mc 80 = (ct_FA (D, ca, a0) u).getD 80 (0, .inr (0, [])) := rfl
theorem ct_c81 (D : va_G) (ca : Nat → ClassId) (a0 u v w : Nat → Nat) : av_cell (D, ca, ct_ad u v w) ct_mc 81 = (ct_FA (D, ca, a0) u).getD 81 (0, .inr (0, [])) := rfl
theorem ct_c82 (D : va_G) (ca : Nat → ClassId) (a0 u v w : Nat → Nat) : av_cell (D, ca, ct_ad u v w) ct_mc 82 = (ct_FA (D, ca, a0) u).getD 82 (0, .inr (0, [])) := rfl
theorem ct_c83 (D : va_G) (ca : Nat → ClassId) (a0 u v w : Nat → Nat) : av_cell (D, ca, ct_ad u v w) ct_mc 83 = (ct_FA (D, ca, a0) u).getD 83 (0, .inr (0, [])) := rfl
theorem ct_c84 (D : va_G) (ca : Nat → ClassId) (a0 u v w : Nat → Nat) : av_cell (D, ca, ct_ad u v w) ct_mc 84 = (ct_FA (D, ca, a0) u).getD 84 (0, .inr (0, [])) := rfl
theorem ct_c85 (D : va_G) (ca : Nat → ClassId) (a0 u v w : Nat → Nat) : av_cell (D, ca, ct_ad u v w) ct_mc 85 = (ct_FA (D, ca, a0) u).getD 85 (0, .inr (0, [])) := rfl
theorem ct_c86 (D : va_G) (ca : Nat → ClassId) (a0 u v w : Nat → Nat) : av_cell (D, ca, ct_ad u v w) ct_mc 86 = (ct_FA (D, ca, a0) u).getD 86 (0, .inr (0, [])) := rfl
theorem ct_c87 (D : va_G) (ca : Nat → ClassId) (a0 u v w : Nat → Nat) : av_cell (D, ca, ct_ad u v w) ct_mc 87 = (ct_FA (D, ca, a0) u).getD 87 (0, .inr (0, [])) := rfl
theorem ct_c88 (D : va_G) (ca : Nat → ClassId) (a0 u v w : Nat → Nat) : av_cell (D, ca, ct_ad u v w) ct_mc 88 = (ct_FA (D, ca, a0) u).getD 88 (0, .inr (0, [])) := rfl
theorem ct_c89 (D : va_G) (ca : Nat → ClassId) (a0 u v w : Nat → Nat) : av_cell (D, ca, ct_ad u v w) ct_mc 89 = (ct_FA (D, ca, a0) u).getD 89 (0, .inr (0, [])) := rfl
theorem ct_c90 (D : va_G) (ca : Nat → ClassId) (a0 u v w : Nat → Nat) : av_cell (D, ca, ct_ad u v w) ct_mc 90 = (ct_FA (D, ca, a0) u).getD 90 (0, .inr (0, [])) := rfl
theorem ct_c91 (D : va_G) (ca : Nat → ClassId) (a0 u v w : Nat → Nat) : av_cell (D, ca, ct_ad u v w) ct_mc 91 = (ct_FA (D, ca, a0) u).getD 91 (0, .inr (0, [])) := rfl
theorem ct_c92 (D : va_G) (ca : Nat → ClassId) (a0 u v w : Nat → Nat) : av_cell (D, ca, ct_ad u v w) ct_mc 92 = (ct_FA (D, ca, a0) u).getD 92 (0, .inr (0, [])) := rfl
theorem ct_c93 (D : va_G) (ca : Nat → ClassId) (a0 u v w : Nat → Nat) : av_cell (D, ca, ct_ad u v w) ct_mc 93 = (ct_FA (D, ca, a0) u).getD 93 (0, .inr (0, [])) := rfl
theorem ct_c94 (D : va_G) (ca : Nat → ClassId) (a0 u v w : Nat → Nat) : av_cell (D, ca, ct_ad u v w) ct_mc 94 = (ct_FA (D, ca, a0) u).getD 94 (0, .inr (0, [])) := rfl
theorem ct_c95 (D : va_G) (ca : Nat → ClassId) (a0 u v w : Nat → Nat) : av_cell (D, ca, ct_ad u v w) ct_mc 95 = (ct_FA (D, ca, a0) u).getD 95 (0, .inr (0, [])) := rfl
theorem ct_c96 (D : va_G) (ca : Nat → ClassId) (a0 u v w : Nat → Nat) : av_cell (D, ca, ct_ad u v w) ct_mc 96 = (ct_FA (D, ca, a0) u).getD 96 (0, .inr (0, [])) := rfl
theorem ct_c97 (D : va_G) (ca : Nat → ClassId) (a0 u v w : Nat → Nat) : av_cell (D, ca, ct_ad u v w) ct_mc 97 = (ct_FA (D, ca, a0) u).getD 97 (0, .inr (0, [])) := rfl
theorem ct_d0 (D : va_G) (ca : Nat → ClassId) (a0 u v w : Nat → Nat) : av_cell (D, ca, ct_ad u v w) ct_mm 98 = (ct_FM (D, ca, a0) v).getD 0 (0, .inr (0, [])) := rfl
theorem ct_d1 (D : va_G) (ca : Nat → ClassId) (a0 u v w : Nat → Nat) : av_cell (D, ca, ct_ad u v w) ct_mm 99 = (ct_FM (D, ca, a0) v).getD 1 (0, .inr (0, [])) := rfl
theorem ct_d2 (D : va_G) (ca : Nat → ClassId) (a0 u v w : Nat → Nat) : av_cell (D, ca, ct_ad u v w) ct_mm 100 = (ct_FM (D, ca, a0) v).getD 2 (0, .inr (0, [])) := rfl
theorem ct_d3 (D : va_G) (ca : Nat → ClassId) (a0 u v w : Nat → Nat) : av_cell (D, ca, ct_ad u v w) ct_mm 101 = (ct_FM (D, ca, a0) v).getD 3 (0, .inr (0, [])) := rfl
theorem ct_d4 (D : va_G) (ca : Nat → ClassId) (a0 u v w : Nat → Nat) : av_cell (D, ca, ct_ad u v w) ct_mm 102 = (ct_FM (D, ca, a0) v).getD 4 (0, .inr (0, [])) := rfl
theorem ct_d5 (D : va_G) (ca : Nat → ClassId) (a0 u v w : Nat → Nat) : av_cell (D, ca, ct_ad u v w) ct_mm 103 = (ct_FM (D, ca, a0) v).getD 5 (0, .inr (0, [])) := rfl
theorem ct_d6 (D : va_G) (ca : Nat → ClassId) (a0 u v w : Nat → Nat) : av_cell (D, ca, ct_ad u v w) ct_mm 104 = (ct_FM (D, ca, a0) v).getD 6 (0, .inr (0, [])) := rfl
theorem ct_d7 (D : va_G) (ca : Nat → ClassId) (a0 u v w : Nat → Nat) : av_cell (D, ca, ct_ad u v w) ct_mm 105 = (ct_FM (D, ca, a0) v).getD 7 (0, .inr (0, [])) := rfl
theorem ct_d8 (D : va_G) (ca : Nat → ClassId) (a0 u v w : Nat → Nat) : av_cell (D, ca, ct_ad u v w) ct_mm 106 = (ct_FM (D, ca, a0) v).getD 8 (0, .inr (0, [])) := rfl
theorem ct_d9 (D : va_G) (ca : Nat → ClassId) (a0 u v w : Nat → Nat) : av_cell (D, ca, ct_ad u v w) ct_mm 107 = (ct_FM (D, ca, a0) v).getD 9 (0, .inr (0, [])) := rfl
theorem ct_d10 (D : va_G) (ca : Nat → ClassId) (a0 u v w : Nat → Nat) : av_cell (D, ca, ct_ad u v w) ct_mm 108 = (ct_FM (D, ca, a0) v).getD 10 (0, .inr (0, [])) := rfl
theorem ct_d11 (D : va_G) (ca : Nat → ClassId) (a0 u v w : Nat → Nat) : av_cell (D, ca, ct_ad u v w) ct_mm 109 = (ct_FM (D, ca, a0) v).getD 11 (0, .inr (0, [])) := rfl
theorem ct_d12 (D : va_G) (ca : Nat → ClassId) (a0 u v w : Nat → Nat) : av_cell (D, ca, ct_ad u v w) ct_mm 110 = (ct_FM (D, ca, a0) v).getD 12 (0, .inr (0, [])) := rfl
theorem ct_d13 (D : va_G) (ca : Nat → ClassId) (a0 u v w : Nat → Nat) : av_cell (D, ca, ct_ad u v w) ct_mm 111 = (ct_FM (D, ca, a0) v).getD 13 (0, .inr (0, [])) := rfl
theorem ct_d14 (D : va_G) (ca : Nat → ClassId) (a0 u v w : Nat → Nat) : av_cell (D, ca, ct_ad u v w) ct_mm 112 = (ct_FM (D, ca, a0) v).getD 14 (0, .inr (0, [])) := rfl
theorem ct_d15 (D : va_G) (ca : Nat → ClassId) (a0 u v w : Nat → Nat) : av_cell (D, ca, ct_ad u v w) ct_mm 113 = (ct_FM (D, ca, a0) v).getD 15 (0, .inr (0, [])) := rfl
theorem ct_ge {α : Type} {xs : List α} {n : Nat} {d : α} (h : n < xs.length) : xs[n]? = some (xs.getD n d) := by
  rw [List.getD_eq_getElem?_getD, List.getElem?_eq_getElem h]
  rfl
set_option maxRecDepth 100000 in
theorem ct_PA {D : va_G} {ca : Nat → ClassId} {a0 u v w : Nat → Nat} {H : Heap} (hP : va_P D vwCl (ct_FA (D, ca, a0) u) H) : va_P D vwCl (av_W av_wc (D, ca, ct_ad u v w) ct_mc) H := by
  intro k q hk
  obtain ⟨h1, rfl⟩ := av_W_get hk
  have hz : av_wc.1 + k = k := Nat.zero_add k
  rw [hz]
  have h1 : k < 98 := h1
  have key : ∀ n, n < 98 → va_at D vwCl ((ct_FA (D, ca, a0) u).getD n (0, .inr (0, []))) H := fun n hn => hP n _ (ct_ge (by rw [ct_FA_len]; exact hn))
  clear hk hz
  by_cases c0 : k = 0
  · subst c0
    rw [ct_c0 D ca a0 u v w]
    exact key 0 (by decide)
  by_cases c1 : k = 1
  · subst c1
    have h := key 1 (by decide)
    have h2 : H[u 1]? = some (arrV (ca 16) 6 (fun j => va_rf ((va_up (va_up (va_up (va_up (va_up (va_up (fun _ => none) 0 (some (u 2))) 1 (some (u 3))) 2 (some (u 4))) 3 (some (u 5))) 4 (some (u 6))) 5 (some (u 7))) j))) := h
    show H[u 1]? = some (arrV (ca 16) 6 (fun j => va_rf (some (ct_ad u v w (av_rf 1 j)))))
    rw [h2]
    refine congrArg some (ct_arr (fun j hj => ?_))
    rcases (show j = 0 ∨ j = 1 ∨ j = 2 ∨ j = 3 ∨ j = 4 ∨ j = 5 by omega) with rfl | rfl | rfl | rfl | rfl | rfl <;> rfl
  by_cases c2 : k = 2
  · subst c2
    rw [ct_c2 D ca a0 u v w]
    exact key 2 (by decide)
  by_cases c3 : k = 3
  · subst c3
    rw [ct_c3 D ca a0 u v w]
    exact key 3 (by decide)
  by_cases c4 : k = 4
  · subst c4
    rw [ct_c4 D ca a0 u v w]
    exact key 4 (by decide)
  by_cases c5 : k = 5
  · subst c5
    rw [ct_c5 D ca a0 u v w]
    exact key 5 (by decide)
  by_cases c6 : k = 6
  · subst c6
    rw [ct_c6 D ca a0 u v w]
    exact key 6 (by decide)
  by_cases c7 : k = 7
  · subst c7
    rw [ct_c7 D ca a0 u v w]
    exact key 7 (by decide)
  by_cases c8 : k = 8
  · subst c8
    have h := key 8 (by decide)
    have h2 : H[u 8]? = some (arrV (ca 17) 2 (fun j => va_rf ((va_up (va_up (fun _ => none) 0 (some (u 42))) 1 (some (u 56))) j))) := h
    show H[u 8]? = some (arrV (ca 17) 2 (fun j => va_rf (some (ct_ad u v w (av_rf 8 j)))))
    rw [h2]
    refine congrArg some (ct_arr (fun j hj => ?_))
    rcases (show j = 0 ∨ j = 1 by omega) with rfl | rfl <;> rfl
  by_cases c9 : k = 9
  · subst c9
    rw [ct_c9 D ca a0 u v w]
    exact key 9 (by decide)
  by_cases c10 : k = 10
  · subst c10
    rw [ct_c10 D ca a0 u v w]
    exact key 10 (by decide)
  by_cases c11 : k = 11
  · subst c11
    rw [ct_c11 D ca a0 u v w]
    exact key 11 (by decide)
  by_cases c12 : k = 12
  · subst c12
    have h := key 12 (by decide)
    have h2 : H[u 12]? = some (arrV (ca 18) 7 (fun j => va_rf ((va_up (va_up (va_up (va_up (va_up (va_up (va_up (fun _ => none) 0 (some (u 70))) 1 (some (u 74))) 2 (some (u 78))) 3 (some (u 82))) 4 (some (u 86))) 5 (some (u 90))) 6 (some (u 94))) j))) := h
    show H[u 12]? = some (arrV (ca 18) 7 (fun j => va_rf (some (ct_ad u v w (av_rf 12 j)))))
    rw [h2]
    refine congrArg some (ct_arr (fun j hj => ?_))
    rcases (show j = 0 ∨ j = 1 ∨ j = 2 ∨ j = 3 ∨ j = 4 ∨ j = 5 ∨ j = 6 by omega) with rfl | rfl | rfl | rfl | rfl | rfl | rfl <;> rfl
  by_cases c13 : k = 13
  · subst c13
    rw [ct_c13 D ca a0 u v w]
    exact key 13 (by decide)
  by_cases c14 : k = 14
  · subst c14
    rw [ct_c14 D ca a0 u v w]
    exact key 14 (by decide)
  by_cases c15 : k = 15
  · subst c15
    rw [ct_c15 D ca a0 u v w]
    exact key 15 (by decide)
  by_cases c16 : k = 16
  · subst c16
    rw [ct_c16 D ca a0 u v w]
    exact key 16 (by decide)
  by_cases c17 : k = 17
  · subst c17
    rw [ct_c17 D ca a0 u v w]
    exact key 17 (by decide)
  by_cases c18 : k = 18
  · subst c18
    rw [ct_c18 D ca a0 u v w]
    exact key 18 (by decide)
  by_cases c19 : k = 19
  · subst c19
    rw [ct_c19 D ca a0 u v w]
    exact key 19 (by decide)
  by_cases c20 : k = 20
  · subst c20
    rw [ct_c20 D ca a0 u v w]
    exact key 20 (by decide)
  by_cases c21 : k = 21
  · subst c21
    rw [ct_c21 D ca a0 u v w]
    exact key 21 (by decide)
  by_cases c22 : k = 22
  · subst c22
    rw [ct_c22 D ca a0 u v w]
    exact key 22 (by decide)
  by_cases c23 : k = 23
  · subst c23
    rw [ct_c23 D ca a0 u v w]
    exact key 23 (by decide)
  by_cases c24 : k = 24
  · subst c24
    rw [ct_c24 D ca a0 u v w]
    exact key 24 (by decide)
  by_cases c25 : k = 25
  · subst c25
    rw [ct_c25 D ca a0 u v w]
    exact key 25 (by decide)
  by_cases c26 : k = 26
  · subst c26
    rw [ct_c26 D ca a0 u v w]
    exact key 26 (by decide)
  by_cases c27 : k = 27
  · subst c27
    rw [ct_c27 D ca a0 u v w]
    exact key 27 (by decide)
  by_cases c28 : k = 28
  · subst c28
    rw [ct_c28 D ca a0 u v w]
    exact key 28 (by decide)
  by_cases c29 : k = 29
  · subst c29
    rw [ct_c29 D ca a0 u v w]
    exact key 29 (by decide)
  by_cases c30 : k = 30
  · subst c30
    rw [ct_c30 D ca a0 u v w]
    exact key 30 (by decide)
  by_cases c31 : k = 31
  · subst c31
    rw [ct_c31 D ca a0 u v w]
    exact key 31 (by decide)
  by_cases c32 : k = 32
  · subst c32
    rw [ct_c32 D ca a0 u v w]
    exact key 32 (by decide)
  by_cases c33 : k = 33
  · subst c33
    rw [ct_c33 D ca a0 u v w]
    exact key 33 (by decide)
  by_cases c34 : k = 34
  · subst c34
    rw [ct_c34 D ca a0 u v w]
    exact key 34 (by decide)
  by_cases c35 : k = 35
  · subst c35
    rw [ct_c35 D ca a0 u v w]
    exact key 35 (by decide)
  by_cases c36 : k = 36
  · subst c36
    rw [ct_c36 D ca a0 u v w]
    exact key 36 (by decide)
  by_cases c37 : k = 37
  · subst c37
    rw [ct_c37 D ca a0 u v w]
    exact key 37 (by decide)
  by_cases c38 : k = 38
  · subst c38
    rw [ct_c38 D ca a0 u v w]
    exact key 38 (by decide)
  by_cases c39 : k = 39
  · subst c39
    rw [ct_c39 D ca a0 u v w]
    exact key 39 (by decide)
  by_cases c40 : k = 40
  · subst c40
    rw [ct_c40 D ca a0 u v w]
    exact key 40 (by decide)
  by_cases c41 : k = 41
  · subst c41
    rw [ct_c41 D ca a0 u v w]
    exact key 41 (by decide)
  by_cases c42 : k = 42
  · subst c42
    rw [ct_c42 D ca a0 u v w]
    exact key 42 (by decide)
  by_cases c43 : k = 43
  · subst c43
    rw [ct_c43 D ca a0 u v w]
    exact key 43 (by decide)
  by_cases c44 : k = 44
  · subst c44
    rw [ct_c44 D ca a0 u v w]
    exact key 44 (by decide)
  by_cases c45 : k = 45
  · subst c45
    rw [ct_c45 D ca a0 u v w]
    exact key 45 (by decide)
  by_cases c46 : k = 46
  · subst c46
    rw [ct_c46 D ca a0 u v w]
    exact key 46 (by decide)
  by_cases c47 : k = 47
  · subst c47
    rw [ct_c47 D ca a0 u v w]
    exact key 47 (by decide)
  by_cases c48 : k = 48
  · subst c48
    rw [ct_c48 D ca a0 u v w]
    exact key 48 (by decide)
  by_cases c49 : k = 49
  · subst c49
    rw [ct_c49 D ca a0 u v w]
    exact key 49 (by decide)
  by_cases c50 : k = 50
  · subst c50
    rw [ct_c50 D ca a0 u v w]
    exact key 50 (by decide)
  by_cases c51 : k = 51
  · subst c51
    rw [ct_c51 D ca a0 u v w]
    exact key 51 (by decide)
  by_cases c52 : k = 52
  · subst c52
    rw [ct_c52 D ca a0 u v w]
    exact key 52 (by decide)
  by_cases c53 : k = 53
  · subst c53
    rw [ct_c53 D ca a0 u v w]
    exact key 53 (by decide)
  by_cases c54 : k = 54
  · subst c54
    rw [ct_c54 D ca a0 u v w]
    exact key 54 (by decide)
  by_cases c55 : k = 55
  · subst c55
    rw [ct_c55 D ca a0 u v w]
    exact key 55 (by decide)
  by_cases c56 : k = 56
  · subst c56
    rw [ct_c56 D ca a0 u v w]
    exact key 56 (by decide)
  by_cases c57 : k = 57
  · subst c57
    rw [ct_c57 D ca a0 u v w]
    exact key 57 (by decide)
  by_cases c58 : k = 58
  · subst c58
    rw [ct_c58 D ca a0 u v w]
    exact key 58 (by decide)
  by_cases c59 : k = 59
  · subst c59
    rw [ct_c59 D ca a0 u v w]
    exact key 59 (by decide)
  by_cases c60 : k = 60
  · subst c60
    rw [ct_c60 D ca a0 u v w]
    exact key 60 (by decide)
  by_cases c61 : k = 61
  · subst c61
    rw [ct_c61 D ca a0 u v w]
    exact key 61 (by decide)
  by_cases c62 : k = 62
  · subst c62
    rw [ct_c62 D ca a0 u v w]
    exact key 62 (by decide)
  by_cases c63 : k = 63
  · subst c63
    rw [ct_c63 D ca a0 u v w]
    exact key 63 (by decide)
  by_cases c64 : k = 64
  · subst c64
    rw [ct_c64 D ca a0 u v w]
    exact key 64 (by decide)
  by_cases c65 : k = 65
  · subst c65
    rw [ct_c65 D ca a0 u v w]
    exact key 65 (by decide)
  by_cases c66 : k = 66
  · subst c66
    rw [ct_c66 D ca a0 u v w]
    exact key 66 (by decide)
  by_cases c67 : k = 67
  · subst c67
    rw [ct_c67 D ca a0 u v w]
    exact key 67 (by decide)
  by_cases c68 : k = 68
  · subst c68
    rw [ct_c68 D ca a0 u v w]
    exact key 68 (by decide)
  by_cases c69 : k = 69
  · subst c69
    rw [ct_c69 D ca a0 u v w]
    exact key 69 (by decide)
  by_cases c70 : k = 70
  · subst c70
    rw [ct_c70 D ca a0 u v w]
    exact key 70 (by decide)
  by_cases c71 : k = 71
  · subst c71
    rw [ct_c71 D ca a0 u v w]
    exact key 71 (by decide)
  by_cases c72 : k = 72
  · subst c72
    rw [ct_c72 D ca a0 u v w]
    exact key 72 (by decide)
  by_cases c73 : k = 73
  · subst c73
    rw [ct_c73 D ca a0 u v w]
    exact key 73 (by decide)
  by_cases c74 : k = 74
  · subst c74
    rw [ct_c74 D ca a0 u v w]
    exact key 74 (by decide)
  by_cases c75 : k = 75
  · subst c75
    rw [ct_c75 D ca a0 u v w]
    exact key 75 (by decide)
  by_cases c76 : k = 76
  · subst c76
    rw [ct_c76 D ca a0 u v w]
    exact key 76 (by decide)
  by_cases c77 : k = 77
  · subst c77
    rw [ct_c77 D ca a0 u v w]
    exact key 77 (by decide)
  by_cases c78 : k = 78
  · subst c78
    rw [ct_c78 D ca a0 u v w]
    exact key 78 (by decide)
  by_cases c79 : k = 79
  · subst c79
    rw [ct_c79 D ca a0 u v w]
    exact key 79 (by decide)
  by_cases c80 : k = 80
  · subst c80
    rw [ct_c80 D ca a0 u v w]
    exact key 80 (by decide)
  by_cases c81 : k = 81
  · subst c81
    rw [ct_c81 D ca a0 u v w]
    exact key 81 (by decide)
  by_cases c82 : k = 82
  · subst c82
    rw [ct_c82 D ca a0 u v w]
    exact key 82 (by decide)
  by_cases c83 : k = 83
  · subst c83
    rw [ct_c83 D ca a0 u v w]
    exact key 83 (by decide)
  by_cases c84 : k = 84
  · subst c84
    rw [ct_c84 D ca a0 u v w]
    exact key 84 (by decide)
  by_cases c85 : k = 85
  · subst c85
    rw [ct_c85 D ca a0 u v w]
    exact key 85 (by decide)
  by_cases c86 : k = 86
  · subst c86
    rw [ct_c86 D ca a0 u v w]
    exact key 86 (by decide)
  by_cases c87 : k = 87
  · subst c87
    rw [ct_c87 D ca a0 u v w]
    exact key 87 (by decide)
  by_cases c88 : k = 88
  · subst c88
    rw [ct_c88 D ca a0 u v w]
    exact key 88 (by decide)
  by_cases c89 : k = 89
  · subst c89
    rw [ct_c89 D ca a0 u v w]
    exact key 89 (by decide)
  by_cases c90 : k = 90
  · subst c90
    rw [ct_c90 D ca a0 u v w]
    exact key 90 (by decide)
  by_cases c91 : k = 91
  · subst c91
    rw [ct_c91 D ca a0 u v w]
    exact key 91 (by decide)
  by_cases c92 : k = 92
  · subst c92
    rw [ct_c92 D ca a0 u v w]
    exact key 92 (by decide)
  by_cases c93 : k = 93
  · subst c93
    rw [ct_c93 D ca a0 u v w]
    exact key 93 (by decide)
  by_cases c94 : k = 94
  · subst c94
    rw [ct_c94 D ca a0 u v w]
    exact key 94 (by decide)
  by_cases c95 : k = 95
  · subst c95
    rw [ct_c95 D ca a0 u v w]
    exact key 95 (by decide)
  by_cases c96 : k = 96
  · subst c96
    rw [ct_c96 D ca a0 u v w]
    exact key 96 (by decide)
  by_cases c97 : k = 97
  · subst c97
    rw [ct_c97 D ca a0 u v w]
    exact key 97 (by decide)
  omega
set_option maxRecDepth 100000 in
theorem ct_PM {D : va_G} {ca : Nat → ClassId} {a0 u v w : Nat → Nat} {H : Heap} (hP : va_P D vwCl (ct_FM (D, ca, a0) v) H) : va_P D vwCl (av_W av_wm (D, ca, ct_ad u v w) ct_mm) H := by
  intro k q hk
  obtain ⟨h1, rfl⟩ := av_W_get hk
  have h1 : k < 16 := h1
  have key : ∀ n, n < 16 → va_at D vwCl ((ct_FM (D, ca, a0) v).getD n (0, .inr (0, []))) H := fun n hn => hP n _ (ct_ge (by rw [ct_FM_len]; exact hn))
  clear hk
  by_cases c0 : k = 0
  · subst c0
    show va_at D vwCl (av_cell (D, ca, ct_ad u v w) ct_mm 98) H
    rw [ct_d0 D ca a0 u v w]
    exact key 0 (by decide)
  by_cases c1 : k = 1
  · subst c1
    show va_at D vwCl (av_cell (D, ca, ct_ad u v w) ct_mm 99) H
    rw [ct_d1 D ca a0 u v w]
    exact key 1 (by decide)
  by_cases c2 : k = 2
  · subst c2
    show va_at D vwCl (av_cell (D, ca, ct_ad u v w) ct_mm 100) H
    rw [ct_d2 D ca a0 u v w]
    exact key 2 (by decide)
  by_cases c3 : k = 3
  · subst c3
    show va_at D vwCl (av_cell (D, ca, ct_ad u v w) ct_mm 101) H
    rw [ct_d3 D ca a0 u v w]
    exact key 3 (by decide)
  by_cases c4 : k = 4
  · subst c4
    show va_at D vwCl (av_cell (D, ca, ct_ad u v w) ct_mm 102) H
    rw [ct_d4 D ca a0 u v w]
    exact key 4 (by decide)
  by_cases c5 : k = 5
  · subst c5
    show va_at D vwCl (av_cell (D, ca, ct_ad u v w) ct_mm 103) H
    rw [ct_d5 D ca a0 u v w]
    exact key 5 (by decide)
  by_cases c6 : k = 6
  · subst c6
    show va_at D vwCl (av_cell (D, ca, ct_ad u v w) ct_mm 104) H
    rw [ct_d6 D ca a0 u v w]
    exact key 6 (by decide)
  by_cases c7 : k = 7
  · subst c7
    show va_at D vwCl (av_cell (D, ca, ct_ad u v w) ct_mm 105) H
    rw [ct_d7 D ca a0 u v w]
    exact key 7 (by decide)
  by_cases c8 : k = 8
  · subst c8
    show va_at D vwCl (av_cell (D, ca, ct_ad u v w) ct_mm 106) H
    rw [ct_d8 D ca a0 u v w]
    exact key 8 (by decide)
  by_cases c9 : k = 9
  · subst c9
    show va_at D vwCl (av_cell (D, ca, ct_ad u v w) ct_mm 107) H
    rw [ct_d9 D ca a0 u v w]
    exact key 9 (by decide)
  by_cases c10 : k = 10
  · subst c10
    show va_at D vwCl (av_cell (D, ca, ct_ad u v w) ct_mm 108) H
    rw [ct_d10 D ca a0 u v w]
    exact key 10 (by decide)
  by_cases c11 : k = 11
  · subst c11
    show va_at D vwCl (av_cell (D, ca, ct_ad u v w) ct_mm 109) H
    rw [ct_d11 D ca a0 u v w]
    exact key 11 (by decide)
  by_cases c12 : k = 12
  · subst c12
    show va_at D vwCl (av_cell (D, ca, ct_ad u v w) ct_mm 110) H
    rw [ct_d12 D ca a0 u v w]
    exact key 12 (by decide)
  by_cases c13 : k = 13
  · subst c13
    show va_at D vwCl (av_cell (D, ca, ct_ad u v w) ct_mm 111) H
    rw [ct_d13 D ca a0 u v w]
    exact key 13 (by decide)
  by_cases c14 : k = 14
  · subst c14
    show va_at D vwCl (av_cell (D, ca, ct_ad u v w) ct_mm 112) H
    rw [ct_d14 D ca a0 u v w]
    exact key 14 (by decide)
  by_cases c15 : k = 15
  · subst c15
    show va_at D vwCl (av_cell (D, ca, ct_ad u v w) ct_mm 113) H
    rw [ct_d15 D ca a0 u v w]
    exact key 15 (by decide)
  omega
theorem ct_FA_ad (g : Gl) (u : Nat → Nat) : ∀ n, n < 98 → ((ct_FA g u).getD n (0, .inr (0, []))).1 = u n := by
  intro n hn
  by_cases c0 : n = 0
  · subst c0; rfl
  by_cases c1 : n = 1
  · subst c1; rfl
  by_cases c2 : n = 2
  · subst c2; rfl
  by_cases c3 : n = 3
  · subst c3; rfl
  by_cases c4 : n = 4
  · subst c4; rfl
  by_cases c5 : n = 5
  · subst c5; rfl
  by_cases c6 : n = 6
  · subst c6; rfl
  by_cases c7 : n = 7
  · subst c7; rfl
  by_cases c8 : n = 8
  · subst c8; rfl
  by_cases c9 : n = 9
  · subst c9; rfl
  by_cases c10 : n = 10
  · subst c10; rfl
  by_cases c11 : n = 11
  · subst c11; rfl
  by_cases c12 : n = 12
  · subst c12; rfl
  by_cases c13 : n = 13
  · subst c13; rfl
  by_cases c14 : n = 14
  · subst c14; rfl
  by_cases c15 : n = 15
  · subst c15; rfl
  by_cases c16 : n = 16
  · subst c16; rfl
  by_cases c17 : n = 17
  · subst c17; rfl
  by_cases c18 : n = 18
  · subst c18; rfl
  by_cases c19 : n = 19
  · subst c19; rfl
  by_cases c20 : n = 20
  · subst c20; rfl
  by_cases c21 : n = 21
  · subst c21; rfl
  by_cases c22 : n = 22
  · subst c22; rfl
  by_cases c23 : n = 23
  · subst c23; rfl
  by_cases c24 : n = 24
  · subst c24; rfl
  by_cases c25 : n = 25
  · subst c25; rfl
  by_cases c26 : n = 26
  · subst c26; rfl
  by_cases c27 : n = 27
  · subst c27; rfl
  by_cases c28 : n = 28
  · subst c28; rfl
  by_cases c29 : n = 29
  · subst c29; rfl
  by_cases c30 : n = 30
  · subst c30; rfl
  by_cases c31 : n = 31
  · subst c31; rfl
  by_cases c32 : n = 32
  · subst c32; rfl
  by_cases c33 : n = 33
  · subst c33; rfl
  by_cases c34 : n = 34
  · subst c34; rfl
  by_cases c35 : n = 35
  · subst c35; rfl
  by_cases c36 : n = 36
  · subst c36; rfl
  by_cases c37 : n = 37
  · subst c37; rfl
  by_cases c38 : n = 38
  · subst c38; rfl
  by_cases c39 : n = 39
  · subst c39; rfl
  by_cases c40 : n = 40
  · subst c40; rfl
  by_cases c41 : n = 41
  · subst c41; rfl
  by_cases c42 : n = 42
  · subst c42; rfl
  by_cases c43 : n = 43
  · subst c43; rfl
  by_cases c44 : n = 44
  · subst c44; rfl
  by_cases c45 : n = 45
  · subst c45; rfl
  by_cases c46 : n = 46
  · subst c46; rfl
  by_cases c47 : n = 47
  · subst c47; rfl
  by_cases c48 : n = 48
  · subst c48; rfl
  by_cases c49 : n = 49
  · subst c49; rfl
  by_cases c50 : n = 50
  · subst c50; rfl
  by_cases c51 : n = 51
  · subst c51; rfl
  by_cases c52 : n = 52
  · subst c52; rfl
  by_cases c53 : n = 53
  · subst c53; rfl
  by_cases c54 : n = 54
  · subst c54; rfl
  by_cases c55 : n = 55
  · subst c55; rfl
  by_cases c56 : n = 56
  · subst c56; rfl
  by_cases c57 : n = 57
  · subst c57; rfl
  by_cases c58 : n = 58
  · subst c58; rfl
  by_cases c59 : n = 59
  · subst c59; rfl
  by_cases c60 : n = 60
  · subst c60; rfl
  by_cases c61 : n = 61
  · subst c61; rfl
  by_cases c62 : n = 62
  · subst c62; rfl
  by_cases c63 : n = 63
  · subst c63; rfl
  by_cases c64 : n = 64
  · subst c64; rfl
  by_cases c65 : n = 65
  · subst c65; rfl
  by_cases c66 : n = 66
  · subst c66; rfl
  by_cases c67 : n = 67
  · subst c67; rfl
  by_cases c68 : n = 68
  · subst c68; rfl
  by_cases c69 : n = 69
  · subst c69; rfl
  by_cases c70 : n = 70
  · subst c70; rfl
  by_cases c71 : n = 71
  · subst c71; rfl
  by_cases c72 : n = 72
  · subst c72; rfl
  by_cases c73 : n = 73
  · subst c73; rfl
  by_cases c74 : n = 74
  · subst c74; rfl
  by_cases c75 : n = 75
  · subst c75; rfl
  by_cases c76 : n = 76
  · subst c76; rfl
  by_cases c77 : n = 77
  · subst c77; rfl
  by_cases c78 : n = 78
  · subst c78; rfl
  by_cases c79 : n = 79
  · subst c79; rfl
  by_cases c80 : n = 80
  · subst c80; rfl
  by_cases c81 : n = 81
  · subst c81; rfl
  by_cases c82 : n = 82
  · subst c82; rfl
  by_cases c83 : n = 83
  · subst c83; rfl
  by_cases c84 : n = 84
  · subst c84; rfl
  by_cases c85 : n = 85
  · subst c85; rfl
  by_cases c86 : n = 86
  · subst c86; rfl
  by_cases c87 : n = 87
  · subst c87; rfl
  by_cases c88 : n = 88
  · subst c88; rfl
  by_cases c89 : n = 89
  · subst c89; rfl
  by_cases c90 : n = 90
  · subst c90; rfl
  by_cases c91 : n = 91
  · subst c91; rfl
  by_cases c92 : n = 92
  · subst c92; rfl
  by_cases c93 : n = 93
  · subst c93; rfl
  by_cases c94 : n = 94
  · subst c94; rfl
  by_cases c95 : n = 95
  · subst c95; rfl
  by_cases c96 : n = 96
  · subst c96; rfl
  by_cases c97 : n = 97
  · subst c97; rfl
  omega
theorem ct_FM_ad (g : Gl) (u : Nat → Nat) : ∀ n, n < 16 → ((ct_FM g u).getD n (0, .inr (0, []))).1 = u n := by
  intro n hn
  by_cases c0 : n = 0
  · subst c0; rfl
  by_cases c1 : n = 1
  · subst c1; rfl
  by_cases c2 : n = 2
  · subst c2; rfl
  by_cases c3 : n = 3
  · subst c3; rfl
  by_cases c4 : n = 4
  · subst c4; rfl
  by_cases c5 : n = 5
  · subst c5; rfl
  by_cases c6 : n = 6
  · subst c6; rfl
  by_cases c7 : n = 7
  · subst c7; rfl
  by_cases c8 : n = 8
  · subst c8; rfl
  by_cases c9 : n = 9
  · subst c9; rfl
  by_cases c10 : n = 10
  · subst c10; rfl
  by_cases c11 : n = 11
  · subst c11; rfl
  by_cases c12 : n = 12
  · subst c12; rfl
  by_cases c13 : n = 13
  · subst c13; rfl
  by_cases c14 : n = 14
  · subst c14; rfl
  by_cases c15 : n = 15
  · subst c15; rfl
  omega
