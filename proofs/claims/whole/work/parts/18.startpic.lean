/-! the start: from the law's entry to its loop -/
def M00 (r1 r2 r3 r4 : Nat → Int) : Mem := fun k => match k with
  | 40 => fun j => if j = 3 then -1 else 0
  | 41 => fun j => if j = 0 then 1 else if j = 3 then -1 else 0
  | 43 => fun j => if j = 6 then -1 else 0
  | 44 => r1
  | 47 => fun j => if j = 4 then 2 else if j = 6 then -1 else 0
  | 55 => r2
  | 57 => fun j => if j = 7 then 1048576 else if j = 8 then 4096 else if j = 9 then 64 else 0
  | 62 => fun j => if j = 17 then -1 else if j = 18 then 2 else if j = 25 then -1 else 0
  | 63 => r3
  | 76 => r4
  | _ => fun _ => 0
theorem cell_congr (cA : ClassId) (n : Nat) {f g : Nat → Option Nat} (h : ∀ j, j < n → f j = g j) : vp_cell cA (n, .inr (.inr (.inr (.inr f)))) = vp_cell cA (n, .inr (.inr (.inr (.inr g)))) := by
  rw [vp_cell_q, vp_cell_q]
  unfold arrV
  congr 1
  congr 1
  funext j
  show va_rf (f j.val) = va_rf (g j.val)
  rw [h j.val j.isLt]
theorem pic_of {X : Cx} {M : Mem} {H : Heap} (h : ∀ k, k < NC → va_at (xD X) vwCl (xA X k, entR X k (M k)) H) : va_P (xD X) vwCl (pic X M) H := by
  intro k q hk
  have hlt : k < NC := by
    have := (List.getElem?_eq_some_iff.mp hk).1
    simpa [pic] using this
  rw [pic_get X M hlt] at hk
  cases hk
  exact h k hlt
def adrOf (q7 q8 : Nat) (u7 u8 : Sx) : Nat → Nat := fun k => ([(u7.1 0), (u7.1 1), (u7.1 2), (u7.1 3), (u7.1 8), (u7.1 9), (u7.1 12), (u7.1 13), (u7.1 16), (u7.1 17), (u7.1 20), (u7.1 21), (u7.1 24), (u7.1 25), (u7.1 28), (u7.1 29), (u7.1 10), (u7.1 11), (u7.1 14), (u7.1 15), (u7.1 18), (u7.1 19), (u7.1 22), (u7.1 23), (u7.1 26), (u7.1 27), (u7.1 30), (u7.1 31), (u7.1 32), (u7.1 33), (u7.1 34), (u7.1 35), (u7.1 37), (u7.1 38), (u7.1 39), (u7.1 40), (u7.1 42), (u7.1 43), (u7.1 45), (u7.1 46), (u7.1 41), (u7.1 44), q7, (u7.1 4), (u7.1 5), (u7.1 6), (u7.1 7), (u7.1 36), (u7.1 47), (u7.1 48), (u7.1 49), (u7.1 50), (u7.1 51), (u7.1 52), (u7.1 53), (u7.1 54), (u7.1 55), (u7.1 56), (u7.1 57), (u7.1 59), (u7.1 60), (u7.1 61), q8, (u8.1 0), (u8.1 1), (u8.1 2), (u8.1 3), (u8.1 4), (u8.1 5), (u8.1 6), (u8.1 7), (u8.1 8), (u8.1 9), (u8.1 10), (u8.1 11), (u8.1 12), (u8.1 13), (u8.1 14), (u8.1 15), (u8.1 16), (u8.1 17), (u8.1 18), (u8.1 19), (u8.1 20), (u8.1 21), (u8.1 22), (u8.1 23), (u8.1 24), (u8.1 25), (u8.1 26), (u7.1 58)] : List Nat).getD k 0
set_option maxHeartbeats 4000000 in
set_option maxRecDepth 100000 in
theorem start_pic {X0 X : Cx} {q7 q8 : Nat} {u7 u8 : Sx} {H : Heap} (hD : xD X = xD X0) (hCC : xC X = xC X0) (hA : xA X = adrOf q7 q8 u7 u8) (hP : va_P (xD X0) vwCl [(q7, .inr (7, [.ref (u7.1 0), .ref (u7.1 2), .ref (u7.1 4), .ref (u7.1 36), .ref (u7.1 47), .ref (u7.1 52), .ref (u7.1 56)])), ((u7.1 0), .inr (4, [.ref (u7.1 1), .int (jI 0)])), ((u7.1 1), arI X0 200 (fun _ => 0)), ((u7.1 2), .inr (4, [.ref (u7.1 3), .int (jI 0)])), ((u7.1 3), arI X0 67 (fun _ => 0)), ((u7.1 4), .inr (2, [.ref (u7.1 5), .ref (u7.1 6), .ref (u7.1 7), .ref (u7.1 32), .ref (u7.1 34), .int (jI 0), .int (jI (-1))])), ((u7.1 5), arI X0 95 (u7.2 0)), ((u7.1 6), arQ X0 6 (va_up (va_up (va_up (va_up (va_up (va_up (fun _ => none) 0 (some (u7.1 8))) 1 (some (u7.1 12))) 2 (some (u7.1 16))) 3 (some (u7.1 20))) 4 (some (u7.1 24))) 5 (some (u7.1 28)))), ((u7.1 7), arQ X0 6 (va_up (va_up (va_up (va_up (va_up (va_up (fun _ => none) 0 (some (u7.1 10))) 1 (some (u7.1 14))) 2 (some (u7.1 18))) 3 (some (u7.1 22))) 4 (some (u7.1 26))) 5 (some (u7.1 30)))), ((u7.1 8), .inr (4, [.ref (u7.1 9), .int (jI 0)])), ((u7.1 9), arI X0 6 (fun _ => 0)), ((u7.1 10), .inr (4, [.ref (u7.1 11), .int (jI 0)])), ((u7.1 11), arI X0 6 (fun _ => 0)), ((u7.1 12), .inr (4, [.ref (u7.1 13), .int (jI 0)])), ((u7.1 13), arI X0 6 (fun _ => 0)), ((u7.1 14), .inr (4, [.ref (u7.1 15), .int (jI 0)])), ((u7.1 15), arI X0 6 (fun _ => 0)), ((u7.1 16), .inr (4, [.ref (u7.1 17), .int (jI 0)])), ((u7.1 17), arI X0 6 (fun _ => 0)), ((u7.1 18), .inr (4, [.ref (u7.1 19), .int (jI 0)])), ((u7.1 19), arI X0 6 (fun _ => 0)), ((u7.1 20), .inr (4, [.ref (u7.1 21), .int (jI 0)])), ((u7.1 21), arI X0 6 (fun _ => 0)), ((u7.1 22), .inr (4, [.ref (u7.1 23), .int (jI 0)])), ((u7.1 23), arI X0 6 (fun _ => 0)), ((u7.1 24), .inr (4, [.ref (u7.1 25), .int (jI 0)])), ((u7.1 25), arI X0 6 (fun _ => 0)), ((u7.1 26), .inr (4, [.ref (u7.1 27), .int (jI 0)])), ((u7.1 27), arI X0 6 (fun _ => 0)), ((u7.1 28), .inr (4, [.ref (u7.1 29), .int (jI 0)])), ((u7.1 29), arI X0 6 (fun _ => 0)), ((u7.1 30), .inr (4, [.ref (u7.1 31), .int (jI 0)])), ((u7.1 31), arI X0 6 (fun _ => 0)), ((u7.1 32), .inr (4, [.ref (u7.1 33), .int (jI 0)])), ((u7.1 33), arI X0 60 (fun _ => 0)), ((u7.1 34), .inr (4, [.ref (u7.1 35), .int (jI 0)])), ((u7.1 35), arI X0 60 (fun _ => 0)), ((u7.1 36), .inr (6, [.ref (u7.1 37), .ref (u7.1 39), .ref (u7.1 41), .ref (u7.1 44), .int (jI 2), .int (jI 0), .int (jI (-1)), .int (jI 0)])), ((u7.1 37), .inr (4, [.ref (u7.1 38), .int (jI 0)])), ((u7.1 38), arI X0 12 (fun _ => 0)), ((u7.1 39), .inr (4, [.ref (u7.1 40), .int (jI 0)])), ((u7.1 40), arI X0 67 (fun _ => 0)), ((u7.1 41), .inr (3, [.int (jI 0), .ref (u7.1 42), .int (jI 0), .int (jI (-1))])), ((u7.1 42), .inr (4, [.ref (u7.1 43), .int (jI 0)])), ((u7.1 43), arI X0 12 (fun _ => 0)), ((u7.1 44), .inr (3, [.int (jI 1), .ref (u7.1 45), .int (jI 0), .int (jI (-1))])), ((u7.1 45), .inr (4, [.ref (u7.1 46), .int (jI 0)])), ((u7.1 46), arI X0 12 (fun _ => 0)), ((u7.1 47), .inr (1, [.ref (u7.1 48), .ref (u7.1 49), .ref (u7.1 50), .ref (u7.1 51), .int (jI 0)])), ((u7.1 48), arI X0 200 (fun _ => 0)), ((u7.1 49), arI X0 200 (fun _ => 0)), ((u7.1 50), arZ X0 200 (fun _ => 0)), ((u7.1 51), arI X0 6 (fun _ => 0)), ((u7.1 52), .inr (5, [.ref (u7.1 53), .ref (u7.1 54), .ref (u7.1 55)])), ((u7.1 53), arJ X0 3 (fun _ => 0)), ((u7.1 54), arI X0 120 (u7.2 1)), ((u7.1 55), arZ X0 120 (fun _ => 0)), ((u7.1 56), .inr (0, [.ref (u7.1 57), .ref (u7.1 58), .ref (u7.1 59), .ref (u7.1 60), .ref (u7.1 61), .int (jI 0), .int (jI 0), .int (jI 1048576), .int (jI 4096), .int (jI 64)])), ((u7.1 57), arI X0 6 (fun _ => 0)), ((u7.1 58), arI X0 3 (fun _ => 0)), ((u7.1 59), arI X0 3 (fun _ => 0)), ((u7.1 60), arI X0 3 (fun _ => 0)), ((u7.1 61), arI X0 120 (fun _ => 0)), (q8, .inr (8, [.ref (u8.1 0), .ref (u8.1 1), .ref (u8.1 2), .int (jI 0), .int (jI 0), .ref (u8.1 3), .ref (u8.1 4), .ref (u8.1 5), .ref (u8.1 6), .ref (u8.1 7), .ref (u8.1 8), .ref (u8.1 9), .int (jI 0), .int (jI 0), .int (jI 0), .int (jI 0), .int (jI 0), .int (jI (-1)), .int (jI 2), .ref (u8.1 10), .ref (u8.1 11), .int (jI 0), .int (jI 0), .int (jI 0), .int (jI 0), .int (jI (-1)), .int (jI 0), .int (jI 0), .ref (u8.1 12), .ref (u8.1 13), .ref (u8.1 14), .int (jI 0), .ref (u8.1 15), .ref (u8.1 16), .ref (u8.1 17), .ref (u8.1 18), .ref (u8.1 19), .ref (u8.1 20), .ref (u8.1 21), .ref (u8.1 22), .ref (u8.1 23), .int (jI 0), .int (jI 0), .ref (u8.1 24), .ref (u8.1 25), .ref (u8.1 26)])), ((u8.1 0), arI X0 127 (u8.2 0)), ((u8.1 1), arI X0 200 (fun _ => 0)), ((u8.1 2), arI X0 200 (fun _ => 0)), ((u8.1 3), arI X0 6 (fun _ => 0)), ((u8.1 4), arI X0 6 (fun _ => 0)), ((u8.1 5), arI X0 36 (fun _ => 0)), ((u8.1 6), arI X0 36 (fun _ => 0)), ((u8.1 7), arI X0 61 (fun _ => 0)), ((u8.1 8), arI X0 61 (fun _ => 0)), ((u8.1 9), arI X0 61 (fun _ => 0)), ((u8.1 10), arI X0 12 (fun _ => 0)), ((u8.1 11), arI X0 130 (fun _ => 0)), ((u8.1 12), arJ X0 3 (fun _ => 0)), ((u8.1 13), arI X0 120 (u8.2 1)), ((u8.1 14), arZ X0 120 (fun _ => 0)), ((u8.1 15), arI X0 200 (fun _ => 0)), ((u8.1 16), arI X0 200 (fun _ => 0)), ((u8.1 17), arZ X0 200 (fun _ => 0)), ((u8.1 18), arI X0 6 (fun _ => 0)), ((u8.1 19), arI X0 3 (fun _ => 0)), ((u8.1 20), arI X0 6 (fun _ => 0)), ((u8.1 21), arI X0 3 (fun _ => 0)), ((u8.1 22), arI X0 6 (fun _ => 0)), ((u8.1 23), arI X0 3 (fun _ => 0)), ((u8.1 24), arI X0 3 (fun _ => 0)), ((u8.1 25), arI X0 3 (fun _ => 0)), ((u8.1 26), arI X0 120 (fun _ => 0))] H) : va_P (xD X) vwCl (pic X (M00 (u7.2 0) (u7.2 1) (u8.2 0) (u8.2 1))) H := by
  obtain ⟨xd, xc, xt, xa⟩ := X
  obtain ⟨xd0, xc0, xt0, xa0⟩ := X0
  cases hD
  cases hCC
  cases hA
  refine pic_of (fun k hk => ?_)
  match k, hk with
  | 0, _ => exact hP 1 _ rfl
  | 1, _ => exact hP 2 _ rfl
  | 2, _ => exact hP 3 _ rfl
  | 3, _ => exact hP 4 _ rfl
  | 4, _ => exact hP 9 _ rfl
  | 5, _ => exact hP 10 _ rfl
  | 6, _ => exact hP 13 _ rfl
  | 7, _ => exact hP 14 _ rfl
  | 8, _ => exact hP 17 _ rfl
  | 9, _ => exact hP 18 _ rfl
  | 10, _ => exact hP 21 _ rfl
  | 11, _ => exact hP 22 _ rfl
  | 12, _ => exact hP 25 _ rfl
  | 13, _ => exact hP 26 _ rfl
  | 14, _ => exact hP 29 _ rfl
  | 15, _ => exact hP 30 _ rfl
  | 16, _ => exact hP 11 _ rfl
  | 17, _ => exact hP 12 _ rfl
  | 18, _ => exact hP 15 _ rfl
  | 19, _ => exact hP 16 _ rfl
  | 20, _ => exact hP 19 _ rfl
  | 21, _ => exact hP 20 _ rfl
  | 22, _ => exact hP 23 _ rfl
  | 23, _ => exact hP 24 _ rfl
  | 24, _ => exact hP 27 _ rfl
  | 25, _ => exact hP 28 _ rfl
  | 26, _ => exact hP 31 _ rfl
  | 27, _ => exact hP 32 _ rfl
  | 28, _ => exact hP 33 _ rfl
  | 29, _ => exact hP 34 _ rfl
  | 30, _ => exact hP 35 _ rfl
  | 31, _ => exact hP 36 _ rfl
  | 32, _ => exact hP 38 _ rfl
  | 33, _ => exact hP 39 _ rfl
  | 34, _ => exact hP 40 _ rfl
  | 35, _ => exact hP 41 _ rfl
  | 36, _ => exact hP 43 _ rfl
  | 37, _ => exact hP 44 _ rfl
  | 38, _ => exact hP 46 _ rfl
  | 39, _ => exact hP 47 _ rfl
  | 40, _ => exact hP 42 _ rfl
  | 41, _ => exact hP 45 _ rfl
  | 42, _ => exact hP 0 _ rfl
  | 43, _ => exact hP 5 _ rfl
  | 44, _ => exact hP 6 _ rfl
  | 45, _ => exact (hP 7 _ rfl).trans (congrArg some (cell_congr _ 6 (fun j hj => by match j, hj with | 0, _ => rfl | 1, _ => rfl | 2, _ => rfl | 3, _ => rfl | 4, _ => rfl | 5, _ => rfl | k + 6, h => exact absurd h (by omega))))
  | 46, _ => exact (hP 8 _ rfl).trans (congrArg some (cell_congr _ 6 (fun j hj => by match j, hj with | 0, _ => rfl | 1, _ => rfl | 2, _ => rfl | 3, _ => rfl | 4, _ => rfl | 5, _ => rfl | k + 6, h => exact absurd h (by omega))))
  | 47, _ => exact hP 37 _ rfl
  | 48, _ => exact hP 48 _ rfl
  | 49, _ => exact hP 49 _ rfl
  | 50, _ => exact hP 50 _ rfl
  | 51, _ => exact hP 51 _ rfl
  | 52, _ => exact hP 52 _ rfl
  | 53, _ => exact hP 53 _ rfl
  | 54, _ => exact hP 54 _ rfl
  | 55, _ => exact hP 55 _ rfl
  | 56, _ => exact hP 56 _ rfl
  | 57, _ => exact hP 57 _ rfl
  | 58, _ => exact hP 58 _ rfl
  | 59, _ => exact hP 60 _ rfl
  | 60, _ => exact hP 61 _ rfl
  | 61, _ => exact hP 62 _ rfl
  | 62, _ => exact hP 63 _ rfl
  | 63, _ => exact hP 64 _ rfl
  | 64, _ => exact hP 65 _ rfl
  | 65, _ => exact hP 66 _ rfl
  | 66, _ => exact hP 67 _ rfl
  | 67, _ => exact hP 68 _ rfl
  | 68, _ => exact hP 69 _ rfl
  | 69, _ => exact hP 70 _ rfl
  | 70, _ => exact hP 71 _ rfl
  | 71, _ => exact hP 72 _ rfl
  | 72, _ => exact hP 73 _ rfl
  | 73, _ => exact hP 74 _ rfl
  | 74, _ => exact hP 75 _ rfl
  | 75, _ => exact hP 76 _ rfl
  | 76, _ => exact hP 77 _ rfl
  | 77, _ => exact hP 78 _ rfl
  | 78, _ => exact hP 79 _ rfl
  | 79, _ => exact hP 80 _ rfl
  | 80, _ => exact hP 81 _ rfl
  | 81, _ => exact hP 82 _ rfl
  | 82, _ => exact hP 83 _ rfl
  | 83, _ => exact hP 84 _ rfl
  | 84, _ => exact hP 85 _ rfl
  | 85, _ => exact hP 86 _ rfl
  | 86, _ => exact hP 87 _ rfl
  | 87, _ => exact hP 88 _ rfl
  | 88, _ => exact hP 89 _ rfl
  | 89, _ => exact hP 90 _ rfl
  | 90, _ => exact hP 59 _ rfl
  | k + 91, h => exact absurd h (by unfold NC; omega)
theorem start_inj {A : Nat → Prop} {X0 X : Cx} {q7 q8 : Nat} {u7 u8 : Sx} (hA : xA X = adrOf q7 q8 u7 u8) (hD : va_D A [(q7, .inr (7, [.ref (u7.1 0), .ref (u7.1 2), .ref (u7.1 4), .ref (u7.1 36), .ref (u7.1 47), .ref (u7.1 52), .ref (u7.1 56)])), ((u7.1 0), .inr (4, [.ref (u7.1 1), .int (jI 0)])), ((u7.1 1), arI X0 200 (fun _ => 0)), ((u7.1 2), .inr (4, [.ref (u7.1 3), .int (jI 0)])), ((u7.1 3), arI X0 67 (fun _ => 0)), ((u7.1 4), .inr (2, [.ref (u7.1 5), .ref (u7.1 6), .ref (u7.1 7), .ref (u7.1 32), .ref (u7.1 34), .int (jI 0), .int (jI (-1))])), ((u7.1 5), arI X0 95 (u7.2 0)), ((u7.1 6), arQ X0 6 (va_up (va_up (va_up (va_up (va_up (va_up (fun _ => none) 0 (some (u7.1 8))) 1 (some (u7.1 12))) 2 (some (u7.1 16))) 3 (some (u7.1 20))) 4 (some (u7.1 24))) 5 (some (u7.1 28)))), ((u7.1 7), arQ X0 6 (va_up (va_up (va_up (va_up (va_up (va_up (fun _ => none) 0 (some (u7.1 10))) 1 (some (u7.1 14))) 2 (some (u7.1 18))) 3 (some (u7.1 22))) 4 (some (u7.1 26))) 5 (some (u7.1 30)))), ((u7.1 8), .inr (4, [.ref (u7.1 9), .int (jI 0)])), ((u7.1 9), arI X0 6 (fun _ => 0)), ((u7.1 10), .inr (4, [.ref (u7.1 11), .int (jI 0)])), ((u7.1 11), arI X0 6 (fun _ => 0)), ((u7.1 12), .inr (4, [.ref (u7.1 13), .int (jI 0)])), ((u7.1 13), arI X0 6 (fun _ => 0)), ((u7.1 14), .inr (4, [.ref (u7.1 15), .int (jI 0)])), ((u7.1 15), arI X0 6 (fun _ => 0)), ((u7.1 16), .inr (4, [.ref (u7.1 17), .int (jI 0)])), ((u7.1 17), arI X0 6 (fun _ => 0)), ((u7.1 18), .inr (4, [.ref (u7.1 19), .int (jI 0)])), ((u7.1 19), arI X0 6 (fun _ => 0)), ((u7.1 20), .inr (4, [.ref (u7.1 21), .int (jI 0)])), ((u7.1 21), arI X0 6 (fun _ => 0)), ((u7.1 22), .inr (4, [.ref (u7.1 23), .int (jI 0)])), ((u7.1 23), arI X0 6 (fun _ => 0)), ((u7.1 24), .inr (4, [.ref (u7.1 25), .int (jI 0)])), ((u7.1 25), arI X0 6 (fun _ => 0)), ((u7.1 26), .inr (4, [.ref (u7.1 27), .int (jI 0)])), ((u7.1 27), arI X0 6 (fun _ => 0)), ((u7.1 28), .inr (4, [.ref (u7.1 29), .int (jI 0)])), ((u7.1 29), arI X0 6 (fun _ => 0)), ((u7.1 30), .inr (4, [.ref (u7.1 31), .int (jI 0)])), ((u7.1 31), arI X0 6 (fun _ => 0)), ((u7.1 32), .inr (4, [.ref (u7.1 33), .int (jI 0)])), ((u7.1 33), arI X0 60 (fun _ => 0)), ((u7.1 34), .inr (4, [.ref (u7.1 35), .int (jI 0)])), ((u7.1 35), arI X0 60 (fun _ => 0)), ((u7.1 36), .inr (6, [.ref (u7.1 37), .ref (u7.1 39), .ref (u7.1 41), .ref (u7.1 44), .int (jI 2), .int (jI 0), .int (jI (-1)), .int (jI 0)])), ((u7.1 37), .inr (4, [.ref (u7.1 38), .int (jI 0)])), ((u7.1 38), arI X0 12 (fun _ => 0)), ((u7.1 39), .inr (4, [.ref (u7.1 40), .int (jI 0)])), ((u7.1 40), arI X0 67 (fun _ => 0)), ((u7.1 41), .inr (3, [.int (jI 0), .ref (u7.1 42), .int (jI 0), .int (jI (-1))])), ((u7.1 42), .inr (4, [.ref (u7.1 43), .int (jI 0)])), ((u7.1 43), arI X0 12 (fun _ => 0)), ((u7.1 44), .inr (3, [.int (jI 1), .ref (u7.1 45), .int (jI 0), .int (jI (-1))])), ((u7.1 45), .inr (4, [.ref (u7.1 46), .int (jI 0)])), ((u7.1 46), arI X0 12 (fun _ => 0)), ((u7.1 47), .inr (1, [.ref (u7.1 48), .ref (u7.1 49), .ref (u7.1 50), .ref (u7.1 51), .int (jI 0)])), ((u7.1 48), arI X0 200 (fun _ => 0)), ((u7.1 49), arI X0 200 (fun _ => 0)), ((u7.1 50), arZ X0 200 (fun _ => 0)), ((u7.1 51), arI X0 6 (fun _ => 0)), ((u7.1 52), .inr (5, [.ref (u7.1 53), .ref (u7.1 54), .ref (u7.1 55)])), ((u7.1 53), arJ X0 3 (fun _ => 0)), ((u7.1 54), arI X0 120 (u7.2 1)), ((u7.1 55), arZ X0 120 (fun _ => 0)), ((u7.1 56), .inr (0, [.ref (u7.1 57), .ref (u7.1 58), .ref (u7.1 59), .ref (u7.1 60), .ref (u7.1 61), .int (jI 0), .int (jI 0), .int (jI 1048576), .int (jI 4096), .int (jI 64)])), ((u7.1 57), arI X0 6 (fun _ => 0)), ((u7.1 58), arI X0 3 (fun _ => 0)), ((u7.1 59), arI X0 3 (fun _ => 0)), ((u7.1 60), arI X0 3 (fun _ => 0)), ((u7.1 61), arI X0 120 (fun _ => 0)), (q8, .inr (8, [.ref (u8.1 0), .ref (u8.1 1), .ref (u8.1 2), .int (jI 0), .int (jI 0), .ref (u8.1 3), .ref (u8.1 4), .ref (u8.1 5), .ref (u8.1 6), .ref (u8.1 7), .ref (u8.1 8), .ref (u8.1 9), .int (jI 0), .int (jI 0), .int (jI 0), .int (jI 0), .int (jI 0), .int (jI (-1)), .int (jI 2), .ref (u8.1 10), .ref (u8.1 11), .int (jI 0), .int (jI 0), .int (jI 0), .int (jI 0), .int (jI (-1)), .int (jI 0), .int (jI 0), .ref (u8.1 12), .ref (u8.1 13), .ref (u8.1 14), .int (jI 0), .ref (u8.1 15), .ref (u8.1 16), .ref (u8.1 17), .ref (u8.1 18), .ref (u8.1 19), .ref (u8.1 20), .ref (u8.1 21), .ref (u8.1 22), .ref (u8.1 23), .int (jI 0), .int (jI 0), .ref (u8.1 24), .ref (u8.1 25), .ref (u8.1 26)])), ((u8.1 0), arI X0 127 (u8.2 0)), ((u8.1 1), arI X0 200 (fun _ => 0)), ((u8.1 2), arI X0 200 (fun _ => 0)), ((u8.1 3), arI X0 6 (fun _ => 0)), ((u8.1 4), arI X0 6 (fun _ => 0)), ((u8.1 5), arI X0 36 (fun _ => 0)), ((u8.1 6), arI X0 36 (fun _ => 0)), ((u8.1 7), arI X0 61 (fun _ => 0)), ((u8.1 8), arI X0 61 (fun _ => 0)), ((u8.1 9), arI X0 61 (fun _ => 0)), ((u8.1 10), arI X0 12 (fun _ => 0)), ((u8.1 11), arI X0 130 (fun _ => 0)), ((u8.1 12), arJ X0 3 (fun _ => 0)), ((u8.1 13), arI X0 120 (u8.2 1)), ((u8.1 14), arZ X0 120 (fun _ => 0)), ((u8.1 15), arI X0 200 (fun _ => 0)), ((u8.1 16), arI X0 200 (fun _ => 0)), ((u8.1 17), arZ X0 200 (fun _ => 0)), ((u8.1 18), arI X0 6 (fun _ => 0)), ((u8.1 19), arI X0 3 (fun _ => 0)), ((u8.1 20), arI X0 6 (fun _ => 0)), ((u8.1 21), arI X0 3 (fun _ => 0)), ((u8.1 22), arI X0 6 (fun _ => 0)), ((u8.1 23), arI X0 3 (fun _ => 0)), ((u8.1 24), arI X0 3 (fun _ => 0)), ((u8.1 25), arI X0 3 (fun _ => 0)), ((u8.1 26), arI X0 120 (fun _ => 0))]) : Inj X ∧ ∀ q, AW X q → A q := by
  have hp : ∀ k, k < NC → ∃ i e, ([1, 2, 3, 4, 9, 10, 13, 14, 17, 18, 21, 22, 25, 26, 29, 30, 11, 12, 15, 16, 19, 20, 23, 24, 27, 28, 31, 32, 33, 34, 35, 36, 38, 39, 40, 41, 43, 44, 46, 47, 42, 45, 0, 5, 6, 7, 8, 37, 48, 49, 50, 51, 52, 53, 54, 55, 56, 57, 58, 60, 61, 62, 63, 64, 65, 66, 67, 68, 69, 70, 71, 72, 73, 74, 75, 76, 77, 78, 79, 80, 81, 82, 83, 84, 85, 86, 87, 88, 89, 90, 59] : List Nat)[k]? = some i ∧ ([(q7, .inr (7, [.ref (u7.1 0), .ref (u7.1 2), .ref (u7.1 4), .ref (u7.1 36), .ref (u7.1 47), .ref (u7.1 52), .ref (u7.1 56)])), ((u7.1 0), .inr (4, [.ref (u7.1 1), .int (jI 0)])), ((u7.1 1), arI X0 200 (fun _ => 0)), ((u7.1 2), .inr (4, [.ref (u7.1 3), .int (jI 0)])), ((u7.1 3), arI X0 67 (fun _ => 0)), ((u7.1 4), .inr (2, [.ref (u7.1 5), .ref (u7.1 6), .ref (u7.1 7), .ref (u7.1 32), .ref (u7.1 34), .int (jI 0), .int (jI (-1))])), ((u7.1 5), arI X0 95 (u7.2 0)), ((u7.1 6), arQ X0 6 (va_up (va_up (va_up (va_up (va_up (va_up (fun _ => none) 0 (some (u7.1 8))) 1 (some (u7.1 12))) 2 (some (u7.1 16))) 3 (some (u7.1 20))) 4 (some (u7.1 24))) 5 (some (u7.1 28)))), ((u7.1 7), arQ X0 6 (va_up (va_up (va_up (va_up (va_up (va_up (fun _ => none) 0 (some (u7.1 10))) 1 (some (u7.1 14))) 2 (some (u7.1 18))) 3 (some (u7.1 22))) 4 (some (u7.1 26))) 5 (some (u7.1 30)))), ((u7.1 8), .inr (4, [.ref (u7.1 9), .int (jI 0)])), ((u7.1 9), arI X0 6 (fun _ => 0)), ((u7.1 10), .inr (4, [.ref (u7.1 11), .int (jI 0)])), ((u7.1 11), arI X0 6 (fun _ => 0)), ((u7.1 12), .inr (4, [.ref (u7.1 13), .int (jI 0)])), ((u7.1 13), arI X0 6 (fun _ => 0)), ((u7.1 14), .inr (4, [.ref (u7.1 15), .int (jI 0)])), ((u7.1 15), arI X0 6 (fun _ => 0)), ((u7.1 16), .inr (4, [.ref (u7.1 17), .int (jI 0)])), ((u7.1 17), arI X0 6 (fun _ => 0)), ((u7.1 18), .inr (4, [.ref (u7.1 19), .int (jI 0)])), ((u7.1 19), arI X0 6 (fun _ => 0)), ((u7.1 20), .inr (4, [.ref (u7.1 21), .int (jI 0)])), ((u7.1 21), arI X0 6 (fun _ => 0)), ((u7.1 22), .inr (4, [.ref (u7.1 23), .int (jI 0)])), ((u7.1 23), arI X0 6 (fun _ => 0)), ((u7.1 24), .inr (4, [.ref (u7.1 25), .int (jI 0)])), ((u7.1 25), arI X0 6 (fun _ => 0)), ((u7.1 26), .inr (4, [.ref (u7.1 27), .int (jI 0)])), ((u7.1 27), arI X0 6 (fun _ => 0)), ((u7.1 28), .inr (4, [.ref (u7.1 29), .int (jI 0)])), ((u7.1 29), arI X0 6 (fun _ => 0)), ((u7.1 30), .inr (4, [.ref (u7.1 31), .int (jI 0)])), ((u7.1 31), arI X0 6 (fun _ => 0)), ((u7.1 32), .inr (4, [.ref (u7.1 33), .int (jI 0)])), ((u7.1 33), arI X0 60 (fun _ => 0)), ((u7.1 34), .inr (4, [.ref (u7.1 35), .int (jI 0)])), ((u7.1 35), arI X0 60 (fun _ => 0)), ((u7.1 36), .inr (6, [.ref (u7.1 37), .ref (u7.1 39), .ref (u7.1 41), .ref (u7.1 44), .int (jI 2), .int (jI 0), .int (jI (-1)), .int (jI 0)])), ((u7.1 37), .inr (4, [.ref (u7.1 38), .int (jI 0)])), ((u7.1 38), arI X0 12 (fun _ => 0)), ((u7.1 39), .inr (4, [.ref (u7.1 40), .int (jI 0)])), ((u7.1 40), arI X0 67 (fun _ => 0)), ((u7.1 41), .inr (3, [.int (jI 0), .ref (u7.1 42), .int (jI 0), .int (jI (-1))])), ((u7.1 42), .inr (4, [.ref (u7.1 43), .int (jI 0)])), ((u7.1 43), arI X0 12 (fun _ => 0)), ((u7.1 44), .inr (3, [.int (jI 1), .ref (u7.1 45), .int (jI 0), .int (jI (-1))])), ((u7.1 45), .inr (4, [.ref (u7.1 46), .int (jI 0)])), ((u7.1 46), arI X0 12 (fun _ => 0)), ((u7.1 47), .inr (1, [.ref (u7.1 48), .ref (u7.1 49), .ref (u7.1 50), .ref (u7.1 51), .int (jI 0)])), ((u7.1 48), arI X0 200 (fun _ => 0)), ((u7.1 49), arI X0 200 (fun _ => 0)), ((u7.1 50), arZ X0 200 (fun _ => 0)), ((u7.1 51), arI X0 6 (fun _ => 0)), ((u7.1 52), .inr (5, [.ref (u7.1 53), .ref (u7.1 54), .ref (u7.1 55)])), ((u7.1 53), arJ X0 3 (fun _ => 0)), ((u7.1 54), arI X0 120 (u7.2 1)), ((u7.1 55), arZ X0 120 (fun _ => 0)), ((u7.1 56), .inr (0, [.ref (u7.1 57), .ref (u7.1 58), .ref (u7.1 59), .ref (u7.1 60), .ref (u7.1 61), .int (jI 0), .int (jI 0), .int (jI 1048576), .int (jI 4096), .int (jI 64)])), ((u7.1 57), arI X0 6 (fun _ => 0)), ((u7.1 58), arI X0 3 (fun _ => 0)), ((u7.1 59), arI X0 3 (fun _ => 0)), ((u7.1 60), arI X0 3 (fun _ => 0)), ((u7.1 61), arI X0 120 (fun _ => 0)), (q8, .inr (8, [.ref (u8.1 0), .ref (u8.1 1), .ref (u8.1 2), .int (jI 0), .int (jI 0), .ref (u8.1 3), .ref (u8.1 4), .ref (u8.1 5), .ref (u8.1 6), .ref (u8.1 7), .ref (u8.1 8), .ref (u8.1 9), .int (jI 0), .int (jI 0), .int (jI 0), .int (jI 0), .int (jI 0), .int (jI (-1)), .int (jI 2), .ref (u8.1 10), .ref (u8.1 11), .int (jI 0), .int (jI 0), .int (jI 0), .int (jI 0), .int (jI (-1)), .int (jI 0), .int (jI 0), .ref (u8.1 12), .ref (u8.1 13), .ref (u8.1 14), .int (jI 0), .ref (u8.1 15), .ref (u8.1 16), .ref (u8.1 17), .ref (u8.1 18), .ref (u8.1 19), .ref (u8.1 20), .ref (u8.1 21), .ref (u8.1 22), .ref (u8.1 23), .int (jI 0), .int (jI 0), .ref (u8.1 24), .ref (u8.1 25), .ref (u8.1 26)])), ((u8.1 0), arI X0 127 (u8.2 0)), ((u8.1 1), arI X0 200 (fun _ => 0)), ((u8.1 2), arI X0 200 (fun _ => 0)), ((u8.1 3), arI X0 6 (fun _ => 0)), ((u8.1 4), arI X0 6 (fun _ => 0)), ((u8.1 5), arI X0 36 (fun _ => 0)), ((u8.1 6), arI X0 36 (fun _ => 0)), ((u8.1 7), arI X0 61 (fun _ => 0)), ((u8.1 8), arI X0 61 (fun _ => 0)), ((u8.1 9), arI X0 61 (fun _ => 0)), ((u8.1 10), arI X0 12 (fun _ => 0)), ((u8.1 11), arI X0 130 (fun _ => 0)), ((u8.1 12), arJ X0 3 (fun _ => 0)), ((u8.1 13), arI X0 120 (u8.2 1)), ((u8.1 14), arZ X0 120 (fun _ => 0)), ((u8.1 15), arI X0 200 (fun _ => 0)), ((u8.1 16), arI X0 200 (fun _ => 0)), ((u8.1 17), arZ X0 200 (fun _ => 0)), ((u8.1 18), arI X0 6 (fun _ => 0)), ((u8.1 19), arI X0 3 (fun _ => 0)), ((u8.1 20), arI X0 6 (fun _ => 0)), ((u8.1 21), arI X0 3 (fun _ => 0)), ((u8.1 22), arI X0 6 (fun _ => 0)), ((u8.1 23), arI X0 3 (fun _ => 0)), ((u8.1 24), arI X0 3 (fun _ => 0)), ((u8.1 25), arI X0 3 (fun _ => 0)), ((u8.1 26), arI X0 120 (fun _ => 0))] : va_W)[i]? = some (xA X k, e) := by
    intro k hk
    rw [hA]
    match k, hk with
    | 0, _ => exact ⟨1, _, rfl, rfl⟩
    | 1, _ => exact ⟨2, _, rfl, rfl⟩
    | 2, _ => exact ⟨3, _, rfl, rfl⟩
    | 3, _ => exact ⟨4, _, rfl, rfl⟩
    | 4, _ => exact ⟨9, _, rfl, rfl⟩
    | 5, _ => exact ⟨10, _, rfl, rfl⟩
    | 6, _ => exact ⟨13, _, rfl, rfl⟩
    | 7, _ => exact ⟨14, _, rfl, rfl⟩
    | 8, _ => exact ⟨17, _, rfl, rfl⟩
    | 9, _ => exact ⟨18, _, rfl, rfl⟩
    | 10, _ => exact ⟨21, _, rfl, rfl⟩
    | 11, _ => exact ⟨22, _, rfl, rfl⟩
    | 12, _ => exact ⟨25, _, rfl, rfl⟩
    | 13, _ => exact ⟨26, _, rfl, rfl⟩
    | 14, _ => exact ⟨29, _, rfl, rfl⟩
    | 15, _ => exact ⟨30, _, rfl, rfl⟩
    | 16, _ => exact ⟨11, _, rfl, rfl⟩
    | 17, _ => exact ⟨12, _, rfl, rfl⟩
    | 18, _ => exact ⟨15, _, rfl, rfl⟩
    | 19, _ => exact ⟨16, _, rfl, rfl⟩
    | 20, _ => exact ⟨19, _, rfl, rfl⟩
    | 21, _ => exact ⟨20, _, rfl, rfl⟩
    | 22, _ => exact ⟨23, _, rfl, rfl⟩
    | 23, _ => exact ⟨24, _, rfl, rfl⟩
    | 24, _ => exact ⟨27, _, rfl, rfl⟩
    | 25, _ => exact ⟨28, _, rfl, rfl⟩
    | 26, _ => exact ⟨31, _, rfl, rfl⟩
    | 27, _ => exact ⟨32, _, rfl, rfl⟩
    | 28, _ => exact ⟨33, _, rfl, rfl⟩
    | 29, _ => exact ⟨34, _, rfl, rfl⟩
    | 30, _ => exact ⟨35, _, rfl, rfl⟩
    | 31, _ => exact ⟨36, _, rfl, rfl⟩
    | 32, _ => exact ⟨38, _, rfl, rfl⟩
    | 33, _ => exact ⟨39, _, rfl, rfl⟩
    | 34, _ => exact ⟨40, _, rfl, rfl⟩
    | 35, _ => exact ⟨41, _, rfl, rfl⟩
    | 36, _ => exact ⟨43, _, rfl, rfl⟩
    | 37, _ => exact ⟨44, _, rfl, rfl⟩
    | 38, _ => exact ⟨46, _, rfl, rfl⟩
    | 39, _ => exact ⟨47, _, rfl, rfl⟩
    | 40, _ => exact ⟨42, _, rfl, rfl⟩
    | 41, _ => exact ⟨45, _, rfl, rfl⟩
    | 42, _ => exact ⟨0, _, rfl, rfl⟩
    | 43, _ => exact ⟨5, _, rfl, rfl⟩
    | 44, _ => exact ⟨6, _, rfl, rfl⟩
    | 45, _ => exact ⟨7, _, rfl, rfl⟩
    | 46, _ => exact ⟨8, _, rfl, rfl⟩
    | 47, _ => exact ⟨37, _, rfl, rfl⟩
    | 48, _ => exact ⟨48, _, rfl, rfl⟩
    | 49, _ => exact ⟨49, _, rfl, rfl⟩
    | 50, _ => exact ⟨50, _, rfl, rfl⟩
    | 51, _ => exact ⟨51, _, rfl, rfl⟩
    | 52, _ => exact ⟨52, _, rfl, rfl⟩
    | 53, _ => exact ⟨53, _, rfl, rfl⟩
    | 54, _ => exact ⟨54, _, rfl, rfl⟩
    | 55, _ => exact ⟨55, _, rfl, rfl⟩
    | 56, _ => exact ⟨56, _, rfl, rfl⟩
    | 57, _ => exact ⟨57, _, rfl, rfl⟩
    | 58, _ => exact ⟨58, _, rfl, rfl⟩
    | 59, _ => exact ⟨60, _, rfl, rfl⟩
    | 60, _ => exact ⟨61, _, rfl, rfl⟩
    | 61, _ => exact ⟨62, _, rfl, rfl⟩
    | 62, _ => exact ⟨63, _, rfl, rfl⟩
    | 63, _ => exact ⟨64, _, rfl, rfl⟩
    | 64, _ => exact ⟨65, _, rfl, rfl⟩
    | 65, _ => exact ⟨66, _, rfl, rfl⟩
    | 66, _ => exact ⟨67, _, rfl, rfl⟩
    | 67, _ => exact ⟨68, _, rfl, rfl⟩
    | 68, _ => exact ⟨69, _, rfl, rfl⟩
    | 69, _ => exact ⟨70, _, rfl, rfl⟩
    | 70, _ => exact ⟨71, _, rfl, rfl⟩
    | 71, _ => exact ⟨72, _, rfl, rfl⟩
    | 72, _ => exact ⟨73, _, rfl, rfl⟩
    | 73, _ => exact ⟨74, _, rfl, rfl⟩
    | 74, _ => exact ⟨75, _, rfl, rfl⟩
    | 75, _ => exact ⟨76, _, rfl, rfl⟩
    | 76, _ => exact ⟨77, _, rfl, rfl⟩
    | 77, _ => exact ⟨78, _, rfl, rfl⟩
    | 78, _ => exact ⟨79, _, rfl, rfl⟩
    | 79, _ => exact ⟨80, _, rfl, rfl⟩
    | 80, _ => exact ⟨81, _, rfl, rfl⟩
    | 81, _ => exact ⟨82, _, rfl, rfl⟩
    | 82, _ => exact ⟨83, _, rfl, rfl⟩
    | 83, _ => exact ⟨84, _, rfl, rfl⟩
    | 84, _ => exact ⟨85, _, rfl, rfl⟩
    | 85, _ => exact ⟨86, _, rfl, rfl⟩
    | 86, _ => exact ⟨87, _, rfl, rfl⟩
    | 87, _ => exact ⟨88, _, rfl, rfl⟩
    | 88, _ => exact ⟨89, _, rfl, rfl⟩
    | 89, _ => exact ⟨90, _, rfl, rfl⟩
    | 90, _ => exact ⟨59, _, rfl, rfl⟩
    | k + 91, h => exact absurd h (by unfold NC; omega)
  refine ⟨fun i j hi hj hij => ?_, fun q hq => ?_⟩
  · obtain ⟨a, ea, h1, h2⟩ := hp i hi
    obtain ⟨b, eb, h3, h4⟩ := hp j hj
    have h5 := hD.1 a b _ _ h2 h4 hij
    subst h5
    exact va_nd_inj _ (by decide) i j a h1 h3
  · obtain ⟨k, hk, rfl⟩ := hq
    obtain ⟨a, ea, h1, h2⟩ := hp k hk
    exact hD.2 a _ h2
