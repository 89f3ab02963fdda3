/-! ===== the store behind both constructors, by program ===== -/
def cells90 (ka : Nat → ClassId) (ad : Nat → Nat) : va_W := [(ad 0, .inr (11, [.ref (ad 1), .ref (ad 2), .ref (ad 3), .ref (ad 6), .ref (ad 16), .ref (ad 24), .ref (ad 26), .ref (ad 62), .ref (ad 64), .ref (ad 66), .ref (ad 29), .int 0, .int 0])), (ad 1, .inl (ka 4, 3, .inr (.inr (.inr (.inr (va_up (va_up (va_up (fun _ => none) 0 (some (ad 30))) 1 (some (ad 32))) 2 (some (ad 34)))))))), (ad 2, .inl (ka 1, 3, .inl fW3)), (ad 3, .inr (10, [.int 0, .ref (ad 4), .ref (ad 5)])), (ad 4, .inl (ka 3, 36, .inl (fun _ => 0))), (ad 5, .inl (ka 1, 144, .inl (fun _ => 0))), (ad 6, .inr (4, [.int 0, .ref (ad 7), .ref (ad 8), .ref (ad 9), .ref (ad 10), .ref (ad 11), .int 0, .ref (ad 12), .ref (ad 13), .ref (ad 14), .ref (ad 15), .int 2])), (ad 7, .inl (ka 1, 8, .inl (fun _ => 0))), (ad 8, .inl (ka 1, 8, .inl (fun _ => 0))), (ad 9, .inl (ka 1, 8, .inl (fun _ => 0))), (ad 10, .inl (ka 1, 8, .inl (fun _ => 0))), (ad 11, .inl (ka 1, 8, .inl (fun _ => 0))), (ad 12, .inl (ka 1, 8, .inl (fun _ => 0))), (ad 13, .inl (ka 1, 8, .inl (fun _ => 0))), (ad 14, .inl (ka 1, 8, .inl (fun _ => 0))), (ad 15, .inl (ka 1, 20, .inl fW20)), (ad 16, .inr (6, [.ref (ad 3), .ref (ad 17), .ref (ad 18), .ref (ad 19), .ref (ad 20), .ref (ad 21), .ref (ad 22), .ref (ad 23), .int 0, .int 0, .int (-1), .int 0, .long 0])), (ad 17, .inl (ka 1, 8, .inl (fun _ => 0))), (ad 18, .inl (ka 1, 8, .inl (fun _ => 0))), (ad 19, .inl (ka 1, 8, .inl (fun _ => 0))), (ad 20, .inl (ka 1, 8, .inl (fun _ => 0))), (ad 21, .inl (ka 1, 8, .inl (fun _ => 0))), (ad 22, .inl (ka 1, 8, .inl (fun _ => 0))), (ad 23, .inl (ka 1, 8, .inl (fun _ => 0))), (ad 24, .inr (1, [.ref (ad 25)])), (ad 25, .inl (ka 1, 640, .inl (fun _ => 0))), (ad 26, .inr (8, [.ref (ad 27), .ref (ad 28), .int 0])), (ad 27, .inl (ka 1, 8, .inl (fun _ => 0))), (ad 28, .inl (ka 1, 8, .inl (fun _ => 0))), (ad 29, .inl (ka 5, 4, .inr (.inr (.inr (.inr (va_up (va_up (va_up (va_up (fun _ => none) 0 (some (ad 36))) 1 (some (ad 38))) 2 (some (ad 40))) 3 (some (ad 42)))))))), (ad 30, .inr (9, [.ref (ad 31), .int 0])), (ad 31, .inl (ka 1, 41, .inl (fun _ => 0))), (ad 32, .inr (9, [.ref (ad 33), .int 0])), (ad 33, .inl (ka 1, 39, .inl (fun _ => 0))), (ad 34, .inr (9, [.ref (ad 35), .int 0])), (ad 35, .inl (ka 1, 20, .inl (fun _ => 0))), (ad 36, .inr (7, [.int (-1), .int 0, .ref (ad 37)])), (ad 37, .inl (ka 1, 60, .inl (fun _ => 0))), (ad 38, .inr (7, [.int (-1), .int 0, .ref (ad 39)])), (ad 39, .inl (ka 1, 60, .inl (fun _ => 0))), (ad 40, .inr (7, [.int (-1), .int 0, .ref (ad 41)])), (ad 41, .inl (ka 1, 60, .inl (fun _ => 0))), (ad 42, .inr (7, [.int (-1), .int 0, .ref (ad 43)])), (ad 43, .inl (ka 1, 60, .inl (fun _ => 0))), (ad 44, .inr (4, [.int 0, .ref (ad 45), .ref (ad 46), .ref (ad 47), .ref (ad 48), .ref (ad 49), .int 0, .ref (ad 50), .ref (ad 51), .ref (ad 52), .ref (ad 53), .int 2])), (ad 45, .inl (ka 1, 8, .inl (fun _ => 0))), (ad 46, .inl (ka 1, 8, .inl (fun _ => 0))), (ad 47, .inl (ka 1, 8, .inl (fun _ => 0))), (ad 48, .inl (ka 1, 8, .inl (fun _ => 0))), (ad 49, .inl (ka 1, 8, .inl (fun _ => 0))), (ad 50, .inl (ka 1, 8, .inl (fun _ => 0))), (ad 51, .inl (ka 1, 8, .inl (fun _ => 0))), (ad 52, .inl (ka 1, 8, .inl (fun _ => 0))), (ad 53, .inl (ka 1, 20, .inl fW20)), (ad 54, .inr (6, [.ref (ad 3), .ref (ad 55), .ref (ad 56), .ref (ad 57), .ref (ad 58), .ref (ad 59), .ref (ad 60), .ref (ad 61), .int 0, .int 0, .int (-1), .int 0, .long 0])), (ad 55, .inl (ka 1, 8, .inl (fun _ => 0))), (ad 56, .inl (ka 1, 8, .inl (fun _ => 0))), (ad 57, .inl (ka 1, 8, .inl (fun _ => 0))), (ad 58, .inl (ka 1, 8, .inl (fun _ => 0))), (ad 59, .inl (ka 1, 8, .inl (fun _ => 0))), (ad 60, .inl (ka 1, 8, .inl (fun _ => 0))), (ad 61, .inl (ka 1, 8, .inl (fun _ => 0))), (ad 62, .inr (5, [.ref (ad 3), .ref (ad 6), .ref (ad 44), .ref (ad 54), .int 0, .int 1, .int 0, .int 0, .int 0, .ref (ad 63)])), (ad 63, .inr (2, [.int (-1), .int (-1), .int (-1)])), (ad 64, .inr (3, [.ref (ad 3), .ref (ad 6), .ref (ad 44), .ref (ad 54), .ref (ad 26), .long 0, .ref (ad 65)])), (ad 65, .inl (ka 1, 40, .inl (fun _ => 0))), (ad 66, .inr (0, [.ref (ad 3), .ref (ad 6), .ref (ad 44), .ref (ad 54), .ref (ad 67), .int 0, .ref (ad 68), .int 0, .int 0, .int 0])), (ad 67, .inl (ka 1, 10, .inl (fun _ => 0))), (ad 68, .inl (ka 2, 32, .inr (.inl (fun _ => 0)))), (ad 69, .inr (12, [.ref (ad 70), .ref (ad 71), .ref (ad 72), .ref (ad 73), .int 0, .ref (ad 74), .ref (ad 75), .int 0, .int 0, .ref (ad 76), .int 0, .ref (ad 77), .ref (ad 78), .int 2, .int 0, .ref (ad 79), .ref (ad 80), .ref (ad 81), .ref (ad 82), .ref (ad 83), .ref (ad 84), .ref (ad 85), .ref (ad 86), .int 0, .int 0, .int 0, .int 0, .int 0, .ref (ad 87), .ref (ad 88), .int 0, .ref (ad 89)])), (ad 70, .inl (ka 1, 4, .inl fW4)), (ad 71, .inl (ka 1, 4, .inl (fun _ => 0))), (ad 72, .inl (ka 1, 240, .inl (fun _ => 0))), (ad 73, .inl (ka 1, 60, .inl (fun _ => 0))), (ad 74, .inl (ka 1, 126, .inl (fun _ => 0))), (ad 75, .inl (ka 1, 3, .inl (fun _ => 0))), (ad 76, .inl (ka 1, 36, .inl (fun _ => 0))), (ad 77, .inl (ka 1, 24, .inl (fun _ => 0))), (ad 78, .inl (ka 1, 20, .inl (fun _ => 0))), (ad 79, .inl (ka 1, 40, .inl (fun _ => 0))), (ad 80, .inl (ka 1, 8, .inl (fun _ => 0))), (ad 81, .inl (ka 1, 8, .inl (fun _ => 0))), (ad 82, .inl (ka 1, 8, .inl (fun _ => 0))), (ad 83, .inl (ka 1, 8, .inl (fun _ => 0))), (ad 84, .inl (ka 1, 640, .inl (fun _ => 0))), (ad 85, .inl (ka 1, 8, .inl (fun _ => 0))), (ad 86, .inl (ka 1, 8, .inl (fun _ => 0))), (ad 87, .inl (ka 1, 16, .inl (fun _ => 0))), (ad 88, .inl (ka 1, 40, .inl (fun _ => 0))), (ad 89, .inl (ka 1, 40, .inl (fun _ => 0)))]
def s0 : Sto := fun a b => if a = 2 ∨ a = 15 ∨ a = 53 ∨ a = 70 then -1 else if a = 6 ∧ b = 11 then (2) else if a = 16 ∧ b = 10 then (-1) else if a = 36 ∧ b = 0 then (-1) else if a = 38 ∧ b = 0 then (-1) else if a = 40 ∧ b = 0 then (-1) else if a = 42 ∧ b = 0 then (-1) else if a = 44 ∧ b = 11 then (2) else if a = 54 ∧ b = 10 then (-1) else if a = 62 ∧ b = 5 then (1) else if a = 63 ∧ b = 0 then (-1) else if a = 63 ∧ b = 1 then (-1) else if a = 63 ∧ b = 2 then (-1) else if a = 69 ∧ b = 13 then (2) else 0
def ce_sim (e1 e2 : va_E) : Prop := ∀ (D : va_G) (cl : List vw_C) (a : Nat) (H : Heap), va_at D cl (a, e1) H → va_at D cl (a, e2) H
theorem ce_eq {e1 e2 : va_E} (h : e1 = e2) : ce_sim e1 e2 := fun _ _ _ _ q => h ▸ q
theorem ce_arr {c : ClassId} {n : Nat} {f g : Nat → Value} (h : ∀ j, j < n → f j = g j) : arrV c n f = arrV c n g := by
  unfold arrV
  congr 2
  funext j
  exact h j.val j.isLt
theorem ce_int {c : ClassId} {n : Nat} {f g : Nat → Int32} (h : ∀ j, j < n → f j = g j) : ce_sim (.inl (c, n, .inl f)) (.inl (c, n, .inl g)) := by
  intro D cl a H q
  have q : H[a]? = some (arrV c n (fun j => .int (f j))) := q
  show H[a]? = some (arrV c n (fun j => .int (g j)))
  rw [q, ce_arr (fun j hj => by rw [h j hj])]
theorem ce_long {c : ClassId} {n : Nat} {f g : Nat → Int64} (h : ∀ j, j < n → f j = g j) : ce_sim (.inl (c, n, .inr (.inl f))) (.inl (c, n, .inr (.inl g))) := by
  intro D cl a H q
  have q : H[a]? = some (arrV c n (fun j => .long (f j))) := q
  show H[a]? = some (arrV c n (fun j => .long (g j)))
  rw [q, ce_arr (fun j hj => by rw [h j hj])]
theorem ce_ref {c : ClassId} {n : Nat} {f g : Nat → Option Nat} (h : ∀ j, j < n → f j = g j) : ce_sim (.inl (c, n, .inr (.inr (.inr (.inr f))))) (.inl (c, n, .inr (.inr (.inr (.inr g))))) := by
  intro D cl a H q
  have q : H[a]? = some (arrV c n (fun j => va_rf (f j))) := q
  show H[a]? = some (arrV c n (fun j => va_rf (g j)))
  rw [q, ce_arr (fun j hj => by rw [h j hj])]
theorem fW3_m : ∀ j, j < 3 → fW3 j = Int32.ofInt (-1) := by decide +kernel
theorem fW4_m : ∀ j, j < 4 → fW4 j = Int32.ofInt (-1) := by decide +kernel
theorem fW20_m : ∀ j, j < 20 → fW20 j = Int32.ofInt (-1) := by decide +kernel
theorem sim_0 {ka : Nat → ClassId} {ad : Nat → Nat} : ce_sim (.inr (11, [.ref (ad 1), .ref (ad 2), .ref (ad 3), .ref (ad 6), .ref (ad 16), .ref (ad 24), .ref (ad 26), .ref (ad 62), .ref (ad 64), .ref (ad 66), .ref (ad 29), .int 0, .int 0])) (sr_cE ad (fun i => ka (kd i)) s0 0) := by
  rw [cE_obj (ci := 11) (i := 0) rfl]
  exact ce_eq rfl
theorem sim_1 {ka : Nat → ClassId} {ad : Nat → Nat} : ce_sim (.inl (ka 4, 3, .inr (.inr (.inr (.inr (va_up (va_up (va_up (fun _ => none) 0 (some (ad 30))) 1 (some (ad 32))) 2 (some (ad 34)))))))) (sr_cE ad (fun i => ka (kd i)) s0 1) := by
  rw [cE_ref (i := 1) (by decide)]
  exact ce_ref (fun j hj => by
    have hj : j < 3 := hj
    have hc : j = 0 ∨ j = 1 ∨ j = 2 := by omega
    rcases hc with rfl | rfl | rfl <;> rfl)
theorem sim_2 {ka : Nat → ClassId} {ad : Nat → Nat} : ce_sim (.inl (ka 1, 3, .inl fW3)) (sr_cE ad (fun i => ka (kd i)) s0 2) := by
  rw [cE_int (i := 2) rfl]
  exact ce_int (fun j hj => fW3_m j hj)
theorem sim_3 {ka : Nat → ClassId} {ad : Nat → Nat} : ce_sim (.inr (10, [.int 0, .ref (ad 4), .ref (ad 5)])) (sr_cE ad (fun i => ka (kd i)) s0 3) := by
  rw [cE_obj (ci := 10) (i := 3) rfl]
  exact ce_eq rfl
theorem sim_4 {ka : Nat → ClassId} {ad : Nat → Nat} : ce_sim (.inl (ka 3, 36, .inl (fun _ => 0))) (sr_cE ad (fun i => ka (kd i)) s0 4) := by
  rw [cE_bool (i := 4) rfl]
  exact ce_int (fun j hj => rfl)
theorem sim_5 {ka : Nat → ClassId} {ad : Nat → Nat} : ce_sim (.inl (ka 1, 144, .inl (fun _ => 0))) (sr_cE ad (fun i => ka (kd i)) s0 5) := by
  rw [cE_int (i := 5) rfl]
  exact ce_int (fun j hj => rfl)
theorem sim_6 {ka : Nat → ClassId} {ad : Nat → Nat} : ce_sim (.inr (4, [.int 0, .ref (ad 7), .ref (ad 8), .ref (ad 9), .ref (ad 10), .ref (ad 11), .int 0, .ref (ad 12), .ref (ad 13), .ref (ad 14), .ref (ad 15), .int 2])) (sr_cE ad (fun i => ka (kd i)) s0 6) := by
  rw [cE_obj (ci := 4) (i := 6) rfl]
  exact ce_eq rfl
theorem sim_7 {ka : Nat → ClassId} {ad : Nat → Nat} : ce_sim (.inl (ka 1, 8, .inl (fun _ => 0))) (sr_cE ad (fun i => ka (kd i)) s0 7) := by
  rw [cE_int (i := 7) rfl]
  exact ce_int (fun j hj => rfl)
theorem sim_8 {ka : Nat → ClassId} {ad : Nat → Nat} : ce_sim (.inl (ka 1, 8, .inl (fun _ => 0))) (sr_cE ad (fun i => ka (kd i)) s0 8) := by
  rw [cE_int (i := 8) rfl]
  exact ce_int (fun j hj => rfl)
theorem sim_9 {ka : Nat → ClassId} {ad : Nat → Nat} : ce_sim (.inl (ka 1, 8, .inl (fun _ => 0))) (sr_cE ad (fun i => ka (kd i)) s0 9) := by
  rw [cE_int (i := 9) rfl]
  exact ce_int (fun j hj => rfl)
theorem sim_10 {ka : Nat → ClassId} {ad : Nat → Nat} : ce_sim (.inl (ka 1, 8, .inl (fun _ => 0))) (sr_cE ad (fun i => ka (kd i)) s0 10) := by
  rw [cE_int (i := 10) rfl]
  exact ce_int (fun j hj => rfl)
theorem sim_11 {ka : Nat → ClassId} {ad : Nat → Nat} : ce_sim (.inl (ka 1, 8, .inl (fun _ => 0))) (sr_cE ad (fun i => ka (kd i)) s0 11) := by
  rw [cE_int (i := 11) rfl]
  exact ce_int (fun j hj => rfl)
theorem sim_12 {ka : Nat → ClassId} {ad : Nat → Nat} : ce_sim (.inl (ka 1, 8, .inl (fun _ => 0))) (sr_cE ad (fun i => ka (kd i)) s0 12) := by
  rw [cE_int (i := 12) rfl]
  exact ce_int (fun j hj => rfl)
theorem sim_13 {ka : Nat → ClassId} {ad : Nat → Nat} : ce_sim (.inl (ka 1, 8, .inl (fun _ => 0))) (sr_cE ad (fun i => ka (kd i)) s0 13) := by
  rw [cE_int (i := 13) rfl]
  exact ce_int (fun j hj => rfl)
theorem sim_14 {ka : Nat → ClassId} {ad : Nat → Nat} : ce_sim (.inl (ka 1, 8, .inl (fun _ => 0))) (sr_cE ad (fun i => ka (kd i)) s0 14) := by
  rw [cE_int (i := 14) rfl]
  exact ce_int (fun j hj => rfl)
theorem sim_15 {ka : Nat → ClassId} {ad : Nat → Nat} : ce_sim (.inl (ka 1, 20, .inl fW20)) (sr_cE ad (fun i => ka (kd i)) s0 15) := by
  rw [cE_int (i := 15) rfl]
  exact ce_int (fun j hj => fW20_m j hj)
theorem sim_16 {ka : Nat → ClassId} {ad : Nat → Nat} : ce_sim (.inr (6, [.ref (ad 3), .ref (ad 17), .ref (ad 18), .ref (ad 19), .ref (ad 20), .ref (ad 21), .ref (ad 22), .ref (ad 23), .int 0, .int 0, .int (-1), .int 0, .long 0])) (sr_cE ad (fun i => ka (kd i)) s0 16) := by
  rw [cE_obj (ci := 6) (i := 16) rfl]
  exact ce_eq rfl
theorem sim_17 {ka : Nat → ClassId} {ad : Nat → Nat} : ce_sim (.inl (ka 1, 8, .inl (fun _ => 0))) (sr_cE ad (fun i => ka (kd i)) s0 17) := by
  rw [cE_int (i := 17) rfl]
  exact ce_int (fun j hj => rfl)
theorem sim_18 {ka : Nat → ClassId} {ad : Nat → Nat} : ce_sim (.inl (ka 1, 8, .inl (fun _ => 0))) (sr_cE ad (fun i => ka (kd i)) s0 18) := by
  rw [cE_int (i := 18) rfl]
  exact ce_int (fun j hj => rfl)
theorem sim_19 {ka : Nat → ClassId} {ad : Nat → Nat} : ce_sim (.inl (ka 1, 8, .inl (fun _ => 0))) (sr_cE ad (fun i => ka (kd i)) s0 19) := by
  rw [cE_int (i := 19) rfl]
  exact ce_int (fun j hj => rfl)
theorem sim_20 {ka : Nat → ClassId} {ad : Nat → Nat} : ce_sim (.inl (ka 1, 8, .inl (fun _ => 0))) (sr_cE ad (fun i => ka (kd i)) s0 20) := by
  rw [cE_int (i := 20) rfl]
  exact ce_int (fun j hj => rfl)
theorem sim_21 {ka : Nat → ClassId} {ad : Nat → Nat} : ce_sim (.inl (ka 1, 8, .inl (fun _ => 0))) (sr_cE ad (fun i => ka (kd i)) s0 21) := by
  rw [cE_int (i := 21) rfl]
  exact ce_int (fun j hj => rfl)
theorem sim_22 {ka : Nat → ClassId} {ad : Nat → Nat} : ce_sim (.inl (ka 1, 8, .inl (fun _ => 0))) (sr_cE ad (fun i => ka (kd i)) s0 22) := by
  rw [cE_int (i := 22) rfl]
  exact ce_int (fun j hj => rfl)
theorem sim_23 {ka : Nat → ClassId} {ad : Nat → Nat} : ce_sim (.inl (ka 1, 8, .inl (fun _ => 0))) (sr_cE ad (fun i => ka (kd i)) s0 23) := by
  rw [cE_int (i := 23) rfl]
  exact ce_int (fun j hj => rfl)
theorem sim_24 {ka : Nat → ClassId} {ad : Nat → Nat} : ce_sim (.inr (1, [.ref (ad 25)])) (sr_cE ad (fun i => ka (kd i)) s0 24) := by
  rw [cE_obj (ci := 1) (i := 24) rfl]
  exact ce_eq rfl
theorem sim_25 {ka : Nat → ClassId} {ad : Nat → Nat} : ce_sim (.inl (ka 1, 640, .inl (fun _ => 0))) (sr_cE ad (fun i => ka (kd i)) s0 25) := by
  rw [cE_int (i := 25) rfl]
  exact ce_int (fun j hj => rfl)
theorem sim_26 {ka : Nat → ClassId} {ad : Nat → Nat} : ce_sim (.inr (8, [.ref (ad 27), .ref (ad 28), .int 0])) (sr_cE ad (fun i => ka (kd i)) s0 26) := by
  rw [cE_obj (ci := 8) (i := 26) rfl]
  exact ce_eq rfl
theorem sim_27 {ka : Nat → ClassId} {ad : Nat → Nat} : ce_sim (.inl (ka 1, 8, .inl (fun _ => 0))) (sr_cE ad (fun i => ka (kd i)) s0 27) := by
  rw [cE_int (i := 27) rfl]
  exact ce_int (fun j hj => rfl)
theorem sim_28 {ka : Nat → ClassId} {ad : Nat → Nat} : ce_sim (.inl (ka 1, 8, .inl (fun _ => 0))) (sr_cE ad (fun i => ka (kd i)) s0 28) := by
  rw [cE_int (i := 28) rfl]
  exact ce_int (fun j hj => rfl)
theorem sim_29 {ka : Nat → ClassId} {ad : Nat → Nat} : ce_sim (.inl (ka 5, 4, .inr (.inr (.inr (.inr (va_up (va_up (va_up (va_up (fun _ => none) 0 (some (ad 36))) 1 (some (ad 38))) 2 (some (ad 40))) 3 (some (ad 42)))))))) (sr_cE ad (fun i => ka (kd i)) s0 29) := by
  rw [cE_ref (i := 29) (by decide)]
  exact ce_ref (fun j hj => by
    have hj : j < 4 := hj
    have hc : j = 0 ∨ j = 1 ∨ j = 2 ∨ j = 3 := by omega
    rcases hc with rfl | rfl | rfl | rfl <;> rfl)
theorem sim_30 {ka : Nat → ClassId} {ad : Nat → Nat} : ce_sim (.inr (9, [.ref (ad 31), .int 0])) (sr_cE ad (fun i => ka (kd i)) s0 30) := by
  rw [cE_obj (ci := 9) (i := 30) rfl]
  exact ce_eq rfl
theorem sim_31 {ka : Nat → ClassId} {ad : Nat → Nat} : ce_sim (.inl (ka 1, 41, .inl (fun _ => 0))) (sr_cE ad (fun i => ka (kd i)) s0 31) := by
  rw [cE_int (i := 31) rfl]
  exact ce_int (fun j hj => rfl)
theorem sim_32 {ka : Nat → ClassId} {ad : Nat → Nat} : ce_sim (.inr (9, [.ref (ad 33), .int 0])) (sr_cE ad (fun i => ka (kd i)) s0 32) := by
  rw [cE_obj (ci := 9) (i := 32) rfl]
  exact ce_eq rfl
theorem sim_33 {ka : Nat → ClassId} {ad : Nat → Nat} : ce_sim (.inl (ka 1, 39, .inl (fun _ => 0))) (sr_cE ad (fun i => ka (kd i)) s0 33) := by
  rw [cE_int (i := 33) rfl]
  exact ce_int (fun j hj => rfl)
theorem sim_34 {ka : Nat → ClassId} {ad : Nat → Nat} : ce_sim (.inr (9, [.ref (ad 35), .int 0])) (sr_cE ad (fun i => ka (kd i)) s0 34) := by
  rw [cE_obj (ci := 9) (i := 34) rfl]
  exact ce_eq rfl
theorem sim_35 {ka : Nat → ClassId} {ad : Nat → Nat} : ce_sim (.inl (ka 1, 20, .inl (fun _ => 0))) (sr_cE ad (fun i => ka (kd i)) s0 35) := by
  rw [cE_int (i := 35) rfl]
  exact ce_int (fun j hj => rfl)
theorem sim_36 {ka : Nat → ClassId} {ad : Nat → Nat} : ce_sim (.inr (7, [.int (-1), .int 0, .ref (ad 37)])) (sr_cE ad (fun i => ka (kd i)) s0 36) := by
  rw [cE_obj (ci := 7) (i := 36) rfl]
  exact ce_eq rfl
theorem sim_37 {ka : Nat → ClassId} {ad : Nat → Nat} : ce_sim (.inl (ka 1, 60, .inl (fun _ => 0))) (sr_cE ad (fun i => ka (kd i)) s0 37) := by
  rw [cE_int (i := 37) rfl]
  exact ce_int (fun j hj => rfl)
theorem sim_38 {ka : Nat → ClassId} {ad : Nat → Nat} : ce_sim (.inr (7, [.int (-1), .int 0, .ref (ad 39)])) (sr_cE ad (fun i => ka (kd i)) s0 38) := by
  rw [cE_obj (ci := 7) (i := 38) rfl]
  exact ce_eq rfl
theorem sim_39 {ka : Nat → ClassId} {ad : Nat → Nat} : ce_sim (.inl (ka 1, 60, .inl (fun _ => 0))) (sr_cE ad (fun i => ka (kd i)) s0 39) := by
  rw [cE_int (i := 39) rfl]
  exact ce_int (fun j hj => rfl)
theorem sim_40 {ka : Nat → ClassId} {ad : Nat → Nat} : ce_sim (.inr (7, [.int (-1), .int 0, .ref (ad 41)])) (sr_cE ad (fun i => ka (kd i)) s0 40) := by
  rw [cE_obj (ci := 7) (i := 40) rfl]
  exact ce_eq rfl
theorem sim_41 {ka : Nat → ClassId} {ad : Nat → Nat} : ce_sim (.inl (ka 1, 60, .inl (fun _ => 0))) (sr_cE ad (fun i => ka (kd i)) s0 41) := by
  rw [cE_int (i := 41) rfl]
  exact ce_int (fun j hj => rfl)
theorem sim_42 {ka : Nat → ClassId} {ad : Nat → Nat} : ce_sim (.inr (7, [.int (-1), .int 0, .ref (ad 43)])) (sr_cE ad (fun i => ka (kd i)) s0 42) := by
  rw [cE_obj (ci := 7) (i := 42) rfl]
  exact ce_eq rfl
theorem sim_43 {ka : Nat → ClassId} {ad : Nat → Nat} : ce_sim (.inl (ka 1, 60, .inl (fun _ => 0))) (sr_cE ad (fun i => ka (kd i)) s0 43) := by
  rw [cE_int (i := 43) rfl]
  exact ce_int (fun j hj => rfl)
theorem sim_44 {ka : Nat → ClassId} {ad : Nat → Nat} : ce_sim (.inr (4, [.int 0, .ref (ad 45), .ref (ad 46), .ref (ad 47), .ref (ad 48), .ref (ad 49), .int 0, .ref (ad 50), .ref (ad 51), .ref (ad 52), .ref (ad 53), .int 2])) (sr_cE ad (fun i => ka (kd i)) s0 44) := by
  rw [cE_obj (ci := 4) (i := 44) rfl]
  exact ce_eq rfl
theorem sim_45 {ka : Nat → ClassId} {ad : Nat → Nat} : ce_sim (.inl (ka 1, 8, .inl (fun _ => 0))) (sr_cE ad (fun i => ka (kd i)) s0 45) := by
  rw [cE_int (i := 45) rfl]
  exact ce_int (fun j hj => rfl)
theorem sim_46 {ka : Nat → ClassId} {ad : Nat → Nat} : ce_sim (.inl (ka 1, 8, .inl (fun _ => 0))) (sr_cE ad (fun i => ka (kd i)) s0 46) := by
  rw [cE_int (i := 46) rfl]
  exact ce_int (fun j hj => rfl)
theorem sim_47 {ka : Nat → ClassId} {ad : Nat → Nat} : ce_sim (.inl (ka 1, 8, .inl (fun _ => 0))) (sr_cE ad (fun i => ka (kd i)) s0 47) := by
  rw [cE_int (i := 47) rfl]
  exact ce_int (fun j hj => rfl)
theorem sim_48 {ka : Nat → ClassId} {ad : Nat → Nat} : ce_sim (.inl (ka 1, 8, .inl (fun _ => 0))) (sr_cE ad (fun i => ka (kd i)) s0 48) := by
  rw [cE_int (i := 48) rfl]
  exact ce_int (fun j hj => rfl)
theorem sim_49 {ka : Nat → ClassId} {ad : Nat → Nat} : ce_sim (.inl (ka 1, 8, .inl (fun _ => 0))) (sr_cE ad (fun i => ka (kd i)) s0 49) := by
  rw [cE_int (i := 49) rfl]
  exact ce_int (fun j hj => rfl)
theorem sim_50 {ka : Nat → ClassId} {ad : Nat → Nat} : ce_sim (.inl (ka 1, 8, .inl (fun _ => 0))) (sr_cE ad (fun i => ka (kd i)) s0 50) := by
  rw [cE_int (i := 50) rfl]
  exact ce_int (fun j hj => rfl)
theorem sim_51 {ka : Nat → ClassId} {ad : Nat → Nat} : ce_sim (.inl (ka 1, 8, .inl (fun _ => 0))) (sr_cE ad (fun i => ka (kd i)) s0 51) := by
  rw [cE_int (i := 51) rfl]
  exact ce_int (fun j hj => rfl)
theorem sim_52 {ka : Nat → ClassId} {ad : Nat → Nat} : ce_sim (.inl (ka 1, 8, .inl (fun _ => 0))) (sr_cE ad (fun i => ka (kd i)) s0 52) := by
  rw [cE_int (i := 52) rfl]
  exact ce_int (fun j hj => rfl)
theorem sim_53 {ka : Nat → ClassId} {ad : Nat → Nat} : ce_sim (.inl (ka 1, 20, .inl fW20)) (sr_cE ad (fun i => ka (kd i)) s0 53) := by
  rw [cE_int (i := 53) rfl]
  exact ce_int (fun j hj => fW20_m j hj)
theorem sim_54 {ka : Nat → ClassId} {ad : Nat → Nat} : ce_sim (.inr (6, [.ref (ad 3), .ref (ad 55), .ref (ad 56), .ref (ad 57), .ref (ad 58), .ref (ad 59), .ref (ad 60), .ref (ad 61), .int 0, .int 0, .int (-1), .int 0, .long 0])) (sr_cE ad (fun i => ka (kd i)) s0 54) := by
  rw [cE_obj (ci := 6) (i := 54) rfl]
  exact ce_eq rfl
theorem sim_55 {ka : Nat → ClassId} {ad : Nat → Nat} : ce_sim (.inl (ka 1, 8, .inl (fun _ => 0))) (sr_cE ad (fun i => ka (kd i)) s0 55) := by
  rw [cE_int (i := 55) rfl]
  exact ce_int (fun j hj => rfl)
theorem sim_56 {ka : Nat → ClassId} {ad : Nat → Nat} : ce_sim (.inl (ka 1, 8, .inl (fun _ => 0))) (sr_cE ad (fun i => ka (kd i)) s0 56) := by
  rw [cE_int (i := 56) rfl]
  exact ce_int (fun j hj => rfl)
theorem sim_57 {ka : Nat → ClassId} {ad : Nat → Nat} : ce_sim (.inl (ka 1, 8, .inl (fun _ => 0))) (sr_cE ad (fun i => ka (kd i)) s0 57) := by
  rw [cE_int (i := 57) rfl]
  exact ce_int (fun j hj => rfl)
theorem sim_58 {ka : Nat → ClassId} {ad : Nat → Nat} : ce_sim (.inl (ka 1, 8, .inl (fun _ => 0))) (sr_cE ad (fun i => ka (kd i)) s0 58) := by
  rw [cE_int (i := 58) rfl]
  exact ce_int (fun j hj => rfl)
theorem sim_59 {ka : Nat → ClassId} {ad : Nat → Nat} : ce_sim (.inl (ka 1, 8, .inl (fun _ => 0))) (sr_cE ad (fun i => ka (kd i)) s0 59) := by
  rw [cE_int (i := 59) rfl]
  exact ce_int (fun j hj => rfl)
theorem sim_60 {ka : Nat → ClassId} {ad : Nat → Nat} : ce_sim (.inl (ka 1, 8, .inl (fun _ => 0))) (sr_cE ad (fun i => ka (kd i)) s0 60) := by
  rw [cE_int (i := 60) rfl]
  exact ce_int (fun j hj => rfl)
theorem sim_61 {ka : Nat → ClassId} {ad : Nat → Nat} : ce_sim (.inl (ka 1, 8, .inl (fun _ => 0))) (sr_cE ad (fun i => ka (kd i)) s0 61) := by
  rw [cE_int (i := 61) rfl]
  exact ce_int (fun j hj => rfl)
theorem sim_62 {ka : Nat → ClassId} {ad : Nat → Nat} : ce_sim (.inr (5, [.ref (ad 3), .ref (ad 6), .ref (ad 44), .ref (ad 54), .int 0, .int 1, .int 0, .int 0, .int 0, .ref (ad 63)])) (sr_cE ad (fun i => ka (kd i)) s0 62) := by
  rw [cE_obj (ci := 5) (i := 62) rfl]
  exact ce_eq rfl
theorem sim_63 {ka : Nat → ClassId} {ad : Nat → Nat} : ce_sim (.inr (2, [.int (-1), .int (-1), .int (-1)])) (sr_cE ad (fun i => ka (kd i)) s0 63) := by
  rw [cE_obj (ci := 2) (i := 63) rfl]
  exact ce_eq rfl
theorem sim_64 {ka : Nat → ClassId} {ad : Nat → Nat} : ce_sim (.inr (3, [.ref (ad 3), .ref (ad 6), .ref (ad 44), .ref (ad 54), .ref (ad 26), .long 0, .ref (ad 65)])) (sr_cE ad (fun i => ka (kd i)) s0 64) := by
  rw [cE_obj (ci := 3) (i := 64) rfl]
  exact ce_eq rfl
theorem sim_65 {ka : Nat → ClassId} {ad : Nat → Nat} : ce_sim (.inl (ka 1, 40, .inl (fun _ => 0))) (sr_cE ad (fun i => ka (kd i)) s0 65) := by
  rw [cE_int (i := 65) rfl]
  exact ce_int (fun j hj => rfl)
theorem sim_66 {ka : Nat → ClassId} {ad : Nat → Nat} : ce_sim (.inr (0, [.ref (ad 3), .ref (ad 6), .ref (ad 44), .ref (ad 54), .ref (ad 67), .int 0, .ref (ad 68), .int 0, .int 0, .int 0])) (sr_cE ad (fun i => ka (kd i)) s0 66) := by
  rw [cE_obj (ci := 0) (i := 66) rfl]
  exact ce_eq rfl
theorem sim_67 {ka : Nat → ClassId} {ad : Nat → Nat} : ce_sim (.inl (ka 1, 10, .inl (fun _ => 0))) (sr_cE ad (fun i => ka (kd i)) s0 67) := by
  rw [cE_int (i := 67) rfl]
  exact ce_int (fun j hj => rfl)
theorem sim_68 {ka : Nat → ClassId} {ad : Nat → Nat} : ce_sim (.inl (ka 2, 32, .inr (.inl (fun _ => 0)))) (sr_cE ad (fun i => ka (kd i)) s0 68) := by
  rw [cE_long (i := 68) rfl]
  exact ce_long (fun j hj => rfl)
theorem sim_69 {ka : Nat → ClassId} {ad : Nat → Nat} : ce_sim (.inr (12, [.ref (ad 70), .ref (ad 71), .ref (ad 72), .ref (ad 73), .int 0, .ref (ad 74), .ref (ad 75), .int 0, .int 0, .ref (ad 76), .int 0, .ref (ad 77), .ref (ad 78), .int 2, .int 0, .ref (ad 79), .ref (ad 80), .ref (ad 81), .ref (ad 82), .ref (ad 83), .ref (ad 84), .ref (ad 85), .ref (ad 86), .int 0, .int 0, .int 0, .int 0, .int 0, .ref (ad 87), .ref (ad 88), .int 0, .ref (ad 89)])) (sr_cE ad (fun i => ka (kd i)) s0 69) := by
  rw [cE_obj (ci := 12) (i := 69) rfl]
  exact ce_eq rfl
theorem sim_70 {ka : Nat → ClassId} {ad : Nat → Nat} : ce_sim (.inl (ka 1, 4, .inl fW4)) (sr_cE ad (fun i => ka (kd i)) s0 70) := by
  rw [cE_int (i := 70) rfl]
  exact ce_int (fun j hj => fW4_m j hj)
theorem sim_71 {ka : Nat → ClassId} {ad : Nat → Nat} : ce_sim (.inl (ka 1, 4, .inl (fun _ => 0))) (sr_cE ad (fun i => ka (kd i)) s0 71) := by
  rw [cE_int (i := 71) rfl]
  exact ce_int (fun j hj => rfl)
theorem sim_72 {ka : Nat → ClassId} {ad : Nat → Nat} : ce_sim (.inl (ka 1, 240, .inl (fun _ => 0))) (sr_cE ad (fun i => ka (kd i)) s0 72) := by
  rw [cE_int (i := 72) rfl]
  exact ce_int (fun j hj => rfl)
theorem sim_73 {ka : Nat → ClassId} {ad : Nat → Nat} : ce_sim (.inl (ka 1, 60, .inl (fun _ => 0))) (sr_cE ad (fun i => ka (kd i)) s0 73) := by
  rw [cE_int (i := 73) rfl]
  exact ce_int (fun j hj => rfl)
theorem sim_74 {ka : Nat → ClassId} {ad : Nat → Nat} : ce_sim (.inl (ka 1, 126, .inl (fun _ => 0))) (sr_cE ad (fun i => ka (kd i)) s0 74) := by
  rw [cE_int (i := 74) rfl]
  exact ce_int (fun j hj => rfl)
theorem sim_75 {ka : Nat → ClassId} {ad : Nat → Nat} : ce_sim (.inl (ka 1, 3, .inl (fun _ => 0))) (sr_cE ad (fun i => ka (kd i)) s0 75) := by
  rw [cE_int (i := 75) rfl]
  exact ce_int (fun j hj => rfl)
theorem sim_76 {ka : Nat → ClassId} {ad : Nat → Nat} : ce_sim (.inl (ka 1, 36, .inl (fun _ => 0))) (sr_cE ad (fun i => ka (kd i)) s0 76) := by
  rw [cE_int (i := 76) rfl]
  exact ce_int (fun j hj => rfl)
theorem sim_77 {ka : Nat → ClassId} {ad : Nat → Nat} : ce_sim (.inl (ka 1, 24, .inl (fun _ => 0))) (sr_cE ad (fun i => ka (kd i)) s0 77) := by
  rw [cE_int (i := 77) rfl]
  exact ce_int (fun j hj => rfl)
theorem sim_78 {ka : Nat → ClassId} {ad : Nat → Nat} : ce_sim (.inl (ka 1, 20, .inl (fun _ => 0))) (sr_cE ad (fun i => ka (kd i)) s0 78) := by
  rw [cE_int (i := 78) rfl]
  exact ce_int (fun j hj => rfl)
theorem sim_79 {ka : Nat → ClassId} {ad : Nat → Nat} : ce_sim (.inl (ka 1, 40, .inl (fun _ => 0))) (sr_cE ad (fun i => ka (kd i)) s0 79) := by
  rw [cE_int (i := 79) rfl]
  exact ce_int (fun j hj => rfl)
theorem sim_80 {ka : Nat → ClassId} {ad : Nat → Nat} : ce_sim (.inl (ka 1, 8, .inl (fun _ => 0))) (sr_cE ad (fun i => ka (kd i)) s0 80) := by
  rw [cE_int (i := 80) rfl]
  exact ce_int (fun j hj => rfl)
theorem sim_81 {ka : Nat → ClassId} {ad : Nat → Nat} : ce_sim (.inl (ka 1, 8, .inl (fun _ => 0))) (sr_cE ad (fun i => ka (kd i)) s0 81) := by
  rw [cE_int (i := 81) rfl]
  exact ce_int (fun j hj => rfl)
theorem sim_82 {ka : Nat → ClassId} {ad : Nat → Nat} : ce_sim (.inl (ka 1, 8, .inl (fun _ => 0))) (sr_cE ad (fun i => ka (kd i)) s0 82) := by
  rw [cE_int (i := 82) rfl]
  exact ce_int (fun j hj => rfl)
theorem sim_83 {ka : Nat → ClassId} {ad : Nat → Nat} : ce_sim (.inl (ka 1, 8, .inl (fun _ => 0))) (sr_cE ad (fun i => ka (kd i)) s0 83) := by
  rw [cE_int (i := 83) rfl]
  exact ce_int (fun j hj => rfl)
theorem sim_84 {ka : Nat → ClassId} {ad : Nat → Nat} : ce_sim (.inl (ka 1, 640, .inl (fun _ => 0))) (sr_cE ad (fun i => ka (kd i)) s0 84) := by
  rw [cE_int (i := 84) rfl]
  exact ce_int (fun j hj => rfl)
theorem sim_85 {ka : Nat → ClassId} {ad : Nat → Nat} : ce_sim (.inl (ka 1, 8, .inl (fun _ => 0))) (sr_cE ad (fun i => ka (kd i)) s0 85) := by
  rw [cE_int (i := 85) rfl]
  exact ce_int (fun j hj => rfl)
theorem sim_86 {ka : Nat → ClassId} {ad : Nat → Nat} : ce_sim (.inl (ka 1, 8, .inl (fun _ => 0))) (sr_cE ad (fun i => ka (kd i)) s0 86) := by
  rw [cE_int (i := 86) rfl]
  exact ce_int (fun j hj => rfl)
theorem sim_87 {ka : Nat → ClassId} {ad : Nat → Nat} : ce_sim (.inl (ka 1, 16, .inl (fun _ => 0))) (sr_cE ad (fun i => ka (kd i)) s0 87) := by
  rw [cE_int (i := 87) rfl]
  exact ce_int (fun j hj => rfl)
theorem sim_88 {ka : Nat → ClassId} {ad : Nat → Nat} : ce_sim (.inl (ka 1, 40, .inl (fun _ => 0))) (sr_cE ad (fun i => ka (kd i)) s0 88) := by
  rw [cE_int (i := 88) rfl]
  exact ce_int (fun j hj => rfl)
theorem sim_89 {ka : Nat → ClassId} {ad : Nat → Nat} : ce_sim (.inl (ka 1, 40, .inl (fun _ => 0))) (sr_cE ad (fun i => ka (kd i)) s0 89) := by
  rw [cE_int (i := 89) rfl]
  exact ce_int (fun j hj => rfl)
