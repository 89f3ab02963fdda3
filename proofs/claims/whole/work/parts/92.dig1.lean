def mx (v r : Int) : Int := w64 (w64 (31 * v) + r)
theorem mx_e {v r : Int} {s : Sto} : F_X11_mixed v r s = mx v r := rfl
def fdI (f : Int → Nat → Int) (v : Int) : Nat → Int
  | 0 => v
  | n + 1 => f (fdI f v n) n
def dsS (j : Nat) : Nat := if j = 0 then 0 else if j = 1 then 4 else if j = 2 then 9 else 19
def dgS (N : Sto) (r k : Nat) (v : Int) : Int := fdI (fun x w => mx x (sm N (k + 1) (w + 1) r)) v 4
def dgA (N : Sto) (r : Nat) (v : Int) : Int := fdI (fun x i => mx x (N (i + 1) r)) v 5
def dgB (N : Sto) (r : Nat) (v : Int) : Int := fdI (fun x i => dgS N r (dsS i) x) v 4
def dgC (N : Sto) (r : Nat) (v : Int) : Int := fdI (fun x i => mx x (aimV N r (i : Int))) v 3
def dgR (N : Sto) (n : Nat) (th oc : Nat → Int) (v : Int) (r : Nat) : Int := mx (mx (mx (dgC N r (dgB N r (dgA N r v))) (if 0 < N 0 6 then lbr N r 0 else -2)) (weV N r n th oc (-1))) (weV N r n th oc 0)
def dgT1 (N : Sto) (x : Nat) (v : Int) : Int := fdI (fun y i => mx y (N (i + 6) x)) v 3
def dgT2 (N : Sto) (x : Nat) (v : Int) : Int := mx (mx (mx v (sm N 20 5 x)) (sm N 20 6 x)) (whm N (sm N 20) x)
def dgT (N : Sto) (v : Int) (x : Nat) : Int := mx (mx (mx (mx (mx (dgT2 N x (dgT1 N x v)) (stV N x)) (pick3 (hsT N x) (-1))) (pick3 (hsT N x) 0)) (stW N 5 6 x 0 0 : Int)) (stW N 5 6 x 0 1 : Int)
def dgW (N : Sto) (v : Int) (w : Nat) : Int := mx (mx (mx (mx v (wbt N (sm N 20) (w : Int))) (ups N (sm N 20) (w : Int))) (pick3 (frT N (sm N 20) (w : Int) 9) (-1))) (pick3 (frT N (sm N 20) (w : Int) 9) 0)
def dgE (N : Sto) (n : Nat) (th oc : Nat → Int) (v : Int) : Int := mx (mx (mx (mx (mx (mx (mx (mx (mx (mx (mx (mx v (sm N 20 0 0)) (sm N 20 0 1)) (msb N (sm N 20))) (ric N (sm N 20) 4).1) (lon (sm N 20) (nT N)).1) (cmV N 0)) (cmV N 1)) (nvB N n th oc)) (pcB N n th oc)) (ak N n th oc (nT N)).1) (evV N 7 6 0)) (evV N 7 6 1)
def dg0 (N : Sto) (cs : Int → Int) (fs : Nat → Int) : Int := fdI (fun x k => mx x (N 9 k)) (fdI (fun x c => mx x (1 - N 10 c)) (fdI (fun x k => mx x (fs k)) (fdI (fun x k => mx x (cs (k : Int))) 17 8) 3) (N 0 1).toNat) 20
def dgV (N : Sto) (n : Nat) (th oc : Nat → Int) (cs : Int → Int) (fs : Nat → Int) : Int := dgE N n th oc (fdI (dgW N) (fdI (dgT N) (fdI (dgR N n th oc) (dg0 N cs fs) (nR N)) (nT N)) 4)
/-- how the class stands while it digests -/
def CtC (N : Sto) (n : Nat) (th oc : Nat → Int) (s : Sto) : Prop := Rel s ∧ Pld N s ∧ tN s = N ∧ SgC n th oc s
theorem dgC_e {N : Sto} {r : Nat} {v : Int} : dgC N r v = mx (mx (mx v (aimV N r 0)) (aimV N r 1)) (aimV N r 2) := rfl
theorem CtC_sc {N : Sto} {n : Nat} {th oc : Nat → Int} {s t : Sto} (h : CtC N n th oc s) (hS : Same DScr s t) : CtC N n th oc t := by
  obtain ⟨h1, h2, h3, h4⟩ := h
  obtain ⟨r1, r2⟩ := Rel_sc h1 hS
  exact ⟨r1, Pld_cg h2 (fun a b q1 q2 => hS a b (by unfold DScr; omega)), r2.trans h3, SgC_cg h4 (fun a b q1 q2 => hS a b (by unfold DScr; omega))⟩
theorem ring_N {N s : Sto} {r i : Nat} (hC : NtC N 6 s) (hr : (r : Int) < N 0 0) (hr8 : r < 8) (hq : ¬ F_X11_isRing (r : Int) s = 0) (hi : i < 5) : O_X11_ring (r : Int) (i : Int) s ∧ F_X11_ring (r : Int) (i : Int) s = N (i + 1) r := by
  obtain ⟨e1, e2, e3, e4, e5⟩ := hC.2.2.2.2.1 r hr
  have hb := inb8 hr8
  unfold O_X11_ring F_X11_ring
  rw [Int.toNat_natCast, if_neg hq]
  refine ⟨⟨fun q => absurd q hq, fun _ => ⟨fun _ => ⟨hb, trivial⟩, fun _ => ⟨fun _ => ⟨hb, trivial⟩, fun _ => ⟨fun _ => ⟨hb, trivial⟩, fun _ => ⟨fun _ => ⟨hb, trivial⟩, fun _ => ⟨fun _ => ⟨hb, trivial⟩, fun _ => trivial⟩⟩⟩⟩⟩⟩, ?_⟩
  have hc : i = 0 ∨ i = 1 ∨ i = 2 ∨ i = 3 ∨ i = 4 := by omega
  rcases hc with rfl | rfl | rfl | rfl | rfl
  · exact e1
  · exact e2
  · exact e3
  · exact e4
  · exact e5
theorem thing_N {N s : Sto} {x i : Nat} (hC : NtC N 6 s) (hx : (x : Int) < N 0 6) (hx8 : x < 8) (hq : ¬ F_X11_isThing (x : Int) s = 0) (hi : i < 3) : O_X11_thing (x : Int) (i : Int) s ∧ F_X11_thing (x : Int) (i : Int) s = N (i + 6) x := by
  obtain ⟨e1, e2, e3⟩ := hC.2.2.2.2.2.1 x hx
  have hb := inb8 hx8
  unfold O_X11_thing F_X11_thing
  rw [Int.toNat_natCast, if_neg hq]
  refine ⟨⟨fun q => absurd q hq, fun _ => ⟨fun _ => ⟨hb, trivial⟩, fun _ => ⟨fun _ => ⟨hb, trivial⟩, fun _ => ⟨fun _ => ⟨hb, trivial⟩, fun _ => trivial⟩⟩⟩⟩, ?_⟩
  have hc : i = 0 ∨ i = 1 ∨ i = 2 := by omega
  rcases hc with rfl | rfl | rfl
  · exact e1
  · exact e2
  · exact e3
theorem look_N {N s : Sto} {k r w : Nat} (hP : Pld N s) (hk : k < 20) (hr : (r : Int) < N 0 0) (hr8 : r < 8) (hw : w < 4) : O_X1_look (k : Int) (r : Int) (w : Int) s ∧ F_X1_look (k : Int) (r : Int) (w : Int) s = sm N (k + 1) (w + 1) r := by
  obtain ⟨l1, l2⟩ := look_v (s := s) hk hr8 hw
  refine ⟨l2, ?_⟩
  rw [l1]
  obtain ⟨d1, d2, d3, d4⟩ := hP.2 k hk r hr
  have hc : w = 0 ∨ w = 1 ∨ w = 2 ∨ w = 3 := by omega
  rcases hc with rfl | rfl | rfl | rfl
  · exact d1
  · exact d2
  · exact d3
  · exact d4
theorem ds_v : ∀ i : Nat, i < 4 → sr_ds i = (dsS i : Int) ∧ dsS i < 20 := by decide
theorem T_cdr {N s : Sto} {n r : Nat} {th oc : Nat → Int} {v : Int} {Q : Int → Sto → Prop} (h : CtC N n th oc s) (hr : (r : Int) < N 0 0) (k : ∀ t, Same DScr s t → Q (dgR N n th oc v r) t) : P_X11_digestRing v (r : Int) s Q := by
  obtain ⟨hR, hP, eN, hG⟩ := id h
  have hN : NOk N := by rw [← eN]; exact tN_ok hR
  have hC : NtC N 6 s := NtC_of eN
  have hr8 : r < 8 := by have := hN.1; omega
  have hring : ¬ F_X11_isRing (r : Int) s = 0 := nn (isRC hR) ⟨by omega, by rw [eN]; exact hr⟩
  unfold P_X11_digestRing
  refine lp2 (L_X11_digestRing_6 (r : Int) s _) (fun x y => ∃ i : Nat, y = (i : Int) ∧ i ≤ 5 ∧ x = fdI (fun x i => mx x (N (i + 1) r)) v i) (fun _ y => (6 - y).toNat) ?_ v 0 ⟨0, rfl, by omega, rfl⟩
  intro m x y ⟨i, hy, hi, hx⟩ ih
  subst hy
  subst hx
  have hw := ix20 (j := i) (by omega)
  unfold L_X11_digestRing_6
  rw [hw]
  clear hw
  refine ⟨fun q => ?_, fun q => ?_⟩
  · have e : i = 5 := by omega
    rw [e]
    refine lp2 (L_X11_digestRing_36 (r : Int) s _) (fun x y => ∃ i : Nat, y = (i : Int) ∧ i ≤ 4 ∧ x = fdI (fun x i => dgS N r (dsS i) x) (dgA N r v) i) (fun _ y => (6 - y).toNat) ?_ _ 0 ⟨0, rfl, by omega, rfl⟩
    intro m x y ⟨i, hy, hi, hx⟩ ih2
    subst hy
    subst hx
    have hw := ix20 (j := i) (by omega)
    unfold L_X11_digestRing_36
    rw [hw]
    clear hw
    refine ⟨fun q => ?_, fun q => ?_⟩
    · have e : i = 4 := by omega
      rw [e]
      refine T_caim hN hC hr (fun s3 hA hS3 x5 e5 x6 e6 x7 e7 => ?_)
      obtain ⟨a1, a2, a3⟩ := AmC_v hA
      rw [a1, mx_e] at e5
      rw [a2, mx_e, e5] at e6
      rw [a3, mx_e, e6, ← dgC_e] at e7
      obtain ⟨hR3, hP3, eN3, hG3⟩ := CtC_sc h hS3
      have whence : ∀ u y, Same DScr s u → y = mx (dgC N r (dgB N r (dgA N r v))) (if 0 < N 0 6 then lbr N r 0 else -2) → P_X3_seekWhence (r : Int) u (fun _ s11 => (P_X3_pickWhence ((-1)) s11 (fun r14 s13 => (∀ x15 : Int, x15 = F_X11_mixed y r14 s13 → (P_X3_pickWhence 0 s13 (fun r17 s16 => Q (F_X11_mixed x15 r17 s16) s16)))))) := by
        intro u y hSu ey
        obtain ⟨hRu, hPu, eNu, hGu⟩ := CtC_sc h hSu
        refine T_cwhence hN (NtC_of eNu) hGu hr (fun w hW hSw => ?_)
        refine T_pickWhence hN hW (by decide) (fun x15 e15 => ?_)
        refine T_pickWhence hN hW (by decide) ?_
        rw [mx_e] at e15 ⊢
        rw [e15, ey]
        exact k w (hSu.trans hSw)
      have it := isTC (v := 0) hR3
      rw [eN3] at it
      refine ⟨fun q2 x10 e10 => ?_, fun q2 => ?_⟩
      · have := it.mp q2
        refine whence s3 x10 hS3 ?_
        rw [e10, mx_e, e7, if_neg (by omega)]
        rfl
      · have := yy it q2
        refine T_cbreath (x := 0) hN (NtC_of eN3) hr this.2 (fun s18 hS18 x20 e20 => ?_)
        refine whence s18 x20 (hS3.trans hS18) ?_
        rw [e20, mx_e, e7, if_pos this.2]
        rfl
    · obtain ⟨z1, z2⟩ := ds_v i (by omega)
      refine lp2 (L_X11_digestRing_48 (r : Int) (i : Int) s _) (fun x y => ∃ j : Nat, y = (j : Int) ∧ j ≤ 4 ∧ x = fdI (fun x w => mx x (sm N (dsS i + 1) (w + 1) r)) (fdI (fun x i => dgS N r (dsS i) x) (dgA N r v) i) j) (fun _ y => (6 - y).toNat) ?_ _ 0 ⟨0, rfl, by omega, rfl⟩
      intro m x y ⟨j, hy, hj, hx⟩ ih3
      subst hy
      subst hx
      have hw := ix20 (j := j) (by omega)
      unfold L_X11_digestRing_48
      rw [hw, Int.toNat_natCast, z1]
      clear hw
      refine ⟨fun q => ?_, fun q => ?_⟩
      · have e : j = 4 := by omega
        rw [e]
        exact ih2 _ _ ⟨i + 1, rfl, by omega, rfl⟩ (by omega)
      · obtain ⟨l1, l2⟩ := look_N hP z2 hr hr8 (w := j) (by omega)
        refine ⟨inb_n (by omega), l1, fun x4 e4 => ?_⟩
        refine ih3 _ _ ⟨j + 1, rfl, by omega, ?_⟩ (by omega)
        rw [e4, l2]
        rfl
  · obtain ⟨l1, l2⟩ := ring_N hC hr hr8 hring (i := i) (by omega)
    refine ⟨l1, fun x3 e3 => ih _ _ ⟨i + 1, rfl, by omega, ?_⟩ (by omega)⟩
    rw [e3, l2]
    rfl
