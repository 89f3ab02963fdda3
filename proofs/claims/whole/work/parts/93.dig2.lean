theorem T_cdt {N s : Sto} {n x m : Nat} {th oc : Nat → Int} {ws : Nat → Nat} {v : Int} {Q : Int → Sto → Prop} (h : CtC N n th oc s) (hx : (x : Int) < N 0 6) (hW : WsO N ws 6 m) (h5 : s 66 5 = (m : Int)) (hv : ∀ y w, y < nT N → w < 4 → s 68 (4 * y + w) = (gWt (fWb N y w) 5 ws m (fun _ => false) : Int)) (k : ∀ t, Same DSq s t → Q (dgT N v x) t) : P_X11_digestThing v (x : Int) s Q := by
  obtain ⟨hR, hP, eN, hG⟩ := id h
  have hN : NOk N := by rw [← eN]; exact tN_ok hR
  have hC : NtC N 6 s := NtC_of eN
  have hx8 : x < 8 := by have := hN.2.1; omega
  have hxT : x < nT N := by unfold nT; omega
  have hthing : ¬ F_X11_isThing (x : Int) s = 0 := nn (isTC hR) ⟨by omega, by rw [eN]; exact hx⟩
  have hb := inb8 hx8
  obtain ⟨b1, b2, b3⟩ := hP.1.2.1 x hx
  unfold P_X11_digestThing
  refine lp2 (L_X11_digestThing_6 (x : Int) s _) (fun z y => ∃ i : Nat, y = (i : Int) ∧ i ≤ 3 ∧ z = fdI (fun y i => mx y (N (i + 6) x)) v i) (fun _ y => (6 - y).toNat) ?_ v 0 ⟨0, rfl, by omega, rfl⟩
  intro m1 z y ⟨i, hy, hi, hz⟩ ih
  subst hy
  subst hz
  have hw := ix20 (j := i) (by omega)
  unfold L_X11_digestThing_6
  rw [hw]
  clear hw
  refine ⟨fun q => ?_, fun q => ?_⟩
  · have e : i = 3 := by omega
    rw [e, Int.toNat_natCast]
    refine ⟨hb, fun x3 e3 => ⟨hb, fun x5 e5 => ⟨hb, fun x7 e7 => ?_⟩⟩⟩
    rw [show s 21 x = sm N 20 5 x from b1, mx_e] at e3
    rw [show s 22 x = sm N 20 6 x from b2, mx_e, e3] at e5
    rw [show s 23 x = whm N (sm N 20) x from b3, mx_e, e5] at e7
    refine T_cstandq hN hC hx (fun s8 hS8 x10 e10 => ?_)
    have h8 := CtC_sc h (DSq_sc hS8)
    refine T_chushq hN (NtC_of h8.2.2.1) hx (fun s11 hF hS11 x13 e13 x14 e14 => ?_)
    have hS := hS8.trans hS11
    rw [mx_e, e7] at e10
    rw [few_pick hF, mx_e, e10] at e13
    rw [few_pick hF, mx_e, e13] at e14
    have g5 : s11 66 5 = (m : Int) := by rw [hS 66 5 (by unfold DSq; omega)]; exact h5
    have gv : s11 68 (4 * x + 0) = (gWt (fWb N x 0) 5 ws m (fun _ => false) : Int) := by rw [hS 68 _ (by unfold DSq; omega)]; exact hv x 0 hxT (by decide)
    refine T_above (c := 5) (D := 6) (w := 0) hN hW (by decide) (by decide) g5 hx8 (by decide) gv (fun x17 e17 => ?_)
    refine T_below (c := 5) (D := 6) (w := 0) (z := 1) hN hW (by decide) (by decide) g5 hx8 (by decide) gv (by decide) ?_
    rw [mx_e, e14] at e17
    rw [mx_e, e17]
    exact k s11 hS
  · obtain ⟨l1, l2⟩ := thing_N hC hx hx8 hthing (i := i) (by omega)
    refine ⟨l1, fun x3 e3 => ih _ _ ⟨i + 1, rfl, by omega, ?_⟩ (by omega)⟩
    rw [e3, l2]
    rfl
theorem T_cdw {N s : Sto} {n w : Nat} {th oc : Nat → Int} {v : Int} {Q : Int → Sto → Prop} (h : CtC N n th oc s) (k : ∀ t, Same DScr s t → Q (dgW N v w) t) : P_X11_digestWhom v (w : Int) s Q := by
  obtain ⟨hR, hP, eN, hG⟩ := id h
  have hN : NOk N := by rw [← eN]; exact tN_ok hR
  have hC : NtC N 6 s := NtC_of eN
  unfold P_X11_digestWhom
  refine T_cwed hN hC hP.1 (fun x3 e3 => ?_)
  refine T_cups hN hC hP.1 (fun x6 e6 => ?_)
  refine T_cfree hN hC hP.1 (by decide) (fun s7 hF hS7 x9 e9 => ?_)
  rw [mx_e] at e3
  rw [mx_e, e3] at e6
  rw [few_pick hF, mx_e, e6] at e9
  rw [few_pick hF, mx_e, e9]
  exact k s7 hS7
def DDg (a b : Nat) : Prop := DPt a b ∨ DScr a b
theorem DDg_p {s t : Sto} (h : Same DPt s t) : Same DDg s t := h.mono (fun a b q => Or.inl q)
theorem DDg_s {s t : Sto} (h : Same DScr s t) : Same DDg s t := h.mono (fun a b q => Or.inr q)
theorem CtC_p {N : Sto} {n : Nat} {th oc : Nat → Int} {s t : Sto} (h : CtC N n th oc s) (h1 : Rel t) (h2 : Pld N t) (h3 : tN t = N) (hS : Same DPt s t) : CtC N n th oc t := ⟨h1, h2, h3, SgC_cg h.2.2.2 (fun a b q1 q2 => hS a b (by unfold DPt; omega))⟩
theorem cmV_0 {N : Sto} : cmV N 0 = (cm N 20).1 := if_pos rfl
theorem cmV_1 {N : Sto} : cmV N 1 = (cm N 20).2 := if_neg (by decide)
theorem T_cdE {N s : Sto} {n : Nat} {th oc : Nat → Int} {v : Int} {Q : Int → Sto → Prop} (h : CtC N n th oc s) (k : ∀ t, CtC N n th oc t → Same DDg s t → Q (dgE N n th oc v) t) : P_X11_digestRest v s Q := by
  have hN : NOk N := by rw [← h.2.2.1]; exact tN_ok h.1
  unfold P_X11_digestRest
  intro x1 e1 x2 e2
  rw [show s 16 9 = sm N 20 0 0 from h.2.1.1.2.2.2.1, mx_e] at e1
  rw [show s 16 10 = sm N 20 0 1 from h.2.1.1.2.2.2.2.1, mx_e, e1] at e2
  refine T_Xmissed h.1 h.2.2.1 (fun s3 a1 a2 a3 a4 x5 e5 => ?_)
  have h3 := CtC_p h a1 a2 a3 a4
  rw [mx_e, e2] at e5
  refine T_Xrichest h3.1 h3.2.2.1 (fun s6 b1 b2 b3 b4 x8 e8 => ?_)
  have h6 := CtC_p h3 b1 b2 b3 b4
  rw [mx_e, e5] at e8
  refine T_Xlonely h6.1 h6.2.2.1 (fun s9 c1 c2 c3 c4 x11 e11 => ?_)
  have h9 := CtC_p h6 c1 c2 c3 c4
  rw [mx_e, e8] at e11
  have S9 : Same DDg s s9 := DDg_p ((a4.trans b4).trans c4)
  refine T_ccalm hN (NtC_of h9.2.2.1) (fun s12 hM hS12 x14 e14 x15 e15 => ?_)
  have h12 := CtC_sc h9 hS12
  have m1 : s12 62 7 = cmV N 0 := (hM.2 (by decide)).trans cmV_0.symm
  have m2 : s12 62 8 = cmV N 1 := hM.1.trans cmV_1.symm
  rw [m1, mx_e, e11] at e14
  rw [m2, mx_e, e14] at e15
  refine T_cnever hN (NtC_of h12.2.2.1) h12.2.2.2 (fun s16 hS16 x18 e18 => ?_)
  have h16 := CtC_sc h12 hS16
  rw [mx_e, e15] at e18
  refine T_cpaces hN (NtC_of h16.2.2.1) h16.2.2.2 (fun s19 hS19 x21 e21 => ?_)
  have h19 := CtC_sc h16 hS19
  rw [mx_e, e18] at e21
  refine T_cask hN (NtC_of h19.2.2.1) h19.2.2.2 (fun s22 hS22 x24 e24 => ?_)
  have h22 := CtC_sc h19 hS22
  rw [mx_e, e21] at e24
  refine T_cevening (n := 6) hN (NtC_of h22.2.2.1) (by decide) (fun s25 v8 v9 hS25 x27 e27 => ?_)
  rw [v8, mx_e, e24] at e27
  rw [v9, mx_e, e27]
  exact k s25 (CtC_sc h22 hS25) (S9.trans (DDg_s ((((hS12.trans hS16).trans hS19).trans hS22).trans hS25)))
