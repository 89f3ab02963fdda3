/-! ===== the law: its own walk over the store; the script is at place 90 ===== -/
def lj_A (s : State) (q : Nat) : Prop := s.heap.size ≤ q
def xI (xs : Nat → Int32) (z : Int) : Int := (xs z.toNat).toInt
def lj_E (p : Program) (s : State) (m : MethodId) (c : Code) (b L : Nat) (xs : Nat → Int32) (dC : Nat → ClassId) (dI : Nat → Nat → Nat) (ad : Nat → Nat) (ca : Nat → ClassId) : Prop :=
  p.tables.exec = Jvm.exec ∧ c.code = code ∧ c.maxLocals = 4 ∧ s.vm.findClass RL = some m.cls ∧ (∀ w ∈ gW, w.before #[Value.ref b] s = true) ∧ va_K (dC, dI) vwCl (tyW ca) s ∧ sr_D (lj_A s) ad ∧ sr_St (lj_A s) s s.heap ∧ va_X b L xs s s.heap ∧ b < s.heap.size ∧ ad 90 = b ∧ L ≤ 384
def lj_G (p : Program) (l : Launch) (e : Env) (s : State) (m : MethodId) (below : List Frame) (meth : Method) (c : Code) (b : Nat) (dC : Nat → ClassId) (dI : Nat → Nat → Nat) (ad : Nat → Nat) (ca : Nat → ClassId) (pc : Nat) (lv : List (Nat × Vl)) (st : List Vl) (σ : Sto) : Prop :=
  ∀ (H : Heap) (locs : List Loc) (ls : Array Slot), va_P (dC, dI) vwCl (rW ad ca σ) H → va_S (lj_A s) s.heap H locs → okS σ → okE lv → okL st → lv_has ls 4 (lv.map (fun q => (q.1, sr_rv ad q.2))) →
    W p l e room_1 s m #[Value.ref b] below meth c H locs 600000 7302250 (lw_Z below #[Value.ref b] s) (F0 m pc ls (st.map (sr_rv ad)))
theorem lj_Af {s : State} {ad : Nat → Nat} {H : Heap} {locs : List Loc} (hD : sr_D (lj_A s) ad) (hS : va_S (lj_A s) s.heap H locs) : ∀ q, sr_A ad H.size q → lj_A s q := sr_Af hD (fun _ h => h) hS
section lj_rules
variable {p : Program} {l : Launch} {e : Env} {s : State} {m : MethodId} {below : List Frame} {meth : Method} {c : Code} {b L : Nat} {xs : Nat → Int32} {dC : Nat → ClassId} {dI : Nat → Nat → Nat} {ad : Nat → Nat} {ca : Nat → ClassId} {pc pc' : Nat} {lv lv' : List (Nat × Vl)} {st : List Vl} {σ : Sto}
theorem lj_aload_n {i : Fin 4} {r : Nat} (E : lj_E p s m c b L xs dC dI ad ca) (hd : decode code pc = .ok (.aload_n i, 1)) (hn : pc + 1 = pc') (hk : lv.lookup i.val = some (vR r)) (k : lj_G p l e s m below meth c b dC dI ad ca pc' lv (vR r :: st) σ) : lj_G p l e s m below meth c b dC dI ad ca pc lv st σ := by
  subst hn
  intro H locs ls hP hS hσ hlv hst hl
  exact lv_aload_n E.1 E.2.1 hd rfl (lv_lk hl hk) (k H locs ls hP hS hσ hlv ⟨trivial, hst⟩ hl)
theorem lj_iload_n {i : Fin 4} {x : Int} (E : lj_E p s m c b L xs dC dI ad ca) (hd : decode code pc = .ok (.iload_n i, 1)) (hn : pc + 1 = pc') (hk : lv.lookup i.val = some (vI x)) (k : lj_G p l e s m below meth c b dC dI ad ca pc' lv (vI x :: st) σ) : lj_G p l e s m below meth c b dC dI ad ca pc lv st σ := by
  subst hn
  intro H locs ls hP hS hσ hlv hst hl
  exact lv_iload_n E.1 E.2.1 hd rfl (lv_lk hl hk) (k H locs ls hP hS hσ hlv ⟨okE_lk hlv hk, hst⟩ hl)
theorem lj_iconst {n : Int} (hv : r32 n) (E : lj_E p s m c b L xs dC dI ad ca) (hd : decode code pc = .ok (.iconst n, 1)) (hn : pc + 1 = pc') (k : lj_G p l e s m below meth c b dC dI ad ca pc' lv (vI n :: st) σ) : lj_G p l e s m below meth c b dC dI ad ca pc lv st σ := by
  subst hn
  intro H locs ls hP hS hσ hlv hst hl
  exact lv_iconst (v := Int32.ofInt n) E.1 E.2.1 hd rfl (k H locs ls hP hS hσ hlv ⟨hv, hst⟩ hl)
theorem lj_bipush {n : Int} (hv : r32 n ∧ (Int8.ofInt n).toInt32 = Int32.ofInt n) (E : lj_E p s m c b L xs dC dI ad ca) (hd : decode code pc = .ok (.bipush n, 2)) (hn : pc + 2 = pc') (k : lj_G p l e s m below meth c b dC dI ad ca pc' lv (vI n :: st) σ) : lj_G p l e s m below meth c b dC dI ad ca pc lv st σ := by
  subst hn
  intro H locs ls hP hS hσ hlv hst hl
  exact lv_bipush (v := Int32.ofInt n) E.1 E.2.1 hd hv.2 (k H locs ls hP hS hσ hlv ⟨hv.1, hst⟩ hl)
theorem lj_iadd {x y : Int} (E : lj_E p s m c b L xs dC dI ad ca) (hd : decode code pc = .ok (.iadd, 1)) (hn : pc + 1 = pc') (k : lj_G p l e s m below meth c b dC dI ad ca pc' lv (vI (w32 (x + y)) :: st) σ) : lj_G p l e s m below meth c b dC dI ad ca pc lv (vI y :: vI x :: st) σ := by
  subst hn
  intro H locs ls hP hS hσ hlv hst hl
  obtain ⟨hy, hx, hst⟩ := hst
  have h9 := k H locs ls hP hS hσ hlv ⟨w32_r _, hst⟩ hl
  have e9 : Int32.ofInt (w32 (x + y)) = Int32.ofInt x + Int32.ofInt y := by rw [ofw32, Int32.ofInt_add]
  simp only [List.map_cons, sr_rv] at h9
  rw [e9] at h9
  exact lv_iadd E.1 E.2.1 hd h9
theorem lj_isub {x y : Int} (E : lj_E p s m c b L xs dC dI ad ca) (hd : decode code pc = .ok (.isub, 1)) (hn : pc + 1 = pc') (k : lj_G p l e s m below meth c b dC dI ad ca pc' lv (vI (w32 (x - y)) :: st) σ) : lj_G p l e s m below meth c b dC dI ad ca pc lv (vI y :: vI x :: st) σ := by
  subst hn
  intro H locs ls hP hS hσ hlv hst hl
  obtain ⟨hy, hx, hst⟩ := hst
  have h9 := k H locs ls hP hS hσ hlv ⟨w32_r _, hst⟩ hl
  have e9 : Int32.ofInt (w32 (x - y)) = Int32.ofInt x - Int32.ofInt y := by rw [ofw32, Int32.ofInt_sub]
  simp only [List.map_cons, sr_rv] at h9
  rw [e9] at h9
  exact lv_isub E.1 E.2.1 hd h9
theorem lj_iand {x y : Int} (E : lj_E p s m c b L xs dC dI ad ca) (hd : decode code pc = .ok (.iand, 1)) (hn : pc + 1 = pc') (k : lj_G p l e s m below meth c b dC dI ad ca pc' lv (vI (iA x y) :: st) σ) : lj_G p l e s m below meth c b dC dI ad ca pc lv (vI y :: vI x :: st) σ := by
  subst hn
  intro H locs ls hP hS hσ hlv hst hl
  obtain ⟨hy, hx, hst⟩ := hst
  have h9 := k H locs ls hP hS hσ hlv ⟨toInt_r32 _, hst⟩ hl
  have e9 : Int32.ofInt (iA x y) = Int32.ofInt x &&& Int32.ofInt y := Int32.ofInt_toInt _
  simp only [List.map_cons, sr_rv] at h9
  rw [e9] at h9
  exact lv_iand E.1 E.2.1 hd h9
theorem lj_iinc {i : Nat} {n x : Int} (E : lj_E p s m c b L xs dC dI ad ca) (hd : decode code pc = .ok (.iinc i n, 3)) (hn : pc + 3 = pc') (hk : lv.lookup i = some (vI x)) (hi : i < 4) (hlv' : sr_st1 lv i (vI (w32 (x + n))) = lv') (k : lj_G p l e s m below meth c b dC dI ad ca pc' lv' st σ) : lj_G p l e s m below meth c b dC dI ad ca pc lv st σ := by
  subst hn
  subst hlv'
  intro H locs ls hP hS hσ hlv hst hl
  obtain ⟨j, hj⟩ := List.getElem?_of_mem (List.mem_map.mpr ⟨(i, vI x), lk_mem hk, rfl⟩ : (i, sr_rv ad (vI x)) ∈ lv.map (fun q => (q.1, sr_rv ad q.2)))
  refine lv_iinc (v := Int32.ofInt (w32 (x + n))) E.1 E.2.1 hd hl hj (by rw [ofw32, Int32.ofInt_add]) hi (st1_map (v := vI (w32 (x + n)))) (fun ls2 hl2 => ?_)
  exact k H locs ls2 hP hS hσ (okE_st1 hlv (w32_r _)) hst hl2
theorem lj_goto {off : Int} (E : lj_E p s m c b L xs dC dI ad ca) (hd : decode code pc = .ok (.goto off, 3)) (ht : (pc : Int) + off = (pc' : Int)) (k : lj_G p l e s m below meth c b dC dI ad ca pc' lv st σ) : lj_G p l e s m below meth c b dC dI ad ca pc lv st σ := by
  intro H locs ls hP hS hσ hlv hst hl
  exact lv_goto E.1 E.2.1 hd ht (k H locs ls hP hS hσ hlv hst hl)
theorem lj_gt {x y : Int} {off : Int} {tgt : Nat} (E : lj_E p s m c b L xs dC dI ad ca) (hd : decode code pc = .ok (.if_icmp .gt off, 3)) (ht : (pc : Int) + off = (tgt : Int)) (hn : pc + 3 = pc') (kt : y < x → lj_G p l e s m below meth c b dC dI ad ca tgt lv st σ) (kf : ¬ y < x → lj_G p l e s m below meth c b dC dI ad ca pc' lv st σ) : lj_G p l e s m below meth c b dC dI ad ca pc lv (vI y :: vI x :: st) σ := by
  subst hn
  intro H locs ls hP hS hσ hlv hst hl
  refine lv_icmp_gt E.1 E.2.1 hd ht (fun h => ?_) (fun h => ?_)
  · exact kt ((lt32 hst.1 hst.2.1).mp h) H locs ls hP hS hσ hlv hst.2.2 hl
  · exact kf ((not_congr (lt32 hst.1 hst.2.1)).mp h) H locs ls hP hS hσ hlv hst.2.2 hl
/-- the answers agree: the jump is taken -/
theorem lj_eq {x y : Int} {off : Int} {tgt : Nat} (h : y = x) (E : lj_E p s m c b L xs dC dI ad ca) (hd : decode code pc = .ok (.if_icmp .eq off, 3)) (ht : (pc : Int) + off = (tgt : Int)) (k : lj_G p l e s m below meth c b dC dI ad ca tgt lv st σ) : lj_G p l e s m below meth c b dC dI ad ca pc lv (vI y :: vI x :: st) σ := by
  subst h
  intro H locs ls hP hS hσ hlv hst hl
  exact lv_icmp_eq E.1 E.2.1 hd ht (fun _ => k H locs ls hP hS hσ hlv hst.2.2 hl) (fun q => absurd rfl q)
theorem lj_eqL {x y : Int} {off : Int} {tgt : Nat} (h : y = x) (E : lj_E p s m c b L xs dC dI ad ca) (hd : decode code pc = .ok (.lcmp, 1)) (hd2 : decode code (pc + 1) = .ok (.ifCond .eq off, 3)) (ht : ((pc + 1 : Nat) : Int) + off = (tgt : Int)) (k : lj_G p l e s m below meth c b dC dI ad ca tgt lv st σ) : lj_G p l e s m below meth c b dC dI ad ca pc lv (vL y :: vL x :: st) σ := by
  subst h
  intro H locs ls hP hS hσ hlv hst hl
  refine W.lcmp E.1 E.2.1 hd ?_
  refine lv_if_eq E.1 E.2.1 hd2 ht (fun _ => k H locs ls hP hS hσ hlv hst.2.2 hl) (fun q => absurd ?_ q)
  rw [← lC_of hst.1 hst.1]
  show Int32.ofInt (lC y y) = 0
  rw [(lC_eq y y).mpr rfl]
  rfl
theorem lj_slen (E : lj_E p s m c b L xs dC dI ad ca) (hd : decode code pc = .ok (.arraylength, 1)) (hn : pc + 1 = pc') (k : lj_G p l e s m below meth c b dC dI ad ca pc' lv (vI (L : Int) :: st) σ) : lj_G p l e s m below meth c b dC dI ad ca pc lv (vR 90 :: st) σ := by
  subst hn
  intro H locs ls hP hS hσ hlv hst hl
  obtain ⟨hx, hb, hml, hown, hts, hK, hD, hSt, hX, hbl, hab, hL⟩ := id E
  have h9 := k H locs ls hP hS hσ hlv ⟨by unfold okV r32; omega, hst.2⟩ hl
  have e9 : Int32.ofInt (L : Int) = Int32.ofNat L := Int32.ofInt_eq_ofNat
  simp only [List.map_cons, sr_rv] at h9
  rw [e9] at h9
  show W p l e room_1 s m #[Value.ref b] below meth c H locs 600000 7302250 (lw_Z below #[Value.ref b] s) (F0 m pc ls (.ref (ad 90) :: st.map (sr_rv ad)))
  rw [hab]
  exact va_slen hx hb hX hbl (Nat.not_le.mpr hbl) hS hd h9
theorem lj_sld {z : Int} (E : lj_E p s m c b L xs dC dI ad ca) (hd : decode code pc = .ok (.iaload, 1)) (hn : pc + 1 = pc') (hz : 0 ≤ z ∧ z < (L : Int)) (k : lj_G p l e s m below meth c b dC dI ad ca pc' lv (vI (xI xs z) :: st) σ) : lj_G p l e s m below meth c b dC dI ad ca pc lv (vI z :: vR 90 :: st) σ := by
  subst hn
  intro H locs ls hP hS hσ hlv hst hl
  obtain ⟨hx, hb, hml, hown, hts, hK, hD, hSt, hX, hbl, hab, hL⟩ := id E
  have hr : r32 z := hst.1
  have h9 := k H locs ls hP hS hσ hlv ⟨toInt_r32 _, hst.2.2⟩ hl
  have e9 : Int32.ofInt (xI xs z) = xs (Int32.ofInt z).toNatClampNeg := by
    unfold xI
    rw [Int32.ofInt_toInt, clamp32 hr]
  simp only [List.map_cons, sr_rv] at h9
  rw [e9] at h9
  show W p l e room_1 s m #[Value.ref b] below meth c H locs 600000 7302250 (lw_Z below #[Value.ref b] s) (F0 m pc ls (.int (Int32.ofInt z) :: .ref (ad 90) :: st.map (sr_rv ad)))
  rw [hab]
  exact va_sld hx hb hX hbl (Nat.not_le.mpr hbl) hS (vpin hr hz) hd h9
/-- an argument out of the script: five instructions -/
theorem lj_arg {j n : Int} (E : lj_E p s m c b L xs dC dI ad ca) (d1 : decode code pc = .ok (.aload_n 0, 1)) (d2 : decode code (pc + 1) = .ok (.iload_n 3, 1)) (d3 : decode code (pc + 1 + 1) = .ok (.iconst j, 1)) (d4 : decode code (pc + 1 + 1 + 1) = .ok (.iadd, 1)) (d5 : decode code (pc + 1 + 1 + 1 + 1) = .ok (.iaload, 1)) (hn : pc + 1 + 1 + 1 + 1 + 1 = pc') (h0 : lv.lookup 0 = some (vR 90)) (h3 : lv.lookup 3 = some (vI n)) (hj : 0 ≤ j ∧ j < 6) (hb : 0 ≤ n ∧ n + 6 ≤ (L : Int)) (k : lj_G p l e s m below meth c b dC dI ad ca pc' lv (vI (xI xs (n + j)) :: st) σ) : lj_G p l e s m below meth c b dC dI ad ca pc lv st σ := by
  have hL := E.2.2.2.2.2.2.2.2.2.2.2
  have e : w32 (n + j) = n + j := w32_id (by unfold r32; omega)
  refine lj_aload_n E d1 rfl h0 ?_
  refine lj_iload_n E d2 rfl h3 ?_
  refine lj_iconst (by unfold r32; omega) E d3 rfl ?_
  refine lj_iadd E d4 rfl ?_
  rw [e]
  exact lj_sld E d5 hn ⟨by omega, by omega⟩ k
theorem lj_callVi {idx n ci yd ynL o : Nat} {y : MethodName} {ycc : ByteArray} {av : List Vl} {QC : Int → Sto → Prop} (E : lj_E p s m c b L xs dC dI ad ca) (hd : decode code pc = .ok (.invokevirtual idx, 3)) (hn : pc + 3 = pc') (hM : sr_MV RL idx y ycc ynL (some .int) n ci) (hko : kd o = 10 + ci) (hav : av.length = n) (hR : yd + 1 ≤ 11 ∧ 8 + (ynL + 11) + 40 * yd ≤ 426) (hw : sr_wd st ≤ 8) (hC : sr_C y ycc ynL (some .int) yd (vR o :: av) σ QC) (k : ∀ r σ1, QC r σ1 → lj_G p l e s m below meth c b dC dI ad ca pc' lv (vI r :: st) σ1) : lj_G p l e s m below meth c b dC dI ad ca pc lv (av.reverse ++ vR o :: st) σ := by
  subst hn
  intro H locs ls hP hS hσ hlv hst hl
  obtain ⟨hx, hb, hml, hown, hts, hK, hD, hSt, hX, hbl, hab, hL⟩ := id E
  obtain ⟨⟨q, hq1, hq2⟩, hm1, hm2, hm3, hm4, hm5, hm6, hm7, hm8⟩ := hM
  have hok := (okL_app _ _).mp hst
  have hMet := hC l dC dI ad ca H.size hσ ⟨trivial, okL_rev hok.1⟩
  have hG : GoodIn gW (wsV RL idx y.cls y (Cond.code y ycc ynL (some .int) :: gW)) := gW_in (fun w hw => by
    rcases List.mem_append.mp hw with h | h
    · rcases List.mem_cons.mp h with rfl | h
      · exact hm1
      · rcases List.mem_cons.mp h with rfl | h
        · exact hm2
        · rcases List.mem_cons.mp h with rfl | h
          · exact hm3
          · rcases List.mem_cons.mp h with rfl | h
            · exact hm4
            · cases h
    · rcases List.mem_cons.mp h with rfl | h
      · exact hm5
      · exact h)
  refine va_calli (va_runV (As := av.map (sr_rv ad)) (rest := st.map (sr_rv ad)) ⟨hx, hb, hml, hown, hts⟩ hMet (cwV n hts hG rfl rfl rfl ⟨rfl, hm6.1, hm6.2, hm7⟩ ⟨by show yd + 1 ≤ 11; exact hR.1, by show 8 + (ynL + 11) + 40 * yd ≤ 426; exact hR.2⟩) ⟨sr_blind, hq2 ▸ va_recv hK hP (ci := ci) (q0 := o) hq1 (by rw [rW_get (kd_lt hko (by omega)), cE_obj hko]), fun U hU hW => ⟨rfl, by rw [hU], by rw [hU]; exact hP, va_K.moved hW.alike hK, ⟨hD.1, fun _ _ => trivial⟩, by rw [hU]; exact hSt.to hS hW (lj_Af hD hS)⟩⟩ rfl (by rw [List.length_map]; exact hav) hl.1 (by show List.map (sr_rv ad) (av.reverse ++ vR o :: st) = _; rw [List.map_append, List.map_reverse]; rfl) (lv_room (by rw [cat_sum]; exact hw)) hd ⟨Nat.le_refl _, Nat.le_refl _⟩) hS (fun q _ h => lj_Af hD hS q h) (lj_Af hD hS) (fun r u t H1 locs1 ht hvm hw hB hz1 hk1 hS1 => ?_)
  obtain ⟨z, rfl, hz, hσ1, hq⟩ := hw
  have hP1 := hB.1
  rw [ht] at hP1
  exact k z u hq H1 locs1 ls hP1 hS1 hσ1 hlv ⟨hz, hok.2.2⟩ hl
theorem lj_callVl {idx n ci yd ynL o : Nat} {y : MethodName} {ycc : ByteArray} {av : List Vl} {QC : Int → Sto → Prop} (E : lj_E p s m c b L xs dC dI ad ca) (hd : decode code pc = .ok (.invokevirtual idx, 3)) (hn : pc + 3 = pc') (hM : sr_MV RL idx y ycc ynL (some .long) n ci) (hko : kd o = 10 + ci) (hav : av.length = n) (hR : yd + 1 ≤ 11 ∧ 8 + (ynL + 11) + 40 * yd ≤ 426) (hw : sr_wd st ≤ 8) (hC : sr_C y ycc ynL (some .long) yd (vR o :: av) σ QC) (k : ∀ r σ1, QC r σ1 → lj_G p l e s m below meth c b dC dI ad ca pc' lv (vL r :: st) σ1) : lj_G p l e s m below meth c b dC dI ad ca pc lv (av.reverse ++ vR o :: st) σ := by
  subst hn
  intro H locs ls hP hS hσ hlv hst hl
  obtain ⟨hx, hb, hml, hown, hts, hK, hD, hSt, hX, hbl, hab, hL⟩ := id E
  obtain ⟨⟨q, hq1, hq2⟩, hm1, hm2, hm3, hm4, hm5, hm6, hm7, hm8⟩ := hM
  have hok := (okL_app _ _).mp hst
  have hMet := hC l dC dI ad ca H.size hσ ⟨trivial, okL_rev hok.1⟩
  have hG : GoodIn gW (wsV RL idx y.cls y (Cond.code y ycc ynL (some .long) :: gW)) := gW_in (fun w hw => by
    rcases List.mem_append.mp hw with h | h
    · rcases List.mem_cons.mp h with rfl | h
      · exact hm1
      · rcases List.mem_cons.mp h with rfl | h
        · exact hm2
        · rcases List.mem_cons.mp h with rfl | h
          · exact hm3
          · rcases List.mem_cons.mp h with rfl | h
            · exact hm4
            · cases h
    · rcases List.mem_cons.mp h with rfl | h
      · exact hm5
      · exact h)
  refine va_calll (va_runV (As := av.map (sr_rv ad)) (rest := st.map (sr_rv ad)) ⟨hx, hb, hml, hown, hts⟩ hMet (cwV n hts hG rfl rfl rfl ⟨rfl, hm6.1, hm6.2, hm7⟩ ⟨by show yd + 1 ≤ 11; exact hR.1, by show 8 + (ynL + 11) + 40 * yd ≤ 426; exact hR.2⟩) ⟨sr_blind, hq2 ▸ va_recv hK hP (ci := ci) (q0 := o) hq1 (by rw [rW_get (kd_lt hko (by omega)), cE_obj hko]), fun U hU hW => ⟨rfl, by rw [hU], by rw [hU]; exact hP, va_K.moved hW.alike hK, ⟨hD.1, fun _ _ => trivial⟩, by rw [hU]; exact hSt.to hS hW (lj_Af hD hS)⟩⟩ rfl (by rw [List.length_map]; exact hav) hl.1 (by show List.map (sr_rv ad) (av.reverse ++ vR o :: st) = _; rw [List.map_append, List.map_reverse]; rfl) (lv_room (by rw [cat_sum]; exact hw)) hd ⟨Nat.le_refl _, Nat.le_refl _⟩) hS (fun q _ h => lj_Af hD hS q h) (lj_Af hD hS) (fun r u t H1 locs1 ht hvm hw hB hz1 hk1 hS1 => ?_)
  obtain ⟨z, rfl, hz, hσ1, hq⟩ := hw
  have hP1 := hB.1
  rw [ht] at hP1
  exact k z u hq H1 locs1 ls hP1 hS1 hσ1 hlv ⟨hz, hok.2.2⟩ hl
theorem lj_tab {x : Int} {dflt : Int} {offs : Array Int} {len : Nat} {off : Int} {tgt : Nat} (E : lj_E p s m c b L xs dC dI ad ca) (hd : decode code pc = .ok (.tableswitch dflt 0 40 offs, len)) (h1 : 0 ≤ x) (h2 : x ≤ 40) (ho : offs[x.toNat]? = some off) (ht : (pc : Int) + off = (tgt : Int)) (k : lj_G p l e s m below meth c b dC dI ad ca tgt lv st σ) : lj_G p l e s m below meth c b dC dI ad ca pc lv (vI x :: st) σ := by
  intro H locs ls hP hS hσ hlv hst hl
  have e : (Int32.ofInt x).toInt = x := of32 hst.1
  exact lv_tableIn E.1 E.2.1 hd (by rw [e]; omega) (by rw [e]; omega) (by rw [e, Int.sub_zero]; exact ho) ht (k H locs ls hP hS hσ hlv hst.2 hl)
theorem lj_tabO {x : Int} {dflt : Int} {offs : Array Int} {len : Nat} {tgt : Nat} (E : lj_E p s m c b L xs dC dI ad ca) (hd : decode code pc = .ok (.tableswitch dflt 0 40 offs, len)) (h1 : x < 0 ∨ 40 < x) (ht : (pc : Int) + dflt = (tgt : Int)) (k : lj_G p l e s m below meth c b dC dI ad ca tgt lv st σ) : lj_G p l e s m below meth c b dC dI ad ca pc lv (vI x :: st) σ := by
  intro H locs ls hP hS hσ hlv hst hl
  have e : (Int32.ofInt x).toInt = x := of32 hst.1
  exact lv_tableOut E.1 E.2.1 hd (by rw [e]; exact h1) ht (k H locs ls hP hS hσ hlv hst.2 hl)
/-- the law's end: true -/
theorem lj_end (E : lj_E p s m c b L xs dC dI ad ca) (hr : meth.sig.returnType = ret) (hlk : meth.locks = false) (hd : decode code pc = .ok (.ireturn, 1)) : lj_G p l e s m below meth c b dC dI ad ca pc lv [vI 1] σ := by
  intro H locs ls hP hS hσ hlv hst hl
  refine va_forget (fun q hq => hS.2.2 q hq) ?_
  exact lw_ret E.1 E.2.1 hr hlk hd
end lj_rules
