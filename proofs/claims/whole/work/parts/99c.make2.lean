/-! ===== constructors, by program ===== -/
def fW20 : Nat → Int32 := (upd (upd (upd (upd (upd (upd (upd (upd (upd (upd (upd (upd (upd (upd (upd (upd (upd (upd (upd (upd (fun _ => 0) 0 (-1)) 1 (-1)) 2 (-1)) 3 (-1)) 4 (-1)) 5 (-1)) 6 (-1)) 7 (-1)) 8 (-1)) 9 (-1)) 10 (-1)) 11 (-1)) 12 (-1)) 13 (-1)) 14 (-1)) 15 (-1)) 16 (-1)) 17 (-1)) 18 (-1)) 19 (-1))
def fW3 : Nat → Int32 := (upd (upd (upd (fun _ => 0) 0 (-1)) 1 (-1)) 2 (-1))
def fW4 : Nat → Int32 := (upd (upd (upd (upd (fun _ => 0) 0 (-1)) 1 (-1)) 2 (-1)) 3 (-1))
abbrev po_fill (h0 : Nat) (ka : Nat → ClassId) (w1 : va_W) : Prop := w1 = [(h0, .inl (ka 1, 20, .inl fW20))]
set_option maxRecDepth 100000 in
set_option maxHeartbeats 4000000 in
theorem co_fill (h0 : Nat) : ic_C yJ7_fill_53178 cJ7_fill_53178 4 0 0 0 [.ref h0, .int (-1)] (fun ka => [(h0, .inl (ka 1, 20, .inl (fun _ => 0)))]) (po_fill h0) := by
  refine ic_C.of (by decide +kernel) (Nat.le_of_ble_eq_true rfl) ?_
  intro p l e s m below meth c dC dI ka A E hnm hrt hlk
  refine ic_nlv (lv' := [(0, .ref h0), (1, .int (-1))]) rfl ?_
  refine ic_nrm (ws' := [(h0, .inl (ka 1, 20, .inl (fun _ => 0)))]) (cs' := 0) (sl' := 0) rfl rfl rfl ?_
  refine ic_iconst (pc' := 1) 0 E dJ7_fill_53178_0 rfl (by decide +kernel) ?_
  refine ic_istore_n (pc' := 2) (lv' := [(2, .int 0), (0, .ref h0), (1, .int (-1))]) E dJ7_fill_53178_1 rfl (by decide) rfl ?_
  refine ic_aload_n (pc' := 3) E dJ7_fill_53178_2 rfl rfl ?_
  refine ic_alen (pc' := 4) 20 0 E dJ7_fill_53178_3 rfl rfl (by decide +kernel) ?_
  refine ic_istore_n (pc' := 5) (lv' := [(3, .int 20), (2, .int 0), (0, .ref h0), (1, .int (-1))]) E dJ7_fill_53178_4 rfl (by decide) rfl ?_
  refine ic_iload_n (pc' := 6) E dJ7_fill_53178_5 rfl rfl ?_
  refine ic_iload_n (pc' := 7) E dJ7_fill_53178_6 rfl rfl ?_
  refine ic_ge_f (pc' := 10) (tgt := 20) E dJ7_fill_53178_7 (by decide) rfl (by decide +kernel) ?_
  refine ic_aload_n (pc' := 11) E dJ7_fill_53178_10 rfl rfl ?_
  refine ic_iload_n (pc' := 12) E dJ7_fill_53178_11 rfl rfl ?_
  refine ic_iload_n (pc' := 13) E dJ7_fill_53178_12 rfl rfl ?_
  refine ic_iast (pc' := 14) (ws' := [(h0, .inl (ka 1, 20, .inl (upd (fun _ => 0) 0 (-1))))]) 0 E dJ7_fill_53178_13 rfl rfl (by unfold vp_in; decide +kernel) rfl ?_
  refine ic_iinc (pc' := 17) (lv' := [(2, .int 1), (3, .int 20), (0, .ref h0), (1, .int (-1))]) (j := 1) 1 E dJ7_fill_53178_14 rfl rfl (by decide +kernel) (by decide) rfl ?_
  refine ic_goto (pc' := 5) E dJ7_fill_53178_17 (by decide) ?_
  refine ic_iload_n (pc' := 6) E dJ7_fill_53178_5 rfl rfl ?_
  refine ic_iload_n (pc' := 7) E dJ7_fill_53178_6 rfl rfl ?_
  refine ic_ge_f (pc' := 10) (tgt := 20) E dJ7_fill_53178_7 (by decide) rfl (by decide +kernel) ?_
  refine ic_aload_n (pc' := 11) E dJ7_fill_53178_10 rfl rfl ?_
  refine ic_iload_n (pc' := 12) E dJ7_fill_53178_11 rfl rfl ?_
  refine ic_iload_n (pc' := 13) E dJ7_fill_53178_12 rfl rfl ?_
  refine ic_iast (pc' := 14) (ws' := [(h0, .inl (ka 1, 20, .inl (upd (upd (fun _ => 0) 0 (-1)) 1 (-1))))]) 0 E dJ7_fill_53178_13 rfl rfl (by unfold vp_in; decide +kernel) rfl ?_
  refine ic_iinc (pc' := 17) (lv' := [(2, .int 2), (3, .int 20), (0, .ref h0), (1, .int (-1))]) (j := 0) 2 E dJ7_fill_53178_14 rfl rfl (by decide +kernel) (by decide) rfl ?_
  refine ic_goto (pc' := 5) E dJ7_fill_53178_17 (by decide) ?_
  refine ic_iload_n (pc' := 6) E dJ7_fill_53178_5 rfl rfl ?_
  refine ic_iload_n (pc' := 7) E dJ7_fill_53178_6 rfl rfl ?_
  refine ic_ge_f (pc' := 10) (tgt := 20) E dJ7_fill_53178_7 (by decide) rfl (by decide +kernel) ?_
  refine ic_aload_n (pc' := 11) E dJ7_fill_53178_10 rfl rfl ?_
  refine ic_iload_n (pc' := 12) E dJ7_fill_53178_11 rfl rfl ?_
  refine ic_iload_n (pc' := 13) E dJ7_fill_53178_12 rfl rfl ?_
  refine ic_iast (pc' := 14) (ws' := [(h0, .inl (ka 1, 20, .inl (upd (upd (upd (fun _ => 0) 0 (-1)) 1 (-1)) 2 (-1))))]) 0 E dJ7_fill_53178_13 rfl rfl (by unfold vp_in; decide +kernel) rfl ?_
  refine ic_iinc (pc' := 17) (lv' := [(2, .int 3), (3, .int 20), (0, .ref h0), (1, .int (-1))]) (j := 0) 3 E dJ7_fill_53178_14 rfl rfl (by decide +kernel) (by decide) rfl ?_
  refine ic_goto (pc' := 5) E dJ7_fill_53178_17 (by decide) ?_
  refine ic_iload_n (pc' := 6) E dJ7_fill_53178_5 rfl rfl ?_
  refine ic_iload_n (pc' := 7) E dJ7_fill_53178_6 rfl rfl ?_
  refine ic_ge_f (pc' := 10) (tgt := 20) E dJ7_fill_53178_7 (by decide) rfl (by decide +kernel) ?_
  refine ic_aload_n (pc' := 11) E dJ7_fill_53178_10 rfl rfl ?_
  refine ic_iload_n (pc' := 12) E dJ7_fill_53178_11 rfl rfl ?_
  refine ic_iload_n (pc' := 13) E dJ7_fill_53178_12 rfl rfl ?_
  refine ic_iast (pc' := 14) (ws' := [(h0, .inl (ka 1, 20, .inl (upd (upd (upd (upd (fun _ => 0) 0 (-1)) 1 (-1)) 2 (-1)) 3 (-1))))]) 0 E dJ7_fill_53178_13 rfl rfl (by unfold vp_in; decide +kernel) rfl ?_
  refine ic_iinc (pc' := 17) (lv' := [(2, .int 4), (3, .int 20), (0, .ref h0), (1, .int (-1))]) (j := 0) 4 E dJ7_fill_53178_14 rfl rfl (by decide +kernel) (by decide) rfl ?_
  refine ic_goto (pc' := 5) E dJ7_fill_53178_17 (by decide) ?_
  refine ic_iload_n (pc' := 6) E dJ7_fill_53178_5 rfl rfl ?_
  refine ic_iload_n (pc' := 7) E dJ7_fill_53178_6 rfl rfl ?_
  refine ic_ge_f (pc' := 10) (tgt := 20) E dJ7_fill_53178_7 (by decide) rfl (by decide +kernel) ?_
  refine ic_aload_n (pc' := 11) E dJ7_fill_53178_10 rfl rfl ?_
  refine ic_iload_n (pc' := 12) E dJ7_fill_53178_11 rfl rfl ?_
  refine ic_iload_n (pc' := 13) E dJ7_fill_53178_12 rfl rfl ?_
  refine ic_iast (pc' := 14) (ws' := [(h0, .inl (ka 1, 20, .inl (upd (upd (upd (upd (upd (fun _ => 0) 0 (-1)) 1 (-1)) 2 (-1)) 3 (-1)) 4 (-1))))]) 0 E dJ7_fill_53178_13 rfl rfl (by unfold vp_in; decide +kernel) rfl ?_
  refine ic_iinc (pc' := 17) (lv' := [(2, .int 5), (3, .int 20), (0, .ref h0), (1, .int (-1))]) (j := 0) 5 E dJ7_fill_53178_14 rfl rfl (by decide +kernel) (by decide) rfl ?_
  refine ic_goto (pc' := 5) E dJ7_fill_53178_17 (by decide) ?_
  refine ic_iload_n (pc' := 6) E dJ7_fill_53178_5 rfl rfl ?_
  refine ic_iload_n (pc' := 7) E dJ7_fill_53178_6 rfl rfl ?_
  refine ic_ge_f (pc' := 10) (tgt := 20) E dJ7_fill_53178_7 (by decide) rfl (by decide +kernel) ?_
  refine ic_aload_n (pc' := 11) E dJ7_fill_53178_10 rfl rfl ?_
  refine ic_iload_n (pc' := 12) E dJ7_fill_53178_11 rfl rfl ?_
  refine ic_iload_n (pc' := 13) E dJ7_fill_53178_12 rfl rfl ?_
  refine ic_iast (pc' := 14) (ws' := [(h0, .inl (ka 1, 20, .inl (upd (upd (upd (upd (upd (upd (fun _ => 0) 0 (-1)) 1 (-1)) 2 (-1)) 3 (-1)) 4 (-1)) 5 (-1))))]) 0 E dJ7_fill_53178_13 rfl rfl (by unfold vp_in; decide +kernel) rfl ?_
  refine ic_iinc (pc' := 17) (lv' := [(2, .int 6), (3, .int 20), (0, .ref h0), (1, .int (-1))]) (j := 0) 6 E dJ7_fill_53178_14 rfl rfl (by decide +kernel) (by decide) rfl ?_
  refine ic_goto (pc' := 5) E dJ7_fill_53178_17 (by decide) ?_
  refine ic_iload_n (pc' := 6) E dJ7_fill_53178_5 rfl rfl ?_
  refine ic_iload_n (pc' := 7) E dJ7_fill_53178_6 rfl rfl ?_
  refine ic_ge_f (pc' := 10) (tgt := 20) E dJ7_fill_53178_7 (by decide) rfl (by decide +kernel) ?_
  refine ic_aload_n (pc' := 11) E dJ7_fill_53178_10 rfl rfl ?_
  refine ic_iload_n (pc' := 12) E dJ7_fill_53178_11 rfl rfl ?_
  refine ic_iload_n (pc' := 13) E dJ7_fill_53178_12 rfl rfl ?_
  refine ic_iast (pc' := 14) (ws' := [(h0, .inl (ka 1, 20, .inl (upd (upd (upd (upd (upd (upd (upd (fun _ => 0) 0 (-1)) 1 (-1)) 2 (-1)) 3 (-1)) 4 (-1)) 5 (-1)) 6 (-1))))]) 0 E dJ7_fill_53178_13 rfl rfl (by unfold vp_in; decide +kernel) rfl ?_
  refine ic_iinc (pc' := 17) (lv' := [(2, .int 7), (3, .int 20), (0, .ref h0), (1, .int (-1))]) (j := 0) 7 E dJ7_fill_53178_14 rfl rfl (by decide +kernel) (by decide) rfl ?_
  refine ic_goto (pc' := 5) E dJ7_fill_53178_17 (by decide) ?_
  refine ic_iload_n (pc' := 6) E dJ7_fill_53178_5 rfl rfl ?_
  refine ic_iload_n (pc' := 7) E dJ7_fill_53178_6 rfl rfl ?_
  refine ic_ge_f (pc' := 10) (tgt := 20) E dJ7_fill_53178_7 (by decide) rfl (by decide +kernel) ?_
  refine ic_aload_n (pc' := 11) E dJ7_fill_53178_10 rfl rfl ?_
  refine ic_iload_n (pc' := 12) E dJ7_fill_53178_11 rfl rfl ?_
  refine ic_iload_n (pc' := 13) E dJ7_fill_53178_12 rfl rfl ?_
  refine ic_iast (pc' := 14) (ws' := [(h0, .inl (ka 1, 20, .inl (upd (upd (upd (upd (upd (upd (upd (upd (fun _ => 0) 0 (-1)) 1 (-1)) 2 (-1)) 3 (-1)) 4 (-1)) 5 (-1)) 6 (-1)) 7 (-1))))]) 0 E dJ7_fill_53178_13 rfl rfl (by unfold vp_in; decide +kernel) rfl ?_
  refine ic_iinc (pc' := 17) (lv' := [(2, .int 8), (3, .int 20), (0, .ref h0), (1, .int (-1))]) (j := 0) 8 E dJ7_fill_53178_14 rfl rfl (by decide +kernel) (by decide) rfl ?_
  refine ic_goto (pc' := 5) E dJ7_fill_53178_17 (by decide) ?_
  refine ic_iload_n (pc' := 6) E dJ7_fill_53178_5 rfl rfl ?_
  refine ic_iload_n (pc' := 7) E dJ7_fill_53178_6 rfl rfl ?_
  refine ic_ge_f (pc' := 10) (tgt := 20) E dJ7_fill_53178_7 (by decide) rfl (by decide +kernel) ?_
  refine ic_aload_n (pc' := 11) E dJ7_fill_53178_10 rfl rfl ?_
  refine ic_iload_n (pc' := 12) E dJ7_fill_53178_11 rfl rfl ?_
  refine ic_iload_n (pc' := 13) E dJ7_fill_53178_12 rfl rfl ?_
  refine ic_iast (pc' := 14) (ws' := [(h0, .inl (ka 1, 20, .inl (upd (upd (upd (upd (upd (upd (upd (upd (upd (fun _ => 0) 0 (-1)) 1 (-1)) 2 (-1)) 3 (-1)) 4 (-1)) 5 (-1)) 6 (-1)) 7 (-1)) 8 (-1))))]) 0 E dJ7_fill_53178_13 rfl rfl (by unfold vp_in; decide +kernel) rfl ?_
  refine ic_iinc (pc' := 17) (lv' := [(2, .int 9), (3, .int 20), (0, .ref h0), (1, .int (-1))]) (j := 0) 9 E dJ7_fill_53178_14 rfl rfl (by decide +kernel) (by decide) rfl ?_
  refine ic_goto (pc' := 5) E dJ7_fill_53178_17 (by decide) ?_
  refine ic_iload_n (pc' := 6) E dJ7_fill_53178_5 rfl rfl ?_
  refine ic_iload_n (pc' := 7) E dJ7_fill_53178_6 rfl rfl ?_
  refine ic_ge_f (pc' := 10) (tgt := 20) E dJ7_fill_53178_7 (by decide) rfl (by decide +kernel) ?_
  refine ic_aload_n (pc' := 11) E dJ7_fill_53178_10 rfl rfl ?_
  refine ic_iload_n (pc' := 12) E dJ7_fill_53178_11 rfl rfl ?_
  refine ic_iload_n (pc' := 13) E dJ7_fill_53178_12 rfl rfl ?_
  refine ic_iast (pc' := 14) (ws' := [(h0, .inl (ka 1, 20, .inl (upd (upd (upd (upd (upd (upd (upd (upd (upd (upd (fun _ => 0) 0 (-1)) 1 (-1)) 2 (-1)) 3 (-1)) 4 (-1)) 5 (-1)) 6 (-1)) 7 (-1)) 8 (-1)) 9 (-1))))]) 0 E dJ7_fill_53178_13 rfl rfl (by unfold vp_in; decide +kernel) rfl ?_
  refine ic_iinc (pc' := 17) (lv' := [(2, .int 10), (3, .int 20), (0, .ref h0), (1, .int (-1))]) (j := 0) 10 E dJ7_fill_53178_14 rfl rfl (by decide +kernel) (by decide) rfl ?_
  refine ic_goto (pc' := 5) E dJ7_fill_53178_17 (by decide) ?_
  refine ic_iload_n (pc' := 6) E dJ7_fill_53178_5 rfl rfl ?_
  refine ic_iload_n (pc' := 7) E dJ7_fill_53178_6 rfl rfl ?_
  refine ic_ge_f (pc' := 10) (tgt := 20) E dJ7_fill_53178_7 (by decide) rfl (by decide +kernel) ?_
  refine ic_aload_n (pc' := 11) E dJ7_fill_53178_10 rfl rfl ?_
  refine ic_iload_n (pc' := 12) E dJ7_fill_53178_11 rfl rfl ?_
  refine ic_iload_n (pc' := 13) E dJ7_fill_53178_12 rfl rfl ?_
  refine ic_iast (pc' := 14) (ws' := [(h0, .inl (ka 1, 20, .inl (upd (upd (upd (upd (upd (upd (upd (upd (upd (upd (upd (fun _ => 0) 0 (-1)) 1 (-1)) 2 (-1)) 3 (-1)) 4 (-1)) 5 (-1)) 6 (-1)) 7 (-1)) 8 (-1)) 9 (-1)) 10 (-1))))]) 0 E dJ7_fill_53178_13 rfl rfl (by unfold vp_in; decide +kernel) rfl ?_
  refine ic_iinc (pc' := 17) (lv' := [(2, .int 11), (3, .int 20), (0, .ref h0), (1, .int (-1))]) (j := 0) 11 E dJ7_fill_53178_14 rfl rfl (by decide +kernel) (by decide) rfl ?_
  refine ic_goto (pc' := 5) E dJ7_fill_53178_17 (by decide) ?_
  refine ic_iload_n (pc' := 6) E dJ7_fill_53178_5 rfl rfl ?_
  refine ic_iload_n (pc' := 7) E dJ7_fill_53178_6 rfl rfl ?_
  refine ic_ge_f (pc' := 10) (tgt := 20) E dJ7_fill_53178_7 (by decide) rfl (by decide +kernel) ?_
  refine ic_aload_n (pc' := 11) E dJ7_fill_53178_10 rfl rfl ?_
  refine ic_iload_n (pc' := 12) E dJ7_fill_53178_11 rfl rfl ?_
  refine ic_iload_n (pc' := 13) E dJ7_fill_53178_12 rfl rfl ?_
  refine ic_iast (pc' := 14) (ws' := [(h0, .inl (ka 1, 20, .inl (upd (upd (upd (upd (upd (upd (upd (upd (upd (upd (upd (upd (fun _ => 0) 0 (-1)) 1 (-1)) 2 (-1)) 3 (-1)) 4 (-1)) 5 (-1)) 6 (-1)) 7 (-1)) 8 (-1)) 9 (-1)) 10 (-1)) 11 (-1))))]) 0 E dJ7_fill_53178_13 rfl rfl (by unfold vp_in; decide +kernel) rfl ?_
  refine ic_iinc (pc' := 17) (lv' := [(2, .int 12), (3, .int 20), (0, .ref h0), (1, .int (-1))]) (j := 0) 12 E dJ7_fill_53178_14 rfl rfl (by decide +kernel) (by decide) rfl ?_
  refine ic_goto (pc' := 5) E dJ7_fill_53178_17 (by decide) ?_
  refine ic_iload_n (pc' := 6) E dJ7_fill_53178_5 rfl rfl ?_
  refine ic_iload_n (pc' := 7) E dJ7_fill_53178_6 rfl rfl ?_
  refine ic_ge_f (pc' := 10) (tgt := 20) E dJ7_fill_53178_7 (by decide) rfl (by decide +kernel) ?_
  refine ic_aload_n (pc' := 11) E dJ7_fill_53178_10 rfl rfl ?_
  refine ic_iload_n (pc' := 12) E dJ7_fill_53178_11 rfl rfl ?_
  refine ic_iload_n (pc' := 13) E dJ7_fill_53178_12 rfl rfl ?_
  refine ic_iast (pc' := 14) (ws' := [(h0, .inl (ka 1, 20, .inl (upd (upd (upd (upd (upd (upd (upd (upd (upd (upd (upd (upd (upd (fun _ => 0) 0 (-1)) 1 (-1)) 2 (-1)) 3 (-1)) 4 (-1)) 5 (-1)) 6 (-1)) 7 (-1)) 8 (-1)) 9 (-1)) 10 (-1)) 11 (-1)) 12 (-1))))]) 0 E dJ7_fill_53178_13 rfl rfl (by unfold vp_in; decide +kernel) rfl ?_
  refine ic_iinc (pc' := 17) (lv' := [(2, .int 13), (3, .int 20), (0, .ref h0), (1, .int (-1))]) (j := 0) 13 E dJ7_fill_53178_14 rfl rfl (by decide +kernel) (by decide) rfl ?_
  refine ic_goto (pc' := 5) E dJ7_fill_53178_17 (by decide) ?_
  refine ic_iload_n (pc' := 6) E dJ7_fill_53178_5 rfl rfl ?_
  refine ic_iload_n (pc' := 7) E dJ7_fill_53178_6 rfl rfl ?_
  refine ic_ge_f (pc' := 10) (tgt := 20) E dJ7_fill_53178_7 (by decide) rfl (by decide +kernel) ?_
  refine ic_aload_n (pc' := 11) E dJ7_fill_53178_10 rfl rfl ?_
  refine ic_iload_n (pc' := 12) E dJ7_fill_53178_11 rfl rfl ?_
  refine ic_iload_n (pc' := 13) E dJ7_fill_53178_12 rfl rfl ?_
  refine ic_iast (pc' := 14) (ws' := [(h0, .inl (ka 1, 20, .inl (upd (upd (upd (upd (upd (upd (upd (upd (upd (upd (upd (upd (upd (upd (fun _ => 0) 0 (-1)) 1 (-1)) 2 (-1)) 3 (-1)) 4 (-1)) 5 (-1)) 6 (-1)) 7 (-1)) 8 (-1)) 9 (-1)) 10 (-1)) 11 (-1)) 12 (-1)) 13 (-1))))]) 0 E dJ7_fill_53178_13 rfl rfl (by unfold vp_in; decide +kernel) rfl ?_
  refine ic_iinc (pc' := 17) (lv' := [(2, .int 14), (3, .int 20), (0, .ref h0), (1, .int (-1))]) (j := 0) 14 E dJ7_fill_53178_14 rfl rfl (by decide +kernel) (by decide) rfl ?_
  refine ic_goto (pc' := 5) E dJ7_fill_53178_17 (by decide) ?_
  refine ic_iload_n (pc' := 6) E dJ7_fill_53178_5 rfl rfl ?_
  refine ic_iload_n (pc' := 7) E dJ7_fill_53178_6 rfl rfl ?_
  refine ic_ge_f (pc' := 10) (tgt := 20) E dJ7_fill_53178_7 (by decide) rfl (by decide +kernel) ?_
  refine ic_aload_n (pc' := 11) E dJ7_fill_53178_10 rfl rfl ?_
  refine ic_iload_n (pc' := 12) E dJ7_fill_53178_11 rfl rfl ?_
  refine ic_iload_n (pc' := 13) E dJ7_fill_53178_12 rfl rfl ?_
  refine ic_iast (pc' := 14) (ws' := [(h0, .inl (ka 1, 20, .inl (upd (upd (upd (upd (upd (upd (upd (upd (upd (upd (upd (upd (upd (upd (upd (fun _ => 0) 0 (-1)) 1 (-1)) 2 (-1)) 3 (-1)) 4 (-1)) 5 (-1)) 6 (-1)) 7 (-1)) 8 (-1)) 9 (-1)) 10 (-1)) 11 (-1)) 12 (-1)) 13 (-1)) 14 (-1))))]) 0 E dJ7_fill_53178_13 rfl rfl (by unfold vp_in; decide +kernel) rfl ?_
  refine ic_iinc (pc' := 17) (lv' := [(2, .int 15), (3, .int 20), (0, .ref h0), (1, .int (-1))]) (j := 0) 15 E dJ7_fill_53178_14 rfl rfl (by decide +kernel) (by decide) rfl ?_
  refine ic_goto (pc' := 5) E dJ7_fill_53178_17 (by decide) ?_
  refine ic_iload_n (pc' := 6) E dJ7_fill_53178_5 rfl rfl ?_
  refine ic_iload_n (pc' := 7) E dJ7_fill_53178_6 rfl rfl ?_
  refine ic_ge_f (pc' := 10) (tgt := 20) E dJ7_fill_53178_7 (by decide) rfl (by decide +kernel) ?_
  refine ic_aload_n (pc' := 11) E dJ7_fill_53178_10 rfl rfl ?_
  refine ic_iload_n (pc' := 12) E dJ7_fill_53178_11 rfl rfl ?_
  refine ic_iload_n (pc' := 13) E dJ7_fill_53178_12 rfl rfl ?_
  refine ic_iast (pc' := 14) (ws' := [(h0, .inl (ka 1, 20, .inl (upd (upd (upd (upd (upd (upd (upd (upd (upd (upd (upd (upd (upd (upd (upd (upd (fun _ => 0) 0 (-1)) 1 (-1)) 2 (-1)) 3 (-1)) 4 (-1)) 5 (-1)) 6 (-1)) 7 (-1)) 8 (-1)) 9 (-1)) 10 (-1)) 11 (-1)) 12 (-1)) 13 (-1)) 14 (-1)) 15 (-1))))]) 0 E dJ7_fill_53178_13 rfl rfl (by unfold vp_in; decide +kernel) rfl ?_
  refine ic_iinc (pc' := 17) (lv' := [(2, .int 16), (3, .int 20), (0, .ref h0), (1, .int (-1))]) (j := 0) 16 E dJ7_fill_53178_14 rfl rfl (by decide +kernel) (by decide) rfl ?_
  refine ic_goto (pc' := 5) E dJ7_fill_53178_17 (by decide) ?_
  refine ic_iload_n (pc' := 6) E dJ7_fill_53178_5 rfl rfl ?_
  refine ic_iload_n (pc' := 7) E dJ7_fill_53178_6 rfl rfl ?_
  refine ic_ge_f (pc' := 10) (tgt := 20) E dJ7_fill_53178_7 (by decide) rfl (by decide +kernel) ?_
  refine ic_aload_n (pc' := 11) E dJ7_fill_53178_10 rfl rfl ?_
  refine ic_iload_n (pc' := 12) E dJ7_fill_53178_11 rfl rfl ?_
  refine ic_iload_n (pc' := 13) E dJ7_fill_53178_12 rfl rfl ?_
  refine ic_iast (pc' := 14) (ws' := [(h0, .inl (ka 1, 20, .inl (upd (upd (upd (upd (upd (upd (upd (upd (upd (upd (upd (upd (upd (upd (upd (upd (upd (fun _ => 0) 0 (-1)) 1 (-1)) 2 (-1)) 3 (-1)) 4 (-1)) 5 (-1)) 6 (-1)) 7 (-1)) 8 (-1)) 9 (-1)) 10 (-1)) 11 (-1)) 12 (-1)) 13 (-1)) 14 (-1)) 15 (-1)) 16 (-1))))]) 0 E dJ7_fill_53178_13 rfl rfl (by unfold vp_in; decide +kernel) rfl ?_
  refine ic_iinc (pc' := 17) (lv' := [(2, .int 17), (3, .int 20), (0, .ref h0), (1, .int (-1))]) (j := 0) 17 E dJ7_fill_53178_14 rfl rfl (by decide +kernel) (by decide) rfl ?_
  refine ic_goto (pc' := 5) E dJ7_fill_53178_17 (by decide) ?_
  refine ic_iload_n (pc' := 6) E dJ7_fill_53178_5 rfl rfl ?_
  refine ic_iload_n (pc' := 7) E dJ7_fill_53178_6 rfl rfl ?_
  refine ic_ge_f (pc' := 10) (tgt := 20) E dJ7_fill_53178_7 (by decide) rfl (by decide +kernel) ?_
  refine ic_aload_n (pc' := 11) E dJ7_fill_53178_10 rfl rfl ?_
  refine ic_iload_n (pc' := 12) E dJ7_fill_53178_11 rfl rfl ?_
  refine ic_iload_n (pc' := 13) E dJ7_fill_53178_12 rfl rfl ?_
  refine ic_iast (pc' := 14) (ws' := [(h0, .inl (ka 1, 20, .inl (upd (upd (upd (upd (upd (upd (upd (upd (upd (upd (upd (upd (upd (upd (upd (upd (upd (upd (fun _ => 0) 0 (-1)) 1 (-1)) 2 (-1)) 3 (-1)) 4 (-1)) 5 (-1)) 6 (-1)) 7 (-1)) 8 (-1)) 9 (-1)) 10 (-1)) 11 (-1)) 12 (-1)) 13 (-1)) 14 (-1)) 15 (-1)) 16 (-1)) 17 (-1))))]) 0 E dJ7_fill_53178_13 rfl rfl (by unfold vp_in; decide +kernel) rfl ?_
  refine ic_iinc (pc' := 17) (lv' := [(2, .int 18), (3, .int 20), (0, .ref h0), (1, .int (-1))]) (j := 0) 18 E dJ7_fill_53178_14 rfl rfl (by decide +kernel) (by decide) rfl ?_
  refine ic_goto (pc' := 5) E dJ7_fill_53178_17 (by decide) ?_
  refine ic_iload_n (pc' := 6) E dJ7_fill_53178_5 rfl rfl ?_
  refine ic_iload_n (pc' := 7) E dJ7_fill_53178_6 rfl rfl ?_
  refine ic_ge_f (pc' := 10) (tgt := 20) E dJ7_fill_53178_7 (by decide) rfl (by decide +kernel) ?_
  refine ic_aload_n (pc' := 11) E dJ7_fill_53178_10 rfl rfl ?_
  refine ic_iload_n (pc' := 12) E dJ7_fill_53178_11 rfl rfl ?_
  refine ic_iload_n (pc' := 13) E dJ7_fill_53178_12 rfl rfl ?_
  refine ic_iast (pc' := 14) (ws' := [(h0, .inl (ka 1, 20, .inl (upd (upd (upd (upd (upd (upd (upd (upd (upd (upd (upd (upd (upd (upd (upd (upd (upd (upd (upd (fun _ => 0) 0 (-1)) 1 (-1)) 2 (-1)) 3 (-1)) 4 (-1)) 5 (-1)) 6 (-1)) 7 (-1)) 8 (-1)) 9 (-1)) 10 (-1)) 11 (-1)) 12 (-1)) 13 (-1)) 14 (-1)) 15 (-1)) 16 (-1)) 17 (-1)) 18 (-1))))]) 0 E dJ7_fill_53178_13 rfl rfl (by unfold vp_in; decide +kernel) rfl ?_
  refine ic_iinc (pc' := 17) (lv' := [(2, .int 19), (3, .int 20), (0, .ref h0), (1, .int (-1))]) (j := 0) 19 E dJ7_fill_53178_14 rfl rfl (by decide +kernel) (by decide) rfl ?_
  refine ic_goto (pc' := 5) E dJ7_fill_53178_17 (by decide) ?_
  refine ic_iload_n (pc' := 6) E dJ7_fill_53178_5 rfl rfl ?_
  refine ic_iload_n (pc' := 7) E dJ7_fill_53178_6 rfl rfl ?_
  refine ic_ge_f (pc' := 10) (tgt := 20) E dJ7_fill_53178_7 (by decide) rfl (by decide +kernel) ?_
  refine ic_aload_n (pc' := 11) E dJ7_fill_53178_10 rfl rfl ?_
  refine ic_iload_n (pc' := 12) E dJ7_fill_53178_11 rfl rfl ?_
  refine ic_iload_n (pc' := 13) E dJ7_fill_53178_12 rfl rfl ?_
  refine ic_iast (pc' := 14) (ws' := [(h0, .inl (ka 1, 20, .inl (upd (upd (upd (upd (upd (upd (upd (upd (upd (upd (upd (upd (upd (upd (upd (upd (upd (upd (upd (upd (fun _ => 0) 0 (-1)) 1 (-1)) 2 (-1)) 3 (-1)) 4 (-1)) 5 (-1)) 6 (-1)) 7 (-1)) 8 (-1)) 9 (-1)) 10 (-1)) 11 (-1)) 12 (-1)) 13 (-1)) 14 (-1)) 15 (-1)) 16 (-1)) 17 (-1)) 18 (-1)) 19 (-1))))]) 0 E dJ7_fill_53178_13 rfl rfl (by unfold vp_in; decide +kernel) rfl ?_
  refine ic_iinc (pc' := 17) (lv' := [(2, .int 20), (3, .int 20), (0, .ref h0), (1, .int (-1))]) (j := 0) 20 E dJ7_fill_53178_14 rfl rfl (by decide +kernel) (by decide) rfl ?_
  refine ic_goto (pc' := 5) E dJ7_fill_53178_17 (by decide) ?_
  refine ic_iload_n (pc' := 6) E dJ7_fill_53178_5 rfl rfl ?_
  refine ic_iload_n (pc' := 7) E dJ7_fill_53178_6 rfl rfl ?_
  refine ic_ge_t (pc' := 20) E dJ7_fill_53178_7 (by decide) (by decide +kernel) ?_
  exact ic_ret E hrt hlk dJ7_fill_53178_20 (Nat.le_of_ble_eq_true rfl) (Nat.le_of_ble_eq_true rfl) rfl
abbrev po_X9_41 (h0 : Nat) (ka : Nat → ClassId) (w1 : va_W) : Prop := ∃ q0_9 : Nat, w1 = [(h0, .inr (9, [.ref q0_9, .int 0])), (q0_9, .inl (ka 1, 41, .inl (fun _ => 0)))]
set_option maxRecDepth 100000 in
set_option maxHeartbeats 4000000 in
theorem co_X9_41 (h0 : Nat) : ic_C yX9_init cX9_init 2 1 1 41 [.ref h0, .int 41] (fun _ => [(h0, .inr (9, [.null, .int 0]))]) (po_X9_41 h0) := by
  refine ic_C.of (by decide +kernel) (Nat.le_of_ble_eq_true rfl) ?_
  intro p l e s m below meth c dC dI ka A E hnm hrt hlk
  have hnm : meth.name = "<init>" := hnm
  refine ic_nlv (lv' := [(0, .ref h0), (1, .int 41)]) rfl ?_
  refine ic_nrm (ws' := [(h0, .inr (9, [.null, .int 0]))]) (cs' := 0) (sl' := 0) rfl rfl rfl ?_
  refine ic_aload_n (pc' := 1) E dX9_init_0 rfl rfl ?_
  refine ic_obj (pc' := 4) E dX9_init_1 rfl wi_236 wi_25 wi_26 (Nat.le_of_ble_eq_true rfl) (Nat.le_of_ble_eq_true rfl) ?_
  refine ic_aload_n (pc' := 5) E dX9_init_4 rfl rfl ?_
  refine ic_iconst (pc' := 6) 0 E dX9_init_5 rfl (by decide +kernel) ?_
  refine ic_put (pc' := 9) (ws' := [(h0, .inr (9, [.null, .int 0]))]) 0 E hnm dX9_init_6 rfl ip_RX9_9 rfl rfl rfl (Nat.le_of_ble_eq_true rfl) rfl ?_
  refine ic_aload_n (pc' := 10) E dX9_init_9 rfl rfl ?_
  refine ic_iload_n (pc' := 11) E dX9_init_10 rfl rfl ?_
  refine ic_iconst (pc' := 12) 0 E dX9_init_11 rfl (by decide +kernel) ?_
  refine ic_max (pc' := 15) 41 E dX9_init_12 rfl wm_237 wm_238 wm_9 wm_239 (Nat.le_of_ble_eq_true rfl) (Nat.le_of_ble_eq_true rfl) (Nat.le_of_ble_eq_true rfl) (Nat.le_of_ble_eq_true rfl) (by decide +kernel) ?_
  refine ic_newI (pc' := 17) (N := 41) E dX9_init_15 rfl wi_51 (by decide +kernel) (by decide +kernel) (Nat.le_of_ble_eq_true rfl) (Nat.le_of_ble_eq_true rfl) (Nat.le_of_ble_eq_true rfl) (fun q0_9 => ?_)
  refine ic_nrm (ws' := [(h0, .inr (9, [.null, .int 0])), (q0_9, .inl (ka 1, 41, .inl (fun _ => 0)))]) (cs' := 1) (sl' := 41) rfl rfl rfl ?_
  refine ic_put (pc' := 20) (ws' := [(h0, .inr (9, [.ref q0_9, .int 0])), (q0_9, .inl (ka 1, 41, .inl (fun _ => 0)))]) 0 E hnm dX9_init_17 rfl ip_RX9_21 rfl rfl rfl (Nat.le_of_ble_eq_true rfl) rfl ?_
  exact ic_ret E hrt hlk dX9_init_20 (Nat.le_of_ble_eq_true rfl) (Nat.le_of_ble_eq_true rfl) ⟨q0_9, rfl⟩
abbrev po_X9_39 (h0 : Nat) (ka : Nat → ClassId) (w1 : va_W) : Prop := ∃ q0_9 : Nat, w1 = [(h0, .inr (9, [.ref q0_9, .int 0])), (q0_9, .inl (ka 1, 39, .inl (fun _ => 0)))]
set_option maxRecDepth 100000 in
set_option maxHeartbeats 4000000 in
theorem co_X9_39 (h0 : Nat) : ic_C yX9_init cX9_init 2 1 1 39 [.ref h0, .int 39] (fun _ => [(h0, .inr (9, [.null, .int 0]))]) (po_X9_39 h0) := by
  refine ic_C.of (by decide +kernel) (Nat.le_of_ble_eq_true rfl) ?_
  intro p l e s m below meth c dC dI ka A E hnm hrt hlk
  have hnm : meth.name = "<init>" := hnm
  refine ic_nlv (lv' := [(0, .ref h0), (1, .int 39)]) rfl ?_
  refine ic_nrm (ws' := [(h0, .inr (9, [.null, .int 0]))]) (cs' := 0) (sl' := 0) rfl rfl rfl ?_
  refine ic_aload_n (pc' := 1) E dX9_init_0 rfl rfl ?_
  refine ic_obj (pc' := 4) E dX9_init_1 rfl wi_236 wi_25 wi_26 (Nat.le_of_ble_eq_true rfl) (Nat.le_of_ble_eq_true rfl) ?_
  refine ic_aload_n (pc' := 5) E dX9_init_4 rfl rfl ?_
  refine ic_iconst (pc' := 6) 0 E dX9_init_5 rfl (by decide +kernel) ?_
  refine ic_put (pc' := 9) (ws' := [(h0, .inr (9, [.null, .int 0]))]) 0 E hnm dX9_init_6 rfl ip_RX9_9 rfl rfl rfl (Nat.le_of_ble_eq_true rfl) rfl ?_
  refine ic_aload_n (pc' := 10) E dX9_init_9 rfl rfl ?_
  refine ic_iload_n (pc' := 11) E dX9_init_10 rfl rfl ?_
  refine ic_iconst (pc' := 12) 0 E dX9_init_11 rfl (by decide +kernel) ?_
  refine ic_max (pc' := 15) 39 E dX9_init_12 rfl wm_237 wm_238 wm_9 wm_239 (Nat.le_of_ble_eq_true rfl) (Nat.le_of_ble_eq_true rfl) (Nat.le_of_ble_eq_true rfl) (Nat.le_of_ble_eq_true rfl) (by decide +kernel) ?_
  refine ic_newI (pc' := 17) (N := 39) E dX9_init_15 rfl wi_51 (by decide +kernel) (by decide +kernel) (Nat.le_of_ble_eq_true rfl) (Nat.le_of_ble_eq_true rfl) (Nat.le_of_ble_eq_true rfl) (fun q0_9 => ?_)
  refine ic_nrm (ws' := [(h0, .inr (9, [.null, .int 0])), (q0_9, .inl (ka 1, 39, .inl (fun _ => 0)))]) (cs' := 1) (sl' := 39) rfl rfl rfl ?_
  refine ic_put (pc' := 20) (ws' := [(h0, .inr (9, [.ref q0_9, .int 0])), (q0_9, .inl (ka 1, 39, .inl (fun _ => 0)))]) 0 E hnm dX9_init_17 rfl ip_RX9_21 rfl rfl rfl (Nat.le_of_ble_eq_true rfl) rfl ?_
  exact ic_ret E hrt hlk dX9_init_20 (Nat.le_of_ble_eq_true rfl) (Nat.le_of_ble_eq_true rfl) ⟨q0_9, rfl⟩
abbrev po_X9_20 (h0 : Nat) (ka : Nat → ClassId) (w1 : va_W) : Prop := ∃ q0_9 : Nat, w1 = [(h0, .inr (9, [.ref q0_9, .int 0])), (q0_9, .inl (ka 1, 20, .inl (fun _ => 0)))]
set_option maxRecDepth 100000 in
set_option maxHeartbeats 4000000 in
theorem co_X9_20 (h0 : Nat) : ic_C yX9_init cX9_init 2 1 1 20 [.ref h0, .int 20] (fun _ => [(h0, .inr (9, [.null, .int 0]))]) (po_X9_20 h0) := by
  refine ic_C.of (by decide +kernel) (Nat.le_of_ble_eq_true rfl) ?_
  intro p l e s m below meth c dC dI ka A E hnm hrt hlk
  have hnm : meth.name = "<init>" := hnm
  refine ic_nlv (lv' := [(0, .ref h0), (1, .int 20)]) rfl ?_
  refine ic_nrm (ws' := [(h0, .inr (9, [.null, .int 0]))]) (cs' := 0) (sl' := 0) rfl rfl rfl ?_
  refine ic_aload_n (pc' := 1) E dX9_init_0 rfl rfl ?_
  refine ic_obj (pc' := 4) E dX9_init_1 rfl wi_236 wi_25 wi_26 (Nat.le_of_ble_eq_true rfl) (Nat.le_of_ble_eq_true rfl) ?_
  refine ic_aload_n (pc' := 5) E dX9_init_4 rfl rfl ?_
  refine ic_iconst (pc' := 6) 0 E dX9_init_5 rfl (by decide +kernel) ?_
  refine ic_put (pc' := 9) (ws' := [(h0, .inr (9, [.null, .int 0]))]) 0 E hnm dX9_init_6 rfl ip_RX9_9 rfl rfl rfl (Nat.le_of_ble_eq_true rfl) rfl ?_
  refine ic_aload_n (pc' := 10) E dX9_init_9 rfl rfl ?_
  refine ic_iload_n (pc' := 11) E dX9_init_10 rfl rfl ?_
  refine ic_iconst (pc' := 12) 0 E dX9_init_11 rfl (by decide +kernel) ?_
  refine ic_max (pc' := 15) 20 E dX9_init_12 rfl wm_237 wm_238 wm_9 wm_239 (Nat.le_of_ble_eq_true rfl) (Nat.le_of_ble_eq_true rfl) (Nat.le_of_ble_eq_true rfl) (Nat.le_of_ble_eq_true rfl) (by decide +kernel) ?_
  refine ic_newI (pc' := 17) (N := 20) E dX9_init_15 rfl wi_51 (by decide +kernel) (by decide +kernel) (Nat.le_of_ble_eq_true rfl) (Nat.le_of_ble_eq_true rfl) (Nat.le_of_ble_eq_true rfl) (fun q0_9 => ?_)
  refine ic_nrm (ws' := [(h0, .inr (9, [.null, .int 0])), (q0_9, .inl (ka 1, 20, .inl (fun _ => 0)))]) (cs' := 1) (sl' := 20) rfl rfl rfl ?_
  refine ic_put (pc' := 20) (ws' := [(h0, .inr (9, [.ref q0_9, .int 0])), (q0_9, .inl (ka 1, 20, .inl (fun _ => 0)))]) 0 E hnm dX9_init_17 rfl ip_RX9_21 rfl rfl rfl (Nat.le_of_ble_eq_true rfl) rfl ?_
  exact ic_ret E hrt hlk dX9_init_20 (Nat.le_of_ble_eq_true rfl) (Nat.le_of_ble_eq_true rfl) ⟨q0_9, rfl⟩
abbrev po_X10 (h0 : Nat) (ka : Nat → ClassId) (w1 : va_W) : Prop := ∃ q0_10 q1_10 : Nat, w1 = [(h0, .inr (10, [.int 0, .ref q0_10, .ref q1_10])), (q0_10, .inl (ka 3, 36, .inl (fun _ => 0))), (q1_10, .inl (ka 1, 144, .inl (fun _ => 0)))]
set_option maxRecDepth 100000 in
set_option maxHeartbeats 4000000 in
theorem co_X10 (h0 : Nat) : ic_C yX10_init cX10_init 1 1 2 180 [.ref h0] (fun _ => [(h0, .inr (10, [.int 0, .null, .null]))]) (po_X10 h0) := by
  refine ic_C.of (by decide +kernel) (Nat.le_of_ble_eq_true rfl) ?_
  intro p l e s m below meth c dC dI ka A E hnm hrt hlk
  have hnm : meth.name = "<init>" := hnm
  refine ic_nlv (lv' := [(0, .ref h0)]) rfl ?_
  refine ic_nrm (ws' := [(h0, .inr (10, [.int 0, .null, .null]))]) (cs' := 0) (sl' := 0) rfl rfl rfl ?_
  refine ic_aload_n (pc' := 1) E dX10_init_0 rfl rfl ?_
  refine ic_obj (pc' := 4) E dX10_init_1 rfl wi_34 wi_25 wi_26 (Nat.le_of_ble_eq_true rfl) (Nat.le_of_ble_eq_true rfl) ?_
  refine ic_aload_n (pc' := 5) E dX10_init_4 rfl rfl ?_
  refine ic_iconst (pc' := 6) 0 E dX10_init_5 rfl (by decide +kernel) ?_
  refine ic_put (pc' := 9) (ws' := [(h0, .inr (10, [.int 0, .null, .null]))]) 0 E hnm dX10_init_6 rfl ip_RX10_9 rfl rfl rfl (Nat.le_of_ble_eq_true rfl) rfl ?_
  refine ic_aload_n (pc' := 10) E dX10_init_9 rfl rfl ?_
  refine ic_bipush (pc' := 12) 36 E dX10_init_10 rfl (by decide +kernel) ?_
  refine ic_newZ (pc' := 14) (N := 36) E dX10_init_12 rfl wi_52 (by decide +kernel) (by decide +kernel) (Nat.le_of_ble_eq_true rfl) (Nat.le_of_ble_eq_true rfl) (Nat.le_of_ble_eq_true rfl) (fun q0_10 => ?_)
  refine ic_nrm (ws' := [(h0, .inr (10, [.int 0, .null, .null])), (q0_10, .inl (ka 3, 36, .inl (fun _ => 0)))]) (cs' := 1) (sl' := 36) rfl rfl rfl ?_
  refine ic_put (pc' := 17) (ws' := [(h0, .inr (10, [.int 0, .ref q0_10, .null])), (q0_10, .inl (ka 3, 36, .inl (fun _ => 0)))]) 0 E hnm dX10_init_14 rfl ip_RX10_15 rfl rfl rfl (Nat.le_of_ble_eq_true rfl) rfl ?_
  refine ic_aload_n (pc' := 18) E dX10_init_17 rfl rfl ?_
  refine ic_sipush (pc' := 21) 144 E dX10_init_18 rfl (by decide +kernel) ?_
  refine ic_newI (pc' := 23) (N := 144) E dX10_init_21 rfl wi_51 (by decide +kernel) (by decide +kernel) (Nat.le_of_ble_eq_true rfl) (Nat.le_of_ble_eq_true rfl) (Nat.le_of_ble_eq_true rfl) (fun q1_10 => ?_)
  refine ic_nrm (ws' := [(h0, .inr (10, [.int 0, .ref q0_10, .null])), (q0_10, .inl (ka 3, 36, .inl (fun _ => 0))), (q1_10, .inl (ka 1, 144, .inl (fun _ => 0)))]) (cs' := 2) (sl' := 180) rfl rfl rfl ?_
  refine ic_put (pc' := 26) (ws' := [(h0, .inr (10, [.int 0, .ref q0_10, .ref q1_10])), (q0_10, .inl (ka 3, 36, .inl (fun _ => 0))), (q1_10, .inl (ka 1, 144, .inl (fun _ => 0)))]) 0 E hnm dX10_init_23 rfl ip_RX10_19 rfl rfl rfl (Nat.le_of_ble_eq_true rfl) rfl ?_
  exact ic_ret E hrt hlk dX10_init_26 (Nat.le_of_ble_eq_true rfl) (Nat.le_of_ble_eq_true rfl) ⟨q0_10, q1_10, rfl⟩
abbrev po_X4 (h0 : Nat) (ka : Nat → ClassId) (w1 : va_W) : Prop := ∃ q0_4 q1_4 q2_4 q3_4 q4_4 q5_4 q6_4 q7_4 q8_4 : Nat, w1 = [(h0, .inr (4, [.int 0, .ref q0_4, .ref q1_4, .ref q2_4, .ref q3_4, .ref q4_4, .int 0, .ref q5_4, .ref q6_4, .ref q7_4, .ref q8_4, .int 2])), (q0_4, .inl (ka 1, 8, .inl (fun _ => 0))), (q1_4, .inl (ka 1, 8, .inl (fun _ => 0))), (q2_4, .inl (ka 1, 8, .inl (fun _ => 0))), (q3_4, .inl (ka 1, 8, .inl (fun _ => 0))), (q4_4, .inl (ka 1, 8, .inl (fun _ => 0))), (q5_4, .inl (ka 1, 8, .inl (fun _ => 0))), (q6_4, .inl (ka 1, 8, .inl (fun _ => 0))), (q7_4, .inl (ka 1, 8, .inl (fun _ => 0))), (q8_4, .inl (ka 1, 20, .inl fW20))]
set_option maxRecDepth 100000 in
set_option maxHeartbeats 4000000 in
theorem co_X4 (h0 : Nat) : ic_C yX4_init cX4_init 1 1 9 84 [.ref h0] (fun _ => [(h0, .inr (4, [.int 0, .null, .null, .null, .null, .null, .int 0, .null, .null, .null, .null, .int 0]))]) (po_X4 h0) := by
  refine ic_C.of (by decide +kernel) (Nat.le_of_ble_eq_true rfl) ?_
  intro p l e s m below meth c dC dI ka A E hnm hrt hlk
  have hnm : meth.name = "<init>" := hnm
  refine ic_nlv (lv' := [(0, .ref h0)]) rfl ?_
  refine ic_nrm (ws' := [(h0, .inr (4, [.int 0, .null, .null, .null, .null, .null, .int 0, .null, .null, .null, .null, .int 0]))]) (cs' := 0) (sl' := 0) rfl rfl rfl ?_
  refine ic_aload_n (pc' := 1) E dX4_init_0 rfl rfl ?_
  refine ic_obj (pc' := 4) E dX4_init_1 rfl wi_58 wi_25 wi_26 (Nat.le_of_ble_eq_true rfl) (Nat.le_of_ble_eq_true rfl) ?_
  refine ic_aload_n (pc' := 5) E dX4_init_4 rfl rfl ?_
  refine ic_iconst (pc' := 6) 0 E dX4_init_5 rfl (by decide +kernel) ?_
  refine ic_put (pc' := 9) (ws' := [(h0, .inr (4, [.int 0, .null, .null, .null, .null, .null, .int 0, .null, .null, .null, .null, .int 0]))]) 0 E hnm dX4_init_6 rfl ip_RX4_9 rfl rfl rfl (Nat.le_of_ble_eq_true rfl) rfl ?_
  refine ic_aload_n (pc' := 10) E dX4_init_9 rfl rfl ?_
  refine ic_bipush (pc' := 12) 8 E dX4_init_10 rfl (by decide +kernel) ?_
  refine ic_newI (pc' := 14) (N := 8) E dX4_init_12 rfl wi_51 (by decide +kernel) (by decide +kernel) (Nat.le_of_ble_eq_true rfl) (Nat.le_of_ble_eq_true rfl) (Nat.le_of_ble_eq_true rfl) (fun q0_4 => ?_)
  refine ic_nrm (ws' := [(h0, .inr (4, [.int 0, .null, .null, .null, .null, .null, .int 0, .null, .null, .null, .null, .int 0])), (q0_4, .inl (ka 1, 8, .inl (fun _ => 0)))]) (cs' := 1) (sl' := 8) rfl rfl rfl ?_
  refine ic_put (pc' := 17) (ws' := [(h0, .inr (4, [.int 0, .ref q0_4, .null, .null, .null, .null, .int 0, .null, .null, .null, .null, .int 0])), (q0_4, .inl (ka 1, 8, .inl (fun _ => 0)))]) 0 E hnm dX4_init_14 rfl ip_RX4_15 rfl rfl rfl (Nat.le_of_ble_eq_true rfl) rfl ?_
  refine ic_aload_n (pc' := 18) E dX4_init_17 rfl rfl ?_
  refine ic_bipush (pc' := 20) 8 E dX4_init_18 rfl (by decide +kernel) ?_
  refine ic_newI (pc' := 22) (N := 8) E dX4_init_20 rfl wi_51 (by decide +kernel) (by decide +kernel) (Nat.le_of_ble_eq_true rfl) (Nat.le_of_ble_eq_true rfl) (Nat.le_of_ble_eq_true rfl) (fun q1_4 => ?_)
  refine ic_nrm (ws' := [(h0, .inr (4, [.int 0, .ref q0_4, .null, .null, .null, .null, .int 0, .null, .null, .null, .null, .int 0])), (q0_4, .inl (ka 1, 8, .inl (fun _ => 0))), (q1_4, .inl (ka 1, 8, .inl (fun _ => 0)))]) (cs' := 2) (sl' := 16) rfl rfl rfl ?_
  refine ic_put (pc' := 25) (ws' := [(h0, .inr (4, [.int 0, .ref q0_4, .ref q1_4, .null, .null, .null, .int 0, .null, .null, .null, .null, .int 0])), (q0_4, .inl (ka 1, 8, .inl (fun _ => 0))), (q1_4, .inl (ka 1, 8, .inl (fun _ => 0)))]) 0 E hnm dX4_init_22 rfl ip_RX4_19 rfl rfl rfl (Nat.le_of_ble_eq_true rfl) rfl ?_
  refine ic_aload_n (pc' := 26) E dX4_init_25 rfl rfl ?_
  refine ic_bipush (pc' := 28) 8 E dX4_init_26 rfl (by decide +kernel) ?_
  refine ic_newI (pc' := 30) (N := 8) E dX4_init_28 rfl wi_51 (by decide +kernel) (by decide +kernel) (Nat.le_of_ble_eq_true rfl) (Nat.le_of_ble_eq_true rfl) (Nat.le_of_ble_eq_true rfl) (fun q2_4 => ?_)
  refine ic_nrm (ws' := [(h0, .inr (4, [.int 0, .ref q0_4, .ref q1_4, .null, .null, .null, .int 0, .null, .null, .null, .null, .int 0])), (q0_4, .inl (ka 1, 8, .inl (fun _ => 0))), (q1_4, .inl (ka 1, 8, .inl (fun _ => 0))), (q2_4, .inl (ka 1, 8, .inl (fun _ => 0)))]) (cs' := 3) (sl' := 24) rfl rfl rfl ?_
  refine ic_put (pc' := 33) (ws' := [(h0, .inr (4, [.int 0, .ref q0_4, .ref q1_4, .ref q2_4, .null, .null, .int 0, .null, .null, .null, .null, .int 0])), (q0_4, .inl (ka 1, 8, .inl (fun _ => 0))), (q1_4, .inl (ka 1, 8, .inl (fun _ => 0))), (q2_4, .inl (ka 1, 8, .inl (fun _ => 0)))]) 0 E hnm dX4_init_30 rfl ip_RX4_22 rfl rfl rfl (Nat.le_of_ble_eq_true rfl) rfl ?_
  refine ic_aload_n (pc' := 34) E dX4_init_33 rfl rfl ?_
  refine ic_bipush (pc' := 36) 8 E dX4_init_34 rfl (by decide +kernel) ?_
  refine ic_newI (pc' := 38) (N := 8) E dX4_init_36 rfl wi_51 (by decide +kernel) (by decide +kernel) (Nat.le_of_ble_eq_true rfl) (Nat.le_of_ble_eq_true rfl) (Nat.le_of_ble_eq_true rfl) (fun q3_4 => ?_)
  refine ic_nrm (ws' := [(h0, .inr (4, [.int 0, .ref q0_4, .ref q1_4, .ref q2_4, .null, .null, .int 0, .null, .null, .null, .null, .int 0])), (q0_4, .inl (ka 1, 8, .inl (fun _ => 0))), (q1_4, .inl (ka 1, 8, .inl (fun _ => 0))), (q2_4, .inl (ka 1, 8, .inl (fun _ => 0))), (q3_4, .inl (ka 1, 8, .inl (fun _ => 0)))]) (cs' := 4) (sl' := 32) rfl rfl rfl ?_
  refine ic_put (pc' := 41) (ws' := [(h0, .inr (4, [.int 0, .ref q0_4, .ref q1_4, .ref q2_4, .ref q3_4, .null, .int 0, .null, .null, .null, .null, .int 0])), (q0_4, .inl (ka 1, 8, .inl (fun _ => 0))), (q1_4, .inl (ka 1, 8, .inl (fun _ => 0))), (q2_4, .inl (ka 1, 8, .inl (fun _ => 0))), (q3_4, .inl (ka 1, 8, .inl (fun _ => 0)))]) 0 E hnm dX4_init_38 rfl ip_RX4_25 rfl rfl rfl (Nat.le_of_ble_eq_true rfl) rfl ?_
  refine ic_aload_n (pc' := 42) E dX4_init_41 rfl rfl ?_
  refine ic_bipush (pc' := 44) 8 E dX4_init_42 rfl (by decide +kernel) ?_
  refine ic_newI (pc' := 46) (N := 8) E dX4_init_44 rfl wi_51 (by decide +kernel) (by decide +kernel) (Nat.le_of_ble_eq_true rfl) (Nat.le_of_ble_eq_true rfl) (Nat.le_of_ble_eq_true rfl) (fun q4_4 => ?_)
  refine ic_nrm (ws' := [(h0, .inr (4, [.int 0, .ref q0_4, .ref q1_4, .ref q2_4, .ref q3_4, .null, .int 0, .null, .null, .null, .null, .int 0])), (q0_4, .inl (ka 1, 8, .inl (fun _ => 0))), (q1_4, .inl (ka 1, 8, .inl (fun _ => 0))), (q2_4, .inl (ka 1, 8, .inl (fun _ => 0))), (q3_4, .inl (ka 1, 8, .inl (fun _ => 0))), (q4_4, .inl (ka 1, 8, .inl (fun _ => 0)))]) (cs' := 5) (sl' := 40) rfl rfl rfl ?_
  refine ic_put (pc' := 49) (ws' := [(h0, .inr (4, [.int 0, .ref q0_4, .ref q1_4, .ref q2_4, .ref q3_4, .ref q4_4, .int 0, .null, .null, .null, .null, .int 0])), (q0_4, .inl (ka 1, 8, .inl (fun _ => 0))), (q1_4, .inl (ka 1, 8, .inl (fun _ => 0))), (q2_4, .inl (ka 1, 8, .inl (fun _ => 0))), (q3_4, .inl (ka 1, 8, .inl (fun _ => 0))), (q4_4, .inl (ka 1, 8, .inl (fun _ => 0)))]) 0 E hnm dX4_init_46 rfl ip_RX4_28 rfl rfl rfl (Nat.le_of_ble_eq_true rfl) rfl ?_
  refine ic_aload_n (pc' := 50) E dX4_init_49 rfl rfl ?_
  refine ic_iconst (pc' := 51) 0 E dX4_init_50 rfl (by decide +kernel) ?_
  refine ic_put (pc' := 54) (ws' := [(h0, .inr (4, [.int 0, .ref q0_4, .ref q1_4, .ref q2_4, .ref q3_4, .ref q4_4, .int 0, .null, .null, .null, .null, .int 0])), (q0_4, .inl (ka 1, 8, .inl (fun _ => 0))), (q1_4, .inl (ka 1, 8, .inl (fun _ => 0))), (q2_4, .inl (ka 1, 8, .inl (fun _ => 0))), (q3_4, .inl (ka 1, 8, .inl (fun _ => 0))), (q4_4, .inl (ka 1, 8, .inl (fun _ => 0)))]) 0 E hnm dX4_init_51 rfl ip_RX4_31 rfl rfl rfl (Nat.le_of_ble_eq_true rfl) rfl ?_
  refine ic_aload_n (pc' := 55) E dX4_init_54 rfl rfl ?_
  refine ic_bipush (pc' := 57) 8 E dX4_init_55 rfl (by decide +kernel) ?_
  refine ic_newI (pc' := 59) (N := 8) E dX4_init_57 rfl wi_51 (by decide +kernel) (by decide +kernel) (Nat.le_of_ble_eq_true rfl) (Nat.le_of_ble_eq_true rfl) (Nat.le_of_ble_eq_true rfl) (fun q5_4 => ?_)
  refine ic_nrm (ws' := [(h0, .inr (4, [.int 0, .ref q0_4, .ref q1_4, .ref q2_4, .ref q3_4, .ref q4_4, .int 0, .null, .null, .null, .null, .int 0])), (q0_4, .inl (ka 1, 8, .inl (fun _ => 0))), (q1_4, .inl (ka 1, 8, .inl (fun _ => 0))), (q2_4, .inl (ka 1, 8, .inl (fun _ => 0))), (q3_4, .inl (ka 1, 8, .inl (fun _ => 0))), (q4_4, .inl (ka 1, 8, .inl (fun _ => 0))), (q5_4, .inl (ka 1, 8, .inl (fun _ => 0)))]) (cs' := 6) (sl' := 48) rfl rfl rfl ?_
  refine ic_put (pc' := 62) (ws' := [(h0, .inr (4, [.int 0, .ref q0_4, .ref q1_4, .ref q2_4, .ref q3_4, .ref q4_4, .int 0, .ref q5_4, .null, .null, .null, .int 0])), (q0_4, .inl (ka 1, 8, .inl (fun _ => 0))), (q1_4, .inl (ka 1, 8, .inl (fun _ => 0))), (q2_4, .inl (ka 1, 8, .inl (fun _ => 0))), (q3_4, .inl (ka 1, 8, .inl (fun _ => 0))), (q4_4, .inl (ka 1, 8, .inl (fun _ => 0))), (q5_4, .inl (ka 1, 8, .inl (fun _ => 0)))]) 0 E hnm dX4_init_59 rfl ip_RX4_34 rfl rfl rfl (Nat.le_of_ble_eq_true rfl) rfl ?_
  refine ic_aload_n (pc' := 63) E dX4_init_62 rfl rfl ?_
  refine ic_bipush (pc' := 65) 8 E dX4_init_63 rfl (by decide +kernel) ?_
  refine ic_newI (pc' := 67) (N := 8) E dX4_init_65 rfl wi_51 (by decide +kernel) (by decide +kernel) (Nat.le_of_ble_eq_true rfl) (Nat.le_of_ble_eq_true rfl) (Nat.le_of_ble_eq_true rfl) (fun q6_4 => ?_)
  refine ic_nrm (ws' := [(h0, .inr (4, [.int 0, .ref q0_4, .ref q1_4, .ref q2_4, .ref q3_4, .ref q4_4, .int 0, .ref q5_4, .null, .null, .null, .int 0])), (q0_4, .inl (ka 1, 8, .inl (fun _ => 0))), (q1_4, .inl (ka 1, 8, .inl (fun _ => 0))), (q2_4, .inl (ka 1, 8, .inl (fun _ => 0))), (q3_4, .inl (ka 1, 8, .inl (fun _ => 0))), (q4_4, .inl (ka 1, 8, .inl (fun _ => 0))), (q5_4, .inl (ka 1, 8, .inl (fun _ => 0))), (q6_4, .inl (ka 1, 8, .inl (fun _ => 0)))]) (cs' := 7) (sl' := 56) rfl rfl rfl ?_
  refine ic_put (pc' := 70) (ws' := [(h0, .inr (4, [.int 0, .ref q0_4, .ref q1_4, .ref q2_4, .ref q3_4, .ref q4_4, .int 0, .ref q5_4, .ref q6_4, .null, .null, .int 0])), (q0_4, .inl (ka 1, 8, .inl (fun _ => 0))), (q1_4, .inl (ka 1, 8, .inl (fun _ => 0))), (q2_4, .inl (ka 1, 8, .inl (fun _ => 0))), (q3_4, .inl (ka 1, 8, .inl (fun _ => 0))), (q4_4, .inl (ka 1, 8, .inl (fun _ => 0))), (q5_4, .inl (ka 1, 8, .inl (fun _ => 0))), (q6_4, .inl (ka 1, 8, .inl (fun _ => 0)))]) 0 E hnm dX4_init_67 rfl ip_RX4_37 rfl rfl rfl (Nat.le_of_ble_eq_true rfl) rfl ?_
  refine ic_aload_n (pc' := 71) E dX4_init_70 rfl rfl ?_
  refine ic_bipush (pc' := 73) 8 E dX4_init_71 rfl (by decide +kernel) ?_
  refine ic_newI (pc' := 75) (N := 8) E dX4_init_73 rfl wi_51 (by decide +kernel) (by decide +kernel) (Nat.le_of_ble_eq_true rfl) (Nat.le_of_ble_eq_true rfl) (Nat.le_of_ble_eq_true rfl) (fun q7_4 => ?_)
  refine ic_nrm (ws' := [(h0, .inr (4, [.int 0, .ref q0_4, .ref q1_4, .ref q2_4, .ref q3_4, .ref q4_4, .int 0, .ref q5_4, .ref q6_4, .null, .null, .int 0])), (q0_4, .inl (ka 1, 8, .inl (fun _ => 0))), (q1_4, .inl (ka 1, 8, .inl (fun _ => 0))), (q2_4, .inl (ka 1, 8, .inl (fun _ => 0))), (q3_4, .inl (ka 1, 8, .inl (fun _ => 0))), (q4_4, .inl (ka 1, 8, .inl (fun _ => 0))), (q5_4, .inl (ka 1, 8, .inl (fun _ => 0))), (q6_4, .inl (ka 1, 8, .inl (fun _ => 0))), (q7_4, .inl (ka 1, 8, .inl (fun _ => 0)))]) (cs' := 8) (sl' := 64) rfl rfl rfl ?_
  refine ic_put (pc' := 78) (ws' := [(h0, .inr (4, [.int 0, .ref q0_4, .ref q1_4, .ref q2_4, .ref q3_4, .ref q4_4, .int 0, .ref q5_4, .ref q6_4, .ref q7_4, .null, .int 0])), (q0_4, .inl (ka 1, 8, .inl (fun _ => 0))), (q1_4, .inl (ka 1, 8, .inl (fun _ => 0))), (q2_4, .inl (ka 1, 8, .inl (fun _ => 0))), (q3_4, .inl (ka 1, 8, .inl (fun _ => 0))), (q4_4, .inl (ka 1, 8, .inl (fun _ => 0))), (q5_4, .inl (ka 1, 8, .inl (fun _ => 0))), (q6_4, .inl (ka 1, 8, .inl (fun _ => 0))), (q7_4, .inl (ka 1, 8, .inl (fun _ => 0)))]) 0 E hnm dX4_init_75 rfl ip_RX4_40 rfl rfl rfl (Nat.le_of_ble_eq_true rfl) rfl ?_
  refine ic_aload_n (pc' := 79) E dX4_init_78 rfl rfl ?_
  refine ic_bipush (pc' := 81) 20 E dX4_init_79 rfl (by decide +kernel) ?_
  refine ic_newI (pc' := 83) (N := 20) E dX4_init_81 rfl wi_51 (by decide +kernel) (by decide +kernel) (Nat.le_of_ble_eq_true rfl) (Nat.le_of_ble_eq_true rfl) (Nat.le_of_ble_eq_true rfl) (fun q8_4 => ?_)
  refine ic_nrm (ws' := [(h0, .inr (4, [.int 0, .ref q0_4, .ref q1_4, .ref q2_4, .ref q3_4, .ref q4_4, .int 0, .ref q5_4, .ref q6_4, .ref q7_4, .null, .int 0])), (q0_4, .inl (ka 1, 8, .inl (fun _ => 0))), (q1_4, .inl (ka 1, 8, .inl (fun _ => 0))), (q2_4, .inl (ka 1, 8, .inl (fun _ => 0))), (q3_4, .inl (ka 1, 8, .inl (fun _ => 0))), (q4_4, .inl (ka 1, 8, .inl (fun _ => 0))), (q5_4, .inl (ka 1, 8, .inl (fun _ => 0))), (q6_4, .inl (ka 1, 8, .inl (fun _ => 0))), (q7_4, .inl (ka 1, 8, .inl (fun _ => 0))), (q8_4, .inl (ka 1, 20, .inl (fun _ => 0)))]) (cs' := 9) (sl' := 84) rfl rfl rfl ?_
  refine ic_put (pc' := 86) (ws' := [(h0, .inr (4, [.int 0, .ref q0_4, .ref q1_4, .ref q2_4, .ref q3_4, .ref q4_4, .int 0, .ref q5_4, .ref q6_4, .ref q7_4, .ref q8_4, .int 0])), (q0_4, .inl (ka 1, 8, .inl (fun _ => 0))), (q1_4, .inl (ka 1, 8, .inl (fun _ => 0))), (q2_4, .inl (ka 1, 8, .inl (fun _ => 0))), (q3_4, .inl (ka 1, 8, .inl (fun _ => 0))), (q4_4, .inl (ka 1, 8, .inl (fun _ => 0))), (q5_4, .inl (ka 1, 8, .inl (fun _ => 0))), (q6_4, .inl (ka 1, 8, .inl (fun _ => 0))), (q7_4, .inl (ka 1, 8, .inl (fun _ => 0))), (q8_4, .inl (ka 1, 20, .inl (fun _ => 0)))]) 0 E hnm dX4_init_83 rfl ip_RX4_43 rfl rfl rfl (Nat.le_of_ble_eq_true rfl) rfl ?_
  refine ic_aload_n (pc' := 87) E dX4_init_86 rfl rfl ?_
  refine ic_iconst (pc' := 88) 2 E dX4_init_87 rfl (by decide +kernel) ?_
  refine ic_put (pc' := 91) (ws' := [(h0, .inr (4, [.int 0, .ref q0_4, .ref q1_4, .ref q2_4, .ref q3_4, .ref q4_4, .int 0, .ref q5_4, .ref q6_4, .ref q7_4, .ref q8_4, .int 2])), (q0_4, .inl (ka 1, 8, .inl (fun _ => 0))), (q1_4, .inl (ka 1, 8, .inl (fun _ => 0))), (q2_4, .inl (ka 1, 8, .inl (fun _ => 0))), (q3_4, .inl (ka 1, 8, .inl (fun _ => 0))), (q4_4, .inl (ka 1, 8, .inl (fun _ => 0))), (q5_4, .inl (ka 1, 8, .inl (fun _ => 0))), (q6_4, .inl (ka 1, 8, .inl (fun _ => 0))), (q7_4, .inl (ka 1, 8, .inl (fun _ => 0))), (q8_4, .inl (ka 1, 20, .inl (fun _ => 0)))]) 0 E hnm dX4_init_88 rfl ip_RX4_46 rfl rfl rfl (Nat.le_of_ble_eq_true rfl) rfl ?_
  refine ic_aload_n (pc' := 92) E dX4_init_91 rfl rfl ?_
  refine ic_get (pc' := 95) (v := .ref q8_4) 0 E dX4_init_92 rfl ip_RX4_43 rfl rfl ?_
  refine ic_iconst (pc' := 96) (-1) E dX4_init_95 rfl (by decide +kernel) ?_
  refine ic_callS (pc' := 99) (av := [.ref q8_4, .int (-1)]) (wr := [(h0, .inr (4, [.int 0, .ref q0_4, .ref q1_4, .ref q2_4, .ref q3_4, .ref q4_4, .int 0, .ref q5_4, .ref q6_4, .ref q7_4, .ref q8_4, .int 2])), (q0_4, .inl (ka 1, 8, .inl (fun _ => 0))), (q1_4, .inl (ka 1, 8, .inl (fun _ => 0))), (q2_4, .inl (ka 1, 8, .inl (fun _ => 0))), (q3_4, .inl (ka 1, 8, .inl (fun _ => 0))), (q4_4, .inl (ka 1, 8, .inl (fun _ => 0))), (q5_4, .inl (ka 1, 8, .inl (fun _ => 0))), (q6_4, .inl (ka 1, 8, .inl (fun _ => 0))), (q7_4, .inl (ka 1, 8, .inl (fun _ => 0)))]) [9] [0, 1, 2, 3, 4, 5, 6, 7, 8] E dX4_init_96 rfl is_X4_49 (co_fill q8_4) rfl ⟨Nat.le_of_ble_eq_true rfl, Nat.le_of_ble_eq_true rfl⟩ (Nat.le_of_ble_eq_true rfl) ⟨Nat.le_of_ble_eq_true rfl, Nat.le_of_ble_eq_true rfl⟩ rfl rfl (by decide +kernel) (by decide +kernel) (by decide +kernel) (fun w1 hp => ?_)
  obtain rfl := hp
  refine ic_nrm (ws' := [(h0, .inr (4, [.int 0, .ref q0_4, .ref q1_4, .ref q2_4, .ref q3_4, .ref q4_4, .int 0, .ref q5_4, .ref q6_4, .ref q7_4, .ref q8_4, .int 2])), (q0_4, .inl (ka 1, 8, .inl (fun _ => 0))), (q1_4, .inl (ka 1, 8, .inl (fun _ => 0))), (q2_4, .inl (ka 1, 8, .inl (fun _ => 0))), (q3_4, .inl (ka 1, 8, .inl (fun _ => 0))), (q4_4, .inl (ka 1, 8, .inl (fun _ => 0))), (q5_4, .inl (ka 1, 8, .inl (fun _ => 0))), (q6_4, .inl (ka 1, 8, .inl (fun _ => 0))), (q7_4, .inl (ka 1, 8, .inl (fun _ => 0))), (q8_4, .inl (ka 1, 20, .inl fW20))]) (cs' := 9) (sl' := 84) rfl rfl rfl ?_
  exact ic_ret E hrt hlk dX4_init_99 (Nat.le_of_ble_eq_true rfl) (Nat.le_of_ble_eq_true rfl) ⟨q0_4, q1_4, q2_4, q3_4, q4_4, q5_4, q6_4, q7_4, q8_4, rfl⟩
abbrev po_X6 (h0 v1 : Nat) (ka : Nat → ClassId) (w1 : va_W) : Prop := ∃ q0_6 q1_6 q2_6 q3_6 q4_6 q5_6 q6_6 : Nat, w1 = [(h0, .inr (6, [.ref v1, .ref q0_6, .ref q1_6, .ref q2_6, .ref q3_6, .ref q4_6, .ref q5_6, .ref q6_6, .int 0, .int 0, .int (-1), .int 0, .long 0])), (q0_6, .inl (ka 1, 8, .inl (fun _ => 0))), (q1_6, .inl (ka 1, 8, .inl (fun _ => 0))), (q2_6, .inl (ka 1, 8, .inl (fun _ => 0))), (q3_6, .inl (ka 1, 8, .inl (fun _ => 0))), (q4_6, .inl (ka 1, 8, .inl (fun _ => 0))), (q5_6, .inl (ka 1, 8, .inl (fun _ => 0))), (q6_6, .inl (ka 1, 8, .inl (fun _ => 0)))]
set_option maxRecDepth 100000 in
set_option maxHeartbeats 4000000 in
theorem co_X6 (h0 v1 : Nat) : ic_C yX6_init cX6_init 2 1 7 56 [.ref h0, .ref v1] (fun _ => [(h0, .inr (6, [.null, .null, .null, .null, .null, .null, .null, .null, .int 0, .int 0, .int 0, .int 0, .long 0]))]) (po_X6 h0 v1) := by
  refine ic_C.of (by decide +kernel) (Nat.le_of_ble_eq_true rfl) ?_
  intro p l e s m below meth c dC dI ka A E hnm hrt hlk
  have hnm : meth.name = "<init>" := hnm
  refine ic_nlv (lv' := [(0, .ref h0), (1, .ref v1)]) rfl ?_
  refine ic_nrm (ws' := [(h0, .inr (6, [.null, .null, .null, .null, .null, .null, .null, .null, .int 0, .int 0, .int 0, .int 0, .long 0]))]) (cs' := 0) (sl' := 0) rfl rfl rfl ?_
  refine ic_aload_n (pc' := 1) E dX6_init_0 rfl rfl ?_
  refine ic_obj (pc' := 4) E dX6_init_1 rfl wi_143 wi_25 wi_26 (Nat.le_of_ble_eq_true rfl) (Nat.le_of_ble_eq_true rfl) ?_
  refine ic_aload_n (pc' := 5) E dX6_init_4 rfl rfl ?_
  refine ic_bipush (pc' := 7) 8 E dX6_init_5 rfl (by decide +kernel) ?_
  refine ic_newI (pc' := 9) (N := 8) E dX6_init_7 rfl wi_51 (by decide +kernel) (by decide +kernel) (Nat.le_of_ble_eq_true rfl) (Nat.le_of_ble_eq_true rfl) (Nat.le_of_ble_eq_true rfl) (fun q0_6 => ?_)
  refine ic_nrm (ws' := [(h0, .inr (6, [.null, .null, .null, .null, .null, .null, .null, .null, .int 0, .int 0, .int 0, .int 0, .long 0])), (q0_6, .inl (ka 1, 8, .inl (fun _ => 0)))]) (cs' := 1) (sl' := 8) rfl rfl rfl ?_
  refine ic_put (pc' := 12) (ws' := [(h0, .inr (6, [.null, .ref q0_6, .null, .null, .null, .null, .null, .null, .int 0, .int 0, .int 0, .int 0, .long 0])), (q0_6, .inl (ka 1, 8, .inl (fun _ => 0)))]) 0 E hnm dX6_init_9 rfl ip_RX6_9 rfl rfl rfl (Nat.le_of_ble_eq_true rfl) rfl ?_
  refine ic_aload_n (pc' := 13) E dX6_init_12 rfl rfl ?_
  refine ic_bipush (pc' := 15) 8 E dX6_init_13 rfl (by decide +kernel) ?_
  refine ic_newI (pc' := 17) (N := 8) E dX6_init_15 rfl wi_51 (by decide +kernel) (by decide +kernel) (Nat.le_of_ble_eq_true rfl) (Nat.le_of_ble_eq_true rfl) (Nat.le_of_ble_eq_true rfl) (fun q1_6 => ?_)
  refine ic_nrm (ws' := [(h0, .inr (6, [.null, .ref q0_6, .null, .null, .null, .null, .null, .null, .int 0, .int 0, .int 0, .int 0, .long 0])), (q0_6, .inl (ka 1, 8, .inl (fun _ => 0))), (q1_6, .inl (ka 1, 8, .inl (fun _ => 0)))]) (cs' := 2) (sl' := 16) rfl rfl rfl ?_
  refine ic_put (pc' := 20) (ws' := [(h0, .inr (6, [.null, .ref q0_6, .ref q1_6, .null, .null, .null, .null, .null, .int 0, .int 0, .int 0, .int 0, .long 0])), (q0_6, .inl (ka 1, 8, .inl (fun _ => 0))), (q1_6, .inl (ka 1, 8, .inl (fun _ => 0)))]) 0 E hnm dX6_init_17 rfl ip_RX6_15 rfl rfl rfl (Nat.le_of_ble_eq_true rfl) rfl ?_
  refine ic_aload_n (pc' := 21) E dX6_init_20 rfl rfl ?_
  refine ic_bipush (pc' := 23) 8 E dX6_init_21 rfl (by decide +kernel) ?_
  refine ic_newI (pc' := 25) (N := 8) E dX6_init_23 rfl wi_51 (by decide +kernel) (by decide +kernel) (Nat.le_of_ble_eq_true rfl) (Nat.le_of_ble_eq_true rfl) (Nat.le_of_ble_eq_true rfl) (fun q2_6 => ?_)
  refine ic_nrm (ws' := [(h0, .inr (6, [.null, .ref q0_6, .ref q1_6, .null, .null, .null, .null, .null, .int 0, .int 0, .int 0, .int 0, .long 0])), (q0_6, .inl (ka 1, 8, .inl (fun _ => 0))), (q1_6, .inl (ka 1, 8, .inl (fun _ => 0))), (q2_6, .inl (ka 1, 8, .inl (fun _ => 0)))]) (cs' := 3) (sl' := 24) rfl rfl rfl ?_
  refine ic_put (pc' := 28) (ws' := [(h0, .inr (6, [.null, .ref q0_6, .ref q1_6, .ref q2_6, .null, .null, .null, .null, .int 0, .int 0, .int 0, .int 0, .long 0])), (q0_6, .inl (ka 1, 8, .inl (fun _ => 0))), (q1_6, .inl (ka 1, 8, .inl (fun _ => 0))), (q2_6, .inl (ka 1, 8, .inl (fun _ => 0)))]) 0 E hnm dX6_init_25 rfl ip_RX6_18 rfl rfl rfl (Nat.le_of_ble_eq_true rfl) rfl ?_
  refine ic_aload_n (pc' := 29) E dX6_init_28 rfl rfl ?_
  refine ic_bipush (pc' := 31) 8 E dX6_init_29 rfl (by decide +kernel) ?_
  refine ic_newI (pc' := 33) (N := 8) E dX6_init_31 rfl wi_51 (by decide +kernel) (by decide +kernel) (Nat.le_of_ble_eq_true rfl) (Nat.le_of_ble_eq_true rfl) (Nat.le_of_ble_eq_true rfl) (fun q3_6 => ?_)
  refine ic_nrm (ws' := [(h0, .inr (6, [.null, .ref q0_6, .ref q1_6, .ref q2_6, .null, .null, .null, .null, .int 0, .int 0, .int 0, .int 0, .long 0])), (q0_6, .inl (ka 1, 8, .inl (fun _ => 0))), (q1_6, .inl (ka 1, 8, .inl (fun _ => 0))), (q2_6, .inl (ka 1, 8, .inl (fun _ => 0))), (q3_6, .inl (ka 1, 8, .inl (fun _ => 0)))]) (cs' := 4) (sl' := 32) rfl rfl rfl ?_
  refine ic_put (pc' := 36) (ws' := [(h0, .inr (6, [.null, .ref q0_6, .ref q1_6, .ref q2_6, .ref q3_6, .null, .null, .null, .int 0, .int 0, .int 0, .int 0, .long 0])), (q0_6, .inl (ka 1, 8, .inl (fun _ => 0))), (q1_6, .inl (ka 1, 8, .inl (fun _ => 0))), (q2_6, .inl (ka 1, 8, .inl (fun _ => 0))), (q3_6, .inl (ka 1, 8, .inl (fun _ => 0)))]) 0 E hnm dX6_init_33 rfl ip_RX6_21 rfl rfl rfl (Nat.le_of_ble_eq_true rfl) rfl ?_
  refine ic_aload_n (pc' := 37) E dX6_init_36 rfl rfl ?_
  refine ic_bipush (pc' := 39) 8 E dX6_init_37 rfl (by decide +kernel) ?_
  refine ic_newI (pc' := 41) (N := 8) E dX6_init_39 rfl wi_51 (by decide +kernel) (by decide +kernel) (Nat.le_of_ble_eq_true rfl) (Nat.le_of_ble_eq_true rfl) (Nat.le_of_ble_eq_true rfl) (fun q4_6 => ?_)
  refine ic_nrm (ws' := [(h0, .inr (6, [.null, .ref q0_6, .ref q1_6, .ref q2_6, .ref q3_6, .null, .null, .null, .int 0, .int 0, .int 0, .int 0, .long 0])), (q0_6, .inl (ka 1, 8, .inl (fun _ => 0))), (q1_6, .inl (ka 1, 8, .inl (fun _ => 0))), (q2_6, .inl (ka 1, 8, .inl (fun _ => 0))), (q3_6, .inl (ka 1, 8, .inl (fun _ => 0))), (q4_6, .inl (ka 1, 8, .inl (fun _ => 0)))]) (cs' := 5) (sl' := 40) rfl rfl rfl ?_
  refine ic_put (pc' := 44) (ws' := [(h0, .inr (6, [.null, .ref q0_6, .ref q1_6, .ref q2_6, .ref q3_6, .ref q4_6, .null, .null, .int 0, .int 0, .int 0, .int 0, .long 0])), (q0_6, .inl (ka 1, 8, .inl (fun _ => 0))), (q1_6, .inl (ka 1, 8, .inl (fun _ => 0))), (q2_6, .inl (ka 1, 8, .inl (fun _ => 0))), (q3_6, .inl (ka 1, 8, .inl (fun _ => 0))), (q4_6, .inl (ka 1, 8, .inl (fun _ => 0)))]) 0 E hnm dX6_init_41 rfl ip_RX6_24 rfl rfl rfl (Nat.le_of_ble_eq_true rfl) rfl ?_
  refine ic_aload_n (pc' := 45) E dX6_init_44 rfl rfl ?_
  refine ic_bipush (pc' := 47) 8 E dX6_init_45 rfl (by decide +kernel) ?_
  refine ic_newI (pc' := 49) (N := 8) E dX6_init_47 rfl wi_51 (by decide +kernel) (by decide +kernel) (Nat.le_of_ble_eq_true rfl) (Nat.le_of_ble_eq_true rfl) (Nat.le_of_ble_eq_true rfl) (fun q5_6 => ?_)
  refine ic_nrm (ws' := [(h0, .inr (6, [.null, .ref q0_6, .ref q1_6, .ref q2_6, .ref q3_6, .ref q4_6, .null, .null, .int 0, .int 0, .int 0, .int 0, .long 0])), (q0_6, .inl (ka 1, 8, .inl (fun _ => 0))), (q1_6, .inl (ka 1, 8, .inl (fun _ => 0))), (q2_6, .inl (ka 1, 8, .inl (fun _ => 0))), (q3_6, .inl (ka 1, 8, .inl (fun _ => 0))), (q4_6, .inl (ka 1, 8, .inl (fun _ => 0))), (q5_6, .inl (ka 1, 8, .inl (fun _ => 0)))]) (cs' := 6) (sl' := 48) rfl rfl rfl ?_
  refine ic_put (pc' := 52) (ws' := [(h0, .inr (6, [.null, .ref q0_6, .ref q1_6, .ref q2_6, .ref q3_6, .ref q4_6, .ref q5_6, .null, .int 0, .int 0, .int 0, .int 0, .long 0])), (q0_6, .inl (ka 1, 8, .inl (fun _ => 0))), (q1_6, .inl (ka 1, 8, .inl (fun _ => 0))), (q2_6, .inl (ka 1, 8, .inl (fun _ => 0))), (q3_6, .inl (ka 1, 8, .inl (fun _ => 0))), (q4_6, .inl (ka 1, 8, .inl (fun _ => 0))), (q5_6, .inl (ka 1, 8, .inl (fun _ => 0)))]) 0 E hnm dX6_init_49 rfl ip_RX6_27 rfl rfl rfl (Nat.le_of_ble_eq_true rfl) rfl ?_
  refine ic_aload_n (pc' := 53) E dX6_init_52 rfl rfl ?_
  refine ic_bipush (pc' := 55) 8 E dX6_init_53 rfl (by decide +kernel) ?_
  refine ic_newI (pc' := 57) (N := 8) E dX6_init_55 rfl wi_51 (by decide +kernel) (by decide +kernel) (Nat.le_of_ble_eq_true rfl) (Nat.le_of_ble_eq_true rfl) (Nat.le_of_ble_eq_true rfl) (fun q6_6 => ?_)
  refine ic_nrm (ws' := [(h0, .inr (6, [.null, .ref q0_6, .ref q1_6, .ref q2_6, .ref q3_6, .ref q4_6, .ref q5_6, .null, .int 0, .int 0, .int 0, .int 0, .long 0])), (q0_6, .inl (ka 1, 8, .inl (fun _ => 0))), (q1_6, .inl (ka 1, 8, .inl (fun _ => 0))), (q2_6, .inl (ka 1, 8, .inl (fun _ => 0))), (q3_6, .inl (ka 1, 8, .inl (fun _ => 0))), (q4_6, .inl (ka 1, 8, .inl (fun _ => 0))), (q5_6, .inl (ka 1, 8, .inl (fun _ => 0))), (q6_6, .inl (ka 1, 8, .inl (fun _ => 0)))]) (cs' := 7) (sl' := 56) rfl rfl rfl ?_
  refine ic_put (pc' := 60) (ws' := [(h0, .inr (6, [.null, .ref q0_6, .ref q1_6, .ref q2_6, .ref q3_6, .ref q4_6, .ref q5_6, .ref q6_6, .int 0, .int 0, .int 0, .int 0, .long 0])), (q0_6, .inl (ka 1, 8, .inl (fun _ => 0))), (q1_6, .inl (ka 1, 8, .inl (fun _ => 0))), (q2_6, .inl (ka 1, 8, .inl (fun _ => 0))), (q3_6, .inl (ka 1, 8, .inl (fun _ => 0))), (q4_6, .inl (ka 1, 8, .inl (fun _ => 0))), (q5_6, .inl (ka 1, 8, .inl (fun _ => 0))), (q6_6, .inl (ka 1, 8, .inl (fun _ => 0)))]) 0 E hnm dX6_init_57 rfl ip_RX6_30 rfl rfl rfl (Nat.le_of_ble_eq_true rfl) rfl ?_
  refine ic_aload_n (pc' := 61) E dX6_init_60 rfl rfl ?_
  refine ic_iconst (pc' := 62) 0 E dX6_init_61 rfl (by decide +kernel) ?_
  refine ic_put (pc' := 65) (ws' := [(h0, .inr (6, [.null, .ref q0_6, .ref q1_6, .ref q2_6, .ref q3_6, .ref q4_6, .ref q5_6, .ref q6_6, .int 0, .int 0, .int 0, .int 0, .long 0])), (q0_6, .inl (ka 1, 8, .inl (fun _ => 0))), (q1_6, .inl (ka 1, 8, .inl (fun _ => 0))), (q2_6, .inl (ka 1, 8, .inl (fun _ => 0))), (q3_6, .inl (ka 1, 8, .inl (fun _ => 0))), (q4_6, .inl (ka 1, 8, .inl (fun _ => 0))), (q5_6, .inl (ka 1, 8, .inl (fun _ => 0))), (q6_6, .inl (ka 1, 8, .inl (fun _ => 0)))]) 0 E hnm dX6_init_62 rfl ip_RX6_33 rfl rfl rfl (Nat.le_of_ble_eq_true rfl) rfl ?_
  refine ic_aload_n (pc' := 66) E dX6_init_65 rfl rfl ?_
  refine ic_iconst (pc' := 67) 0 E dX6_init_66 rfl (by decide +kernel) ?_
  refine ic_put (pc' := 70) (ws' := [(h0, .inr (6, [.null, .ref q0_6, .ref q1_6, .ref q2_6, .ref q3_6, .ref q4_6, .ref q5_6, .ref q6_6, .int 0, .int 0, .int 0, .int 0, .long 0])), (q0_6, .inl (ka 1, 8, .inl (fun _ => 0))), (q1_6, .inl (ka 1, 8, .inl (fun _ => 0))), (q2_6, .inl (ka 1, 8, .inl (fun _ => 0))), (q3_6, .inl (ka 1, 8, .inl (fun _ => 0))), (q4_6, .inl (ka 1, 8, .inl (fun _ => 0))), (q5_6, .inl (ka 1, 8, .inl (fun _ => 0))), (q6_6, .inl (ka 1, 8, .inl (fun _ => 0)))]) 0 E hnm dX6_init_67 rfl ip_RX6_37 rfl rfl rfl (Nat.le_of_ble_eq_true rfl) rfl ?_
  refine ic_aload_n (pc' := 71) E dX6_init_70 rfl rfl ?_
  refine ic_iconst (pc' := 72) (-1) E dX6_init_71 rfl (by decide +kernel) ?_
  refine ic_put (pc' := 75) (ws' := [(h0, .inr (6, [.null, .ref q0_6, .ref q1_6, .ref q2_6, .ref q3_6, .ref q4_6, .ref q5_6, .ref q6_6, .int 0, .int 0, .int (-1), .int 0, .long 0])), (q0_6, .inl (ka 1, 8, .inl (fun _ => 0))), (q1_6, .inl (ka 1, 8, .inl (fun _ => 0))), (q2_6, .inl (ka 1, 8, .inl (fun _ => 0))), (q3_6, .inl (ka 1, 8, .inl (fun _ => 0))), (q4_6, .inl (ka 1, 8, .inl (fun _ => 0))), (q5_6, .inl (ka 1, 8, .inl (fun _ => 0))), (q6_6, .inl (ka 1, 8, .inl (fun _ => 0)))]) 0 E hnm dX6_init_72 rfl ip_RX6_40 rfl rfl rfl (Nat.le_of_ble_eq_true rfl) rfl ?_
  refine ic_aload_n (pc' := 76) E dX6_init_75 rfl rfl ?_
  refine ic_iconst (pc' := 77) 0 E dX6_init_76 rfl (by decide +kernel) ?_
  refine ic_put (pc' := 80) (ws' := [(h0, .inr (6, [.null, .ref q0_6, .ref q1_6, .ref q2_6, .ref q3_6, .ref q4_6, .ref q5_6, .ref q6_6, .int 0, .int 0, .int (-1), .int 0, .long 0])), (q0_6, .inl (ka 1, 8, .inl (fun _ => 0))), (q1_6, .inl (ka 1, 8, .inl (fun _ => 0))), (q2_6, .inl (ka 1, 8, .inl (fun _ => 0))), (q3_6, .inl (ka 1, 8, .inl (fun _ => 0))), (q4_6, .inl (ka 1, 8, .inl (fun _ => 0))), (q5_6, .inl (ka 1, 8, .inl (fun _ => 0))), (q6_6, .inl (ka 1, 8, .inl (fun _ => 0)))]) 0 E hnm dX6_init_77 rfl ip_RX6_43 rfl rfl rfl (Nat.le_of_ble_eq_true rfl) rfl ?_
  refine ic_aload_n (pc' := 81) E dX6_init_80 rfl rfl ?_
  refine ic_lconst (pc' := 82) 0 E dX6_init_81 rfl (by decide +kernel) ?_
  refine ic_put (pc' := 85) (ws' := [(h0, .inr (6, [.null, .ref q0_6, .ref q1_6, .ref q2_6, .ref q3_6, .ref q4_6, .ref q5_6, .ref q6_6, .int 0, .int 0, .int (-1), .int 0, .long 0])), (q0_6, .inl (ka 1, 8, .inl (fun _ => 0))), (q1_6, .inl (ka 1, 8, .inl (fun _ => 0))), (q2_6, .inl (ka 1, 8, .inl (fun _ => 0))), (q3_6, .inl (ka 1, 8, .inl (fun _ => 0))), (q4_6, .inl (ka 1, 8, .inl (fun _ => 0))), (q5_6, .inl (ka 1, 8, .inl (fun _ => 0))), (q6_6, .inl (ka 1, 8, .inl (fun _ => 0)))]) 0 E hnm dX6_init_82 rfl ip_RX6_46 rfl rfl rfl (Nat.le_of_ble_eq_true rfl) rfl ?_
  refine ic_aload_n (pc' := 86) E dX6_init_85 rfl rfl ?_
  refine ic_aload_n (pc' := 87) E dX6_init_86 rfl rfl ?_
  refine ic_put (pc' := 90) (ws' := [(h0, .inr (6, [.ref v1, .ref q0_6, .ref q1_6, .ref q2_6, .ref q3_6, .ref q4_6, .ref q5_6, .ref q6_6, .int 0, .int 0, .int (-1), .int 0, .long 0])), (q0_6, .inl (ka 1, 8, .inl (fun _ => 0))), (q1_6, .inl (ka 1, 8, .inl (fun _ => 0))), (q2_6, .inl (ka 1, 8, .inl (fun _ => 0))), (q3_6, .inl (ka 1, 8, .inl (fun _ => 0))), (q4_6, .inl (ka 1, 8, .inl (fun _ => 0))), (q5_6, .inl (ka 1, 8, .inl (fun _ => 0))), (q6_6, .inl (ka 1, 8, .inl (fun _ => 0)))]) 0 E hnm dX6_init_87 rfl ip_RX6_50 rfl rfl rfl (Nat.le_of_ble_eq_true rfl) rfl ?_
  exact ic_ret E hrt hlk dX6_init_90 (Nat.le_of_ble_eq_true rfl) (Nat.le_of_ble_eq_true rfl) ⟨q0_6, q1_6, q2_6, q3_6, q4_6, q5_6, q6_6, rfl⟩
abbrev po_X1 (h0 : Nat) (ka : Nat → ClassId) (w1 : va_W) : Prop := ∃ q0_1 : Nat, w1 = [(h0, .inr (1, [.ref q0_1])), (q0_1, .inl (ka 1, 640, .inl (fun _ => 0)))]
set_option maxRecDepth 100000 in
set_option maxHeartbeats 4000000 in
theorem co_X1 (h0 : Nat) : ic_C yX1_init cX1_init 1 1 1 640 [.ref h0] (fun _ => [(h0, .inr (1, [.null]))]) (po_X1 h0) := by
  refine ic_C.of (by decide +kernel) (Nat.le_of_ble_eq_true rfl) ?_
  intro p l e s m below meth c dC dI ka A E hnm hrt hlk
  have hnm : meth.name = "<init>" := hnm
  refine ic_nlv (lv' := [(0, .ref h0)]) rfl ?_
  refine ic_nrm (ws' := [(h0, .inr (1, [.null]))]) (cs' := 0) (sl' := 0) rfl rfl rfl ?_
  refine ic_aload_n (pc' := 1) E dX1_init_0 rfl rfl ?_
  refine ic_obj (pc' := 4) E dX1_init_1 rfl wi_205 wi_25 wi_26 (Nat.le_of_ble_eq_true rfl) (Nat.le_of_ble_eq_true rfl) ?_
  refine ic_aload_n (pc' := 5) E dX1_init_4 rfl rfl ?_
  refine ic_sipush (pc' := 8) 640 E dX1_init_5 rfl (by decide +kernel) ?_
  refine ic_newI (pc' := 10) (N := 640) E dX1_init_8 rfl wi_51 (by decide +kernel) (by decide +kernel) (Nat.le_of_ble_eq_true rfl) (Nat.le_of_ble_eq_true rfl) (Nat.le_of_ble_eq_true rfl) (fun q0_1 => ?_)
  refine ic_nrm (ws' := [(h0, .inr (1, [.null])), (q0_1, .inl (ka 1, 640, .inl (fun _ => 0)))]) (cs' := 1) (sl' := 640) rfl rfl rfl ?_
  refine ic_put (pc' := 13) (ws' := [(h0, .inr (1, [.ref q0_1])), (q0_1, .inl (ka 1, 640, .inl (fun _ => 0)))]) 0 E hnm dX1_init_10 rfl ip_RX1_9 rfl rfl rfl (Nat.le_of_ble_eq_true rfl) rfl ?_
  exact ic_ret E hrt hlk dX1_init_13 (Nat.le_of_ble_eq_true rfl) (Nat.le_of_ble_eq_true rfl) ⟨q0_1, rfl⟩
abbrev po_X8 (h0 : Nat) (ka : Nat → ClassId) (w1 : va_W) : Prop := ∃ q0_8 q1_8 : Nat, w1 = [(h0, .inr (8, [.ref q0_8, .ref q1_8, .int 0])), (q0_8, .inl (ka 1, 8, .inl (fun _ => 0))), (q1_8, .inl (ka 1, 8, .inl (fun _ => 0)))]
set_option maxRecDepth 100000 in
set_option maxHeartbeats 4000000 in
theorem co_X8 (h0 : Nat) : ic_C yX8_init cX8_init 1 1 2 16 [.ref h0] (fun _ => [(h0, .inr (8, [.null, .null, .int 0]))]) (po_X8 h0) := by
  refine ic_C.of (by decide +kernel) (Nat.le_of_ble_eq_true rfl) ?_
  intro p l e s m below meth c dC dI ka A E hnm hrt hlk
  have hnm : meth.name = "<init>" := hnm
  refine ic_nlv (lv' := [(0, .ref h0)]) rfl ?_
  refine ic_nrm (ws' := [(h0, .inr (8, [.null, .null, .int 0]))]) (cs' := 0) (sl' := 0) rfl rfl rfl ?_
  refine ic_aload_n (pc' := 1) E dX8_init_0 rfl rfl ?_
  refine ic_obj (pc' := 4) E dX8_init_1 rfl wi_215 wi_25 wi_26 (Nat.le_of_ble_eq_true rfl) (Nat.le_of_ble_eq_true rfl) ?_
  refine ic_aload_n (pc' := 5) E dX8_init_4 rfl rfl ?_
  refine ic_bipush (pc' := 7) 8 E dX8_init_5 rfl (by decide +kernel) ?_
  refine ic_newI (pc' := 9) (N := 8) E dX8_init_7 rfl wi_51 (by decide +kernel) (by decide +kernel) (Nat.le_of_ble_eq_true rfl) (Nat.le_of_ble_eq_true rfl) (Nat.le_of_ble_eq_true rfl) (fun q0_8 => ?_)
  refine ic_nrm (ws' := [(h0, .inr (8, [.null, .null, .int 0])), (q0_8, .inl (ka 1, 8, .inl (fun _ => 0)))]) (cs' := 1) (sl' := 8) rfl rfl rfl ?_
  refine ic_put (pc' := 12) (ws' := [(h0, .inr (8, [.ref q0_8, .null, .int 0])), (q0_8, .inl (ka 1, 8, .inl (fun _ => 0)))]) 0 E hnm dX8_init_9 rfl ip_RX8_9 rfl rfl rfl (Nat.le_of_ble_eq_true rfl) rfl ?_
  refine ic_aload_n (pc' := 13) E dX8_init_12 rfl rfl ?_
  refine ic_bipush (pc' := 15) 8 E dX8_init_13 rfl (by decide +kernel) ?_
  refine ic_newI (pc' := 17) (N := 8) E dX8_init_15 rfl wi_51 (by decide +kernel) (by decide +kernel) (Nat.le_of_ble_eq_true rfl) (Nat.le_of_ble_eq_true rfl) (Nat.le_of_ble_eq_true rfl) (fun q1_8 => ?_)
  refine ic_nrm (ws' := [(h0, .inr (8, [.ref q0_8, .null, .int 0])), (q0_8, .inl (ka 1, 8, .inl (fun _ => 0))), (q1_8, .inl (ka 1, 8, .inl (fun _ => 0)))]) (cs' := 2) (sl' := 16) rfl rfl rfl ?_
  refine ic_put (pc' := 20) (ws' := [(h0, .inr (8, [.ref q0_8, .ref q1_8, .int 0])), (q0_8, .inl (ka 1, 8, .inl (fun _ => 0))), (q1_8, .inl (ka 1, 8, .inl (fun _ => 0)))]) 0 E hnm dX8_init_17 rfl ip_RX8_15 rfl rfl rfl (Nat.le_of_ble_eq_true rfl) rfl ?_
  refine ic_aload_n (pc' := 21) E dX8_init_20 rfl rfl ?_
  refine ic_iconst (pc' := 22) 0 E dX8_init_21 rfl (by decide +kernel) ?_
  refine ic_put (pc' := 25) (ws' := [(h0, .inr (8, [.ref q0_8, .ref q1_8, .int 0])), (q0_8, .inl (ka 1, 8, .inl (fun _ => 0))), (q1_8, .inl (ka 1, 8, .inl (fun _ => 0)))]) 0 E hnm dX8_init_22 rfl ip_RX8_18 rfl rfl rfl (Nat.le_of_ble_eq_true rfl) rfl ?_
  exact ic_ret E hrt hlk dX8_init_25 (Nat.le_of_ble_eq_true rfl) (Nat.le_of_ble_eq_true rfl) ⟨q0_8, q1_8, rfl⟩
abbrev po_X7 (h0 : Nat) (ka : Nat → ClassId) (w1 : va_W) : Prop := ∃ q0_7 : Nat, w1 = [(h0, .inr (7, [.int (-1), .int 0, .ref q0_7])), (q0_7, .inl (ka 1, 60, .inl (fun _ => 0)))]
set_option maxRecDepth 100000 in
set_option maxHeartbeats 4000000 in
theorem co_X7 (h0 : Nat) : ic_C yX7_init cX7_init 1 1 1 60 [.ref h0] (fun _ => [(h0, .inr (7, [.int 0, .int 0, .null]))]) (po_X7 h0) := by
  refine ic_C.of (by decide +kernel) (Nat.le_of_ble_eq_true rfl) ?_
  intro p l e s m below meth c dC dI ka A E hnm hrt hlk
  have hnm : meth.name = "<init>" := hnm
  refine ic_nlv (lv' := [(0, .ref h0)]) rfl ?_
  refine ic_nrm (ws' := [(h0, .inr (7, [.int 0, .int 0, .null]))]) (cs' := 0) (sl' := 0) rfl rfl rfl ?_
  refine ic_aload_n (pc' := 1) E dX7_init_0 rfl rfl ?_
  refine ic_obj (pc' := 4) E dX7_init_1 rfl wi_254 wi_25 wi_26 (Nat.le_of_ble_eq_true rfl) (Nat.le_of_ble_eq_true rfl) ?_
  refine ic_aload_n (pc' := 5) E dX7_init_4 rfl rfl ?_
  refine ic_iconst (pc' := 6) (-1) E dX7_init_5 rfl (by decide +kernel) ?_
  refine ic_put (pc' := 9) (ws' := [(h0, .inr (7, [.int (-1), .int 0, .null]))]) 0 E hnm dX7_init_6 rfl ip_RX7_9 rfl rfl rfl (Nat.le_of_ble_eq_true rfl) rfl ?_
  refine ic_aload_n (pc' := 10) E dX7_init_9 rfl rfl ?_
  refine ic_iconst (pc' := 11) 0 E dX7_init_10 rfl (by decide +kernel) ?_
  refine ic_put (pc' := 14) (ws' := [(h0, .inr (7, [.int (-1), .int 0, .null]))]) 0 E hnm dX7_init_11 rfl ip_RX7_15 rfl rfl rfl (Nat.le_of_ble_eq_true rfl) rfl ?_
  refine ic_aload_n (pc' := 15) E dX7_init_14 rfl rfl ?_
  refine ic_bipush (pc' := 17) 60 E dX7_init_15 rfl (by decide +kernel) ?_
  refine ic_newI (pc' := 19) (N := 60) E dX7_init_17 rfl wi_51 (by decide +kernel) (by decide +kernel) (Nat.le_of_ble_eq_true rfl) (Nat.le_of_ble_eq_true rfl) (Nat.le_of_ble_eq_true rfl) (fun q0_7 => ?_)
  refine ic_nrm (ws' := [(h0, .inr (7, [.int (-1), .int 0, .null])), (q0_7, .inl (ka 1, 60, .inl (fun _ => 0)))]) (cs' := 1) (sl' := 60) rfl rfl rfl ?_
  refine ic_put (pc' := 22) (ws' := [(h0, .inr (7, [.int (-1), .int 0, .ref q0_7])), (q0_7, .inl (ka 1, 60, .inl (fun _ => 0)))]) 0 E hnm dX7_init_19 rfl ip_RX7_18 rfl rfl rfl (Nat.le_of_ble_eq_true rfl) rfl ?_
  exact ic_ret E hrt hlk dX7_init_22 (Nat.le_of_ble_eq_true rfl) (Nat.le_of_ble_eq_true rfl) ⟨q0_7, rfl⟩
abbrev po_X2 (h0 : Nat) (ka : Nat → ClassId) (w1 : va_W) : Prop := w1 = [(h0, .inr (2, [.int (-1), .int (-1), .int (-1)]))]
set_option maxRecDepth 100000 in
set_option maxHeartbeats 4000000 in
theorem co_X2 (h0 : Nat) : ic_C yX2_init cX2_init 1 1 0 0 [.ref h0] (fun _ => [(h0, .inr (2, [.int 0, .int 0, .int 0]))]) (po_X2 h0) := by
  refine ic_C.of (by decide +kernel) (Nat.le_of_ble_eq_true rfl) ?_
  intro p l e s m below meth c dC dI ka A E hnm hrt hlk
  have hnm : meth.name = "<init>" := hnm
  refine ic_nlv (lv' := [(0, .ref h0)]) rfl ?_
  refine ic_nrm (ws' := [(h0, .inr (2, [.int 0, .int 0, .int 0]))]) (cs' := 0) (sl' := 0) rfl rfl rfl ?_
  refine ic_aload_n (pc' := 1) E dX2_init_0 rfl rfl ?_
  refine ic_obj (pc' := 4) E dX2_init_1 rfl wi_279 wi_25 wi_26 (Nat.le_of_ble_eq_true rfl) (Nat.le_of_ble_eq_true rfl) ?_
  refine ic_aload_n (pc' := 5) E dX2_init_4 rfl rfl ?_
  refine ic_iconst (pc' := 6) (-1) E dX2_init_5 rfl (by decide +kernel) ?_
  refine ic_put (pc' := 9) (ws' := [(h0, .inr (2, [.int (-1), .int 0, .int 0]))]) 0 E hnm dX2_init_6 rfl ip_RX2_9 rfl rfl rfl (Nat.le_of_ble_eq_true rfl) rfl ?_
  refine ic_aload_n (pc' := 10) E dX2_init_9 rfl rfl ?_
  refine ic_iconst (pc' := 11) (-1) E dX2_init_10 rfl (by decide +kernel) ?_
  refine ic_put (pc' := 14) (ws' := [(h0, .inr (2, [.int (-1), .int (-1), .int 0]))]) 0 E hnm dX2_init_11 rfl ip_RX2_15 rfl rfl rfl (Nat.le_of_ble_eq_true rfl) rfl ?_
  refine ic_aload_n (pc' := 15) E dX2_init_14 rfl rfl ?_
  refine ic_iconst (pc' := 16) (-1) E dX2_init_15 rfl (by decide +kernel) ?_
  refine ic_put (pc' := 19) (ws' := [(h0, .inr (2, [.int (-1), .int (-1), .int (-1)]))]) 0 E hnm dX2_init_16 rfl ip_RX2_18 rfl rfl rfl (Nat.le_of_ble_eq_true rfl) rfl ?_
  exact ic_ret E hrt hlk dX2_init_19 (Nat.le_of_ble_eq_true rfl) (Nat.le_of_ble_eq_true rfl) rfl
abbrev po_X5 (h0 v1 v2 v3 v4 : Nat) (ka : Nat → ClassId) (w1 : va_W) : Prop := ∃ q0_5 : Nat, w1 = [(h0, .inr (5, [.ref v1, .ref v2, .ref v3, .ref v4, .int 0, .int 1, .int 0, .int 0, .int 0, .ref q0_5])), (q0_5, .inr (2, [.int (-1), .int (-1), .int (-1)]))]
set_option maxRecDepth 100000 in
set_option maxHeartbeats 4000000 in
theorem co_X5 (h0 v1 v2 v3 v4 : Nat) : ic_C yX5_init cX5_init 5 2 1 3 [.ref h0, .ref v1, .ref v2, .ref v3, .ref v4] (fun _ => [(h0, .inr (5, [.null, .null, .null, .null, .int 0, .int 0, .int 0, .int 0, .int 0, .null]))]) (po_X5 h0 v1 v2 v3 v4) := by
  refine ic_C.of (by decide +kernel) (Nat.le_of_ble_eq_true rfl) ?_
  intro p l e s m below meth c dC dI ka A E hnm hrt hlk
  have hnm : meth.name = "<init>" := hnm
  refine ic_nlv (lv' := [(0, .ref h0), (1, .ref v1), (2, .ref v2), (3, .ref v3), (4, .ref v4)]) rfl ?_
  refine ic_nrm (ws' := [(h0, .inr (5, [.null, .null, .null, .null, .int 0, .int 0, .int 0, .int 0, .int 0, .null]))]) (cs' := 0) (sl' := 0) rfl rfl rfl ?_
  refine ic_aload_n (pc' := 1) E dX5_init_0 rfl rfl ?_
  refine ic_obj (pc' := 4) E dX5_init_1 rfl wi_273 wi_25 wi_26 (Nat.le_of_ble_eq_true rfl) (Nat.le_of_ble_eq_true rfl) ?_
  refine ic_aload_n (pc' := 5) E dX5_init_4 rfl rfl ?_
  refine ic_iconst (pc' := 6) 0 E dX5_init_5 rfl (by decide +kernel) ?_
  refine ic_put (pc' := 9) (ws' := [(h0, .inr (5, [.null, .null, .null, .null, .int 0, .int 0, .int 0, .int 0, .int 0, .null]))]) 0 E hnm dX5_init_6 rfl ip_RX5_9 rfl rfl rfl (Nat.le_of_ble_eq_true rfl) rfl ?_
  refine ic_aload_n (pc' := 10) E dX5_init_9 rfl rfl ?_
  refine ic_iconst (pc' := 11) 1 E dX5_init_10 rfl (by decide +kernel) ?_
  refine ic_put (pc' := 14) (ws' := [(h0, .inr (5, [.null, .null, .null, .null, .int 0, .int 1, .int 0, .int 0, .int 0, .null]))]) 0 E hnm dX5_init_11 rfl ip_RX5_15 rfl rfl rfl (Nat.le_of_ble_eq_true rfl) rfl ?_
  refine ic_aload_n (pc' := 15) E dX5_init_14 rfl rfl ?_
  refine ic_iconst (pc' := 16) 0 E dX5_init_15 rfl (by decide +kernel) ?_
  refine ic_put (pc' := 19) (ws' := [(h0, .inr (5, [.null, .null, .null, .null, .int 0, .int 1, .int 0, .int 0, .int 0, .null]))]) 0 E hnm dX5_init_16 rfl ip_RX5_18 rfl rfl rfl (Nat.le_of_ble_eq_true rfl) rfl ?_
  refine ic_aload_n (pc' := 20) E dX5_init_19 rfl rfl ?_
  refine ic_iconst (pc' := 21) 0 E dX5_init_20 rfl (by decide +kernel) ?_
  refine ic_put (pc' := 24) (ws' := [(h0, .inr (5, [.null, .null, .null, .null, .int 0, .int 1, .int 0, .int 0, .int 0, .null]))]) 0 E hnm dX5_init_21 rfl ip_RX5_21 rfl rfl rfl (Nat.le_of_ble_eq_true rfl) rfl ?_
  refine ic_aload_n (pc' := 25) E dX5_init_24 rfl rfl ?_
  refine ic_iconst (pc' := 26) 0 E dX5_init_25 rfl (by decide +kernel) ?_
  refine ic_put (pc' := 29) (ws' := [(h0, .inr (5, [.null, .null, .null, .null, .int 0, .int 1, .int 0, .int 0, .int 0, .null]))]) 0 E hnm dX5_init_26 rfl ip_RX5_24 rfl rfl rfl (Nat.le_of_ble_eq_true rfl) rfl ?_
  refine ic_aload_n (pc' := 30) E dX5_init_29 rfl rfl ?_
  refine ic_new (pc' := 33) E dX5_init_30 rfl iw_RX5_27 (Nat.le_of_ble_eq_true rfl) (Nat.le_of_ble_eq_true rfl) (fun q0_5 => ?_)
  refine ic_nrm (ws' := [(h0, .inr (5, [.null, .null, .null, .null, .int 0, .int 1, .int 0, .int 0, .int 0, .null])), (q0_5, .inr (2, [.int 0, .int 0, .int 0]))]) (cs' := 1) (sl' := 3) rfl rfl rfl ?_
  refine ic_dup (pc' := 34) E dX5_init_33 rfl ?_
  refine ic_callN (pc' := 37) (av := []) (wr := [(h0, .inr (5, [.null, .null, .null, .null, .int 0, .int 1, .int 0, .int 0, .int 0, .null]))]) [1] [0] E dX5_init_34 rfl E.2.2.2.2.2.2.2.1.1.2.2.2.2 in_X2_init (co_X2 q0_5) rfl ⟨Nat.le_of_ble_eq_true rfl, Nat.le_of_ble_eq_true rfl⟩ (Nat.le_of_ble_eq_true rfl) ⟨Nat.le_of_ble_eq_true rfl, Nat.le_of_ble_eq_true rfl⟩ rfl rfl (by decide +kernel) (by decide +kernel) (by decide +kernel) (fun w1 hp => ?_)
  obtain rfl := hp
  refine ic_nrm (ws' := [(h0, .inr (5, [.null, .null, .null, .null, .int 0, .int 1, .int 0, .int 0, .int 0, .null])), (q0_5, .inr (2, [.int (-1), .int (-1), .int (-1)]))]) (cs' := 1) (sl' := 3) rfl rfl rfl ?_
  refine ic_put (pc' := 40) (ws' := [(h0, .inr (5, [.null, .null, .null, .null, .int 0, .int 1, .int 0, .int 0, .int 0, .ref q0_5])), (q0_5, .inr (2, [.int (-1), .int (-1), .int (-1)]))]) 0 E hnm dX5_init_37 rfl ip_RX5_30 rfl rfl rfl (Nat.le_of_ble_eq_true rfl) rfl ?_
  refine ic_aload_n (pc' := 41) E dX5_init_40 rfl rfl ?_
  refine ic_aload_n (pc' := 42) E dX5_init_41 rfl rfl ?_
  refine ic_put (pc' := 45) (ws' := [(h0, .inr (5, [.ref v1, .null, .null, .null, .int 0, .int 1, .int 0, .int 0, .int 0, .ref q0_5])), (q0_5, .inr (2, [.int (-1), .int (-1), .int (-1)]))]) 0 E hnm dX5_init_42 rfl ip_RX5_34 rfl rfl rfl (Nat.le_of_ble_eq_true rfl) rfl ?_
  refine ic_aload_n (pc' := 46) E dX5_init_45 rfl rfl ?_
  refine ic_aload_n (pc' := 47) E dX5_init_46 rfl rfl ?_
  refine ic_put (pc' := 50) (ws' := [(h0, .inr (5, [.ref v1, .ref v2, .null, .null, .int 0, .int 1, .int 0, .int 0, .int 0, .ref q0_5])), (q0_5, .inr (2, [.int (-1), .int (-1), .int (-1)]))]) 0 E hnm dX5_init_47 rfl ip_RX5_38 rfl rfl rfl (Nat.le_of_ble_eq_true rfl) rfl ?_
  refine ic_aload_n (pc' := 51) E dX5_init_50 rfl rfl ?_
  refine ic_aload_n (pc' := 52) E dX5_init_51 rfl rfl ?_
  refine ic_put (pc' := 55) (ws' := [(h0, .inr (5, [.ref v1, .ref v2, .ref v3, .null, .int 0, .int 1, .int 0, .int 0, .int 0, .ref q0_5])), (q0_5, .inr (2, [.int (-1), .int (-1), .int (-1)]))]) 0 E hnm dX5_init_52 rfl ip_RX5_42 rfl rfl rfl (Nat.le_of_ble_eq_true rfl) rfl ?_
  refine ic_aload_n (pc' := 56) E dX5_init_55 rfl rfl ?_
  refine ic_aload (pc' := 58) E dX5_init_56 rfl rfl ?_
  refine ic_put (pc' := 61) (ws' := [(h0, .inr (5, [.ref v1, .ref v2, .ref v3, .ref v4, .int 0, .int 1, .int 0, .int 0, .int 0, .ref q0_5])), (q0_5, .inr (2, [.int (-1), .int (-1), .int (-1)]))]) 0 E hnm dX5_init_58 rfl ip_RX5_45 rfl rfl rfl (Nat.le_of_ble_eq_true rfl) rfl ?_
  exact ic_ret E hrt hlk dX5_init_61 (Nat.le_of_ble_eq_true rfl) (Nat.le_of_ble_eq_true rfl) ⟨q0_5, rfl⟩
abbrev po_X3 (h0 v1 v2 v3 v4 v5 : Nat) (ka : Nat → ClassId) (w1 : va_W) : Prop := ∃ q0_3 : Nat, w1 = [(h0, .inr (3, [.ref v1, .ref v2, .ref v3, .ref v4, .ref v5, .long 0, .ref q0_3])), (q0_3, .inl (ka 1, 40, .inl (fun _ => 0)))]
set_option maxRecDepth 100000 in
set_option maxHeartbeats 4000000 in
theorem co_X3 (h0 v1 v2 v3 v4 v5 : Nat) : ic_C yX3_init cX3_init 6 1 1 40 [.ref h0, .ref v1, .ref v2, .ref v3, .ref v4, .ref v5] (fun _ => [(h0, .inr (3, [.null, .null, .null, .null, .null, .long 0, .null]))]) (po_X3 h0 v1 v2 v3 v4 v5) := by
  refine ic_C.of (by decide +kernel) (Nat.le_of_ble_eq_true rfl) ?_
  intro p l e s m below meth c dC dI ka A E hnm hrt hlk
  have hnm : meth.name = "<init>" := hnm
  refine ic_nlv (lv' := [(0, .ref h0), (1, .ref v1), (2, .ref v2), (3, .ref v3), (4, .ref v4), (5, .ref v5)]) rfl ?_
  refine ic_nrm (ws' := [(h0, .inr (3, [.null, .null, .null, .null, .null, .long 0, .null]))]) (cs' := 0) (sl' := 0) rfl rfl rfl ?_
  refine ic_aload_n (pc' := 1) E dX3_init_0 rfl rfl ?_
  refine ic_obj (pc' := 4) E dX3_init_1 rfl wi_332 wi_25 wi_26 (Nat.le_of_ble_eq_true rfl) (Nat.le_of_ble_eq_true rfl) ?_
  refine ic_aload_n (pc' := 5) E dX3_init_4 rfl rfl ?_
  refine ic_lconst (pc' := 6) 0 E dX3_init_5 rfl (by decide +kernel) ?_
  refine ic_put (pc' := 9) (ws' := [(h0, .inr (3, [.null, .null, .null, .null, .null, .long 0, .null]))]) 0 E hnm dX3_init_6 rfl ip_RX3_9 rfl rfl rfl (Nat.le_of_ble_eq_true rfl) rfl ?_
  refine ic_aload_n (pc' := 10) E dX3_init_9 rfl rfl ?_
  refine ic_bipush (pc' := 12) 40 E dX3_init_10 rfl (by decide +kernel) ?_
  refine ic_newI (pc' := 14) (N := 40) E dX3_init_12 rfl wi_51 (by decide +kernel) (by decide +kernel) (Nat.le_of_ble_eq_true rfl) (Nat.le_of_ble_eq_true rfl) (Nat.le_of_ble_eq_true rfl) (fun q0_3 => ?_)
  refine ic_nrm (ws' := [(h0, .inr (3, [.null, .null, .null, .null, .null, .long 0, .null])), (q0_3, .inl (ka 1, 40, .inl (fun _ => 0)))]) (cs' := 1) (sl' := 40) rfl rfl rfl ?_
  refine ic_put (pc' := 17) (ws' := [(h0, .inr (3, [.null, .null, .null, .null, .null, .long 0, .ref q0_3])), (q0_3, .inl (ka 1, 40, .inl (fun _ => 0)))]) 0 E hnm dX3_init_14 rfl ip_RX3_15 rfl rfl rfl (Nat.le_of_ble_eq_true rfl) rfl ?_
  refine ic_aload_n (pc' := 18) E dX3_init_17 rfl rfl ?_
  refine ic_aload_n (pc' := 19) E dX3_init_18 rfl rfl ?_
  refine ic_put (pc' := 22) (ws' := [(h0, .inr (3, [.ref v1, .null, .null, .null, .null, .long 0, .ref q0_3])), (q0_3, .inl (ka 1, 40, .inl (fun _ => 0)))]) 0 E hnm dX3_init_19 rfl ip_RX3_19 rfl rfl rfl (Nat.le_of_ble_eq_true rfl) rfl ?_
  refine ic_aload_n (pc' := 23) E dX3_init_22 rfl rfl ?_
  refine ic_aload_n (pc' := 24) E dX3_init_23 rfl rfl ?_
  refine ic_put (pc' := 27) (ws' := [(h0, .inr (3, [.ref v1, .ref v2, .null, .null, .null, .long 0, .ref q0_3])), (q0_3, .inl (ka 1, 40, .inl (fun _ => 0)))]) 0 E hnm dX3_init_24 rfl ip_RX3_23 rfl rfl rfl (Nat.le_of_ble_eq_true rfl) rfl ?_
  refine ic_aload_n (pc' := 28) E dX3_init_27 rfl rfl ?_
  refine ic_aload_n (pc' := 29) E dX3_init_28 rfl rfl ?_
  refine ic_put (pc' := 32) (ws' := [(h0, .inr (3, [.ref v1, .ref v2, .ref v3, .null, .null, .long 0, .ref q0_3])), (q0_3, .inl (ka 1, 40, .inl (fun _ => 0)))]) 0 E hnm dX3_init_29 rfl ip_RX3_27 rfl rfl rfl (Nat.le_of_ble_eq_true rfl) rfl ?_
  refine ic_aload_n (pc' := 33) E dX3_init_32 rfl rfl ?_
  refine ic_aload (pc' := 35) E dX3_init_33 rfl rfl ?_
  refine ic_put (pc' := 38) (ws' := [(h0, .inr (3, [.ref v1, .ref v2, .ref v3, .ref v4, .null, .long 0, .ref q0_3])), (q0_3, .inl (ka 1, 40, .inl (fun _ => 0)))]) 0 E hnm dX3_init_35 rfl ip_RX3_30 rfl rfl rfl (Nat.le_of_ble_eq_true rfl) rfl ?_
  refine ic_aload_n (pc' := 39) E dX3_init_38 rfl rfl ?_
  refine ic_aload (pc' := 41) E dX3_init_39 rfl rfl ?_
  refine ic_put (pc' := 44) (ws' := [(h0, .inr (3, [.ref v1, .ref v2, .ref v3, .ref v4, .ref v5, .long 0, .ref q0_3])), (q0_3, .inl (ka 1, 40, .inl (fun _ => 0)))]) 0 E hnm dX3_init_41 rfl ip_RX3_34 rfl rfl rfl (Nat.le_of_ble_eq_true rfl) rfl ?_
  exact ic_ret E hrt hlk dX3_init_44 (Nat.le_of_ble_eq_true rfl) (Nat.le_of_ble_eq_true rfl) ⟨q0_3, rfl⟩
abbrev po_X0 (h0 v1 v2 v3 v4 : Nat) (ka : Nat → ClassId) (w1 : va_W) : Prop := ∃ q0_0 q1_0 : Nat, w1 = [(h0, .inr (0, [.ref v1, .ref v2, .ref v3, .ref v4, .ref q0_0, .int 0, .ref q1_0, .int 0, .int 0, .int 0])), (q0_0, .inl (ka 1, 10, .inl (fun _ => 0))), (q1_0, .inl (ka 2, 32, .inr (.inl (fun _ => 0))))]
set_option maxRecDepth 100000 in
set_option maxHeartbeats 4000000 in
theorem co_X0 (h0 v1 v2 v3 v4 : Nat) : ic_C yX0_init cX0_init 5 1 2 42 [.ref h0, .ref v1, .ref v2, .ref v3, .ref v4] (fun _ => [(h0, .inr (0, [.null, .null, .null, .null, .null, .int 0, .null, .int 0, .int 0, .int 0]))]) (po_X0 h0 v1 v2 v3 v4) := by
  refine ic_C.of (by decide +kernel) (Nat.le_of_ble_eq_true rfl) ?_
  intro p l e s m below meth c dC dI ka A E hnm hrt hlk
  have hnm : meth.name = "<init>" := hnm
  refine ic_nlv (lv' := [(0, .ref h0), (1, .ref v1), (2, .ref v2), (3, .ref v3), (4, .ref v4)]) rfl ?_
  refine ic_nrm (ws' := [(h0, .inr (0, [.null, .null, .null, .null, .null, .int 0, .null, .int 0, .int 0, .int 0]))]) (cs' := 0) (sl' := 0) rfl rfl rfl ?_
  refine ic_aload_n (pc' := 1) E dX0_init_0 rfl rfl ?_
  refine ic_obj (pc' := 4) E dX0_init_1 rfl wi_360 wi_25 wi_26 (Nat.le_of_ble_eq_true rfl) (Nat.le_of_ble_eq_true rfl) ?_
  refine ic_aload_n (pc' := 5) E dX0_init_4 rfl rfl ?_
  refine ic_bipush (pc' := 7) 10 E dX0_init_5 rfl (by decide +kernel) ?_
  refine ic_newI (pc' := 9) (N := 10) E dX0_init_7 rfl wi_51 (by decide +kernel) (by decide +kernel) (Nat.le_of_ble_eq_true rfl) (Nat.le_of_ble_eq_true rfl) (Nat.le_of_ble_eq_true rfl) (fun q0_0 => ?_)
  refine ic_nrm (ws' := [(h0, .inr (0, [.null, .null, .null, .null, .null, .int 0, .null, .int 0, .int 0, .int 0])), (q0_0, .inl (ka 1, 10, .inl (fun _ => 0)))]) (cs' := 1) (sl' := 10) rfl rfl rfl ?_
  refine ic_put (pc' := 12) (ws' := [(h0, .inr (0, [.null, .null, .null, .null, .ref q0_0, .int 0, .null, .int 0, .int 0, .int 0])), (q0_0, .inl (ka 1, 10, .inl (fun _ => 0)))]) 0 E hnm dX0_init_9 rfl ip_RX0_9 rfl rfl rfl (Nat.le_of_ble_eq_true rfl) rfl ?_
  refine ic_aload_n (pc' := 13) E dX0_init_12 rfl rfl ?_
  refine ic_iconst (pc' := 14) 0 E dX0_init_13 rfl (by decide +kernel) ?_
  refine ic_put (pc' := 17) (ws' := [(h0, .inr (0, [.null, .null, .null, .null, .ref q0_0, .int 0, .null, .int 0, .int 0, .int 0])), (q0_0, .inl (ka 1, 10, .inl (fun _ => 0)))]) 0 E hnm dX0_init_14 rfl ip_RX0_15 rfl rfl rfl (Nat.le_of_ble_eq_true rfl) rfl ?_
  refine ic_aload_n (pc' := 18) E dX0_init_17 rfl rfl ?_
  refine ic_bipush (pc' := 20) 32 E dX0_init_18 rfl (by decide +kernel) ?_
  refine ic_newJ (pc' := 22) (N := 32) E dX0_init_20 rfl wi_394 (by decide +kernel) (by decide +kernel) (Nat.le_of_ble_eq_true rfl) (Nat.le_of_ble_eq_true rfl) (Nat.le_of_ble_eq_true rfl) (fun q1_0 => ?_)
  refine ic_nrm (ws' := [(h0, .inr (0, [.null, .null, .null, .null, .ref q0_0, .int 0, .null, .int 0, .int 0, .int 0])), (q0_0, .inl (ka 1, 10, .inl (fun _ => 0))), (q1_0, .inl (ka 2, 32, .inr (.inl (fun _ => 0))))]) (cs' := 2) (sl' := 42) rfl rfl rfl ?_
  refine ic_put (pc' := 25) (ws' := [(h0, .inr (0, [.null, .null, .null, .null, .ref q0_0, .int 0, .ref q1_0, .int 0, .int 0, .int 0])), (q0_0, .inl (ka 1, 10, .inl (fun _ => 0))), (q1_0, .inl (ka 2, 32, .inr (.inl (fun _ => 0))))]) 0 E hnm dX0_init_22 rfl ip_RX0_19 rfl rfl rfl (Nat.le_of_ble_eq_true rfl) rfl ?_
  refine ic_aload_n (pc' := 26) E dX0_init_25 rfl rfl ?_
  refine ic_iconst (pc' := 27) 0 E dX0_init_26 rfl (by decide +kernel) ?_
  refine ic_put (pc' := 30) (ws' := [(h0, .inr (0, [.null, .null, .null, .null, .ref q0_0, .int 0, .ref q1_0, .int 0, .int 0, .int 0])), (q0_0, .inl (ka 1, 10, .inl (fun _ => 0))), (q1_0, .inl (ka 2, 32, .inr (.inl (fun _ => 0))))]) 0 E hnm dX0_init_27 rfl ip_RX0_23 rfl rfl rfl (Nat.le_of_ble_eq_true rfl) rfl ?_
  refine ic_aload_n (pc' := 31) E dX0_init_30 rfl rfl ?_
  refine ic_iconst (pc' := 32) 0 E dX0_init_31 rfl (by decide +kernel) ?_
  refine ic_put (pc' := 35) (ws' := [(h0, .inr (0, [.null, .null, .null, .null, .ref q0_0, .int 0, .ref q1_0, .int 0, .int 0, .int 0])), (q0_0, .inl (ka 1, 10, .inl (fun _ => 0))), (q1_0, .inl (ka 2, 32, .inr (.inl (fun _ => 0))))]) 0 E hnm dX0_init_32 rfl ip_RX0_26 rfl rfl rfl (Nat.le_of_ble_eq_true rfl) rfl ?_
  refine ic_aload_n (pc' := 36) E dX0_init_35 rfl rfl ?_
  refine ic_iconst (pc' := 37) 0 E dX0_init_36 rfl (by decide +kernel) ?_
  refine ic_put (pc' := 40) (ws' := [(h0, .inr (0, [.null, .null, .null, .null, .ref q0_0, .int 0, .ref q1_0, .int 0, .int 0, .int 0])), (q0_0, .inl (ka 1, 10, .inl (fun _ => 0))), (q1_0, .inl (ka 2, 32, .inr (.inl (fun _ => 0))))]) 0 E hnm dX0_init_37 rfl ip_RX0_29 rfl rfl rfl (Nat.le_of_ble_eq_true rfl) rfl ?_
  refine ic_aload_n (pc' := 41) E dX0_init_40 rfl rfl ?_
  refine ic_aload_n (pc' := 42) E dX0_init_41 rfl rfl ?_
  refine ic_put (pc' := 45) (ws' := [(h0, .inr (0, [.ref v1, .null, .null, .null, .ref q0_0, .int 0, .ref q1_0, .int 0, .int 0, .int 0])), (q0_0, .inl (ka 1, 10, .inl (fun _ => 0))), (q1_0, .inl (ka 2, 32, .inr (.inl (fun _ => 0))))]) 0 E hnm dX0_init_42 rfl ip_RX0_32 rfl rfl rfl (Nat.le_of_ble_eq_true rfl) rfl ?_
  refine ic_aload_n (pc' := 46) E dX0_init_45 rfl rfl ?_
  refine ic_aload_n (pc' := 47) E dX0_init_46 rfl rfl ?_
  refine ic_put (pc' := 50) (ws' := [(h0, .inr (0, [.ref v1, .ref v2, .null, .null, .ref q0_0, .int 0, .ref q1_0, .int 0, .int 0, .int 0])), (q0_0, .inl (ka 1, 10, .inl (fun _ => 0))), (q1_0, .inl (ka 2, 32, .inr (.inl (fun _ => 0))))]) 0 E hnm dX0_init_47 rfl ip_RX0_36 rfl rfl rfl (Nat.le_of_ble_eq_true rfl) rfl ?_
  refine ic_aload_n (pc' := 51) E dX0_init_50 rfl rfl ?_
  refine ic_aload_n (pc' := 52) E dX0_init_51 rfl rfl ?_
  refine ic_put (pc' := 55) (ws' := [(h0, .inr (0, [.ref v1, .ref v2, .ref v3, .null, .ref q0_0, .int 0, .ref q1_0, .int 0, .int 0, .int 0])), (q0_0, .inl (ka 1, 10, .inl (fun _ => 0))), (q1_0, .inl (ka 2, 32, .inr (.inl (fun _ => 0))))]) 0 E hnm dX0_init_52 rfl ip_RX0_40 rfl rfl rfl (Nat.le_of_ble_eq_true rfl) rfl ?_
  refine ic_aload_n (pc' := 56) E dX0_init_55 rfl rfl ?_
  refine ic_aload (pc' := 58) E dX0_init_56 rfl rfl ?_
  refine ic_put (pc' := 61) (ws' := [(h0, .inr (0, [.ref v1, .ref v2, .ref v3, .ref v4, .ref q0_0, .int 0, .ref q1_0, .int 0, .int 0, .int 0])), (q0_0, .inl (ka 1, 10, .inl (fun _ => 0))), (q1_0, .inl (ka 2, 32, .inr (.inl (fun _ => 0))))]) 0 E hnm dX0_init_58 rfl ip_RX0_43 rfl rfl rfl (Nat.le_of_ble_eq_true rfl) rfl ?_
  exact ic_ret E hrt hlk dX0_init_61 (Nat.le_of_ble_eq_true rfl) (Nat.le_of_ble_eq_true rfl) ⟨q0_0, q1_0, rfl⟩
abbrev po_X12 (h0 : Nat) (ka : Nat → ClassId) (w1 : va_W) : Prop := ∃ q0_12 q1_12 q2_12 q3_12 q4_12 q5_12 q6_12 q7_12 q8_12 q9_12 q10_12 q11_12 q12_12 q13_12 q14_12 q15_12 q16_12 q17_12 q18_12 q19_12 : Nat, w1 = [(h0, .inr (12, [.ref q0_12, .ref q1_12, .ref q2_12, .ref q3_12, .int 0, .ref q4_12, .ref q5_12, .int 0, .int 0, .ref q6_12, .int 0, .ref q7_12, .ref q8_12, .int 2, .int 0, .ref q9_12, .ref q10_12, .ref q11_12, .ref q12_12, .ref q13_12, .ref q14_12, .ref q15_12, .ref q16_12, .int 0, .int 0, .int 0, .int 0, .int 0, .ref q17_12, .ref q18_12, .int 0, .ref q19_12])), (q0_12, .inl (ka 1, 4, .inl fW4)), (q1_12, .inl (ka 1, 4, .inl (fun _ => 0))), (q2_12, .inl (ka 1, 240, .inl (fun _ => 0))), (q3_12, .inl (ka 1, 60, .inl (fun _ => 0))), (q4_12, .inl (ka 1, 126, .inl (fun _ => 0))), (q5_12, .inl (ka 1, 3, .inl (fun _ => 0))), (q6_12, .inl (ka 1, 36, .inl (fun _ => 0))), (q7_12, .inl (ka 1, 24, .inl (fun _ => 0))), (q8_12, .inl (ka 1, 20, .inl (fun _ => 0))), (q9_12, .inl (ka 1, 40, .inl (fun _ => 0))), (q10_12, .inl (ka 1, 8, .inl (fun _ => 0))), (q11_12, .inl (ka 1, 8, .inl (fun _ => 0))), (q12_12, .inl (ka 1, 8, .inl (fun _ => 0))), (q13_12, .inl (ka 1, 8, .inl (fun _ => 0))), (q14_12, .inl (ka 1, 640, .inl (fun _ => 0))), (q15_12, .inl (ka 1, 8, .inl (fun _ => 0))), (q16_12, .inl (ka 1, 8, .inl (fun _ => 0))), (q17_12, .inl (ka 1, 16, .inl (fun _ => 0))), (q18_12, .inl (ka 1, 40, .inl (fun _ => 0))), (q19_12, .inl (ka 1, 40, .inl (fun _ => 0)))]
set_option maxRecDepth 100000 in
set_option maxHeartbeats 4000000 in
theorem co_X12 (h0 : Nat) : ic_C yX12_init cX12_init 2 1 20 1341 [.ref h0] (fun _ => [(h0, .inr (12, [.null, .null, .null, .null, .int 0, .null, .null, .int 0, .int 0, .null, .int 0, .null, .null, .int 0, .int 0, .null, .null, .null, .null, .null, .null, .null, .null, .int 0, .int 0, .int 0, .int 0, .int 0, .null, .null, .int 0, .null]))]) (po_X12 h0) := by
  refine ic_C.of (by decide +kernel) (Nat.le_of_ble_eq_true rfl) ?_
  intro p l e s m below meth c dC dI ka A E hnm hrt hlk
  have hnm : meth.name = "<init>" := hnm
  refine ic_nlv (lv' := [(0, .ref h0)]) rfl ?_
  refine ic_nrm (ws' := [(h0, .inr (12, [.null, .null, .null, .null, .int 0, .null, .null, .int 0, .int 0, .null, .int 0, .null, .null, .int 0, .int 0, .null, .null, .null, .null, .null, .null, .null, .null, .int 0, .int 0, .int 0, .int 0, .int 0, .null, .null, .int 0, .null]))]) (cs' := 0) (sl' := 0) rfl rfl rfl ?_
  refine ic_aload_n (pc' := 1) E dX12_init_0 rfl rfl ?_
  refine ic_obj (pc' := 4) E dX12_init_1 rfl wi_977 wi_25 wi_26 (Nat.le_of_ble_eq_true rfl) (Nat.le_of_ble_eq_true rfl) ?_
  refine ic_aload_n (pc' := 5) E dX12_init_4 rfl rfl ?_
  refine ic_iconst (pc' := 6) 4 E dX12_init_5 rfl (by decide +kernel) ?_
  refine ic_newI (pc' := 8) (N := 4) E dX12_init_6 rfl wi_51 (by decide +kernel) (by decide +kernel) (Nat.le_of_ble_eq_true rfl) (Nat.le_of_ble_eq_true rfl) (Nat.le_of_ble_eq_true rfl) (fun q0_12 => ?_)
  refine ic_nrm (ws' := [(h0, .inr (12, [.null, .null, .null, .null, .int 0, .null, .null, .int 0, .int 0, .null, .int 0, .null, .null, .int 0, .int 0, .null, .null, .null, .null, .null, .null, .null, .null, .int 0, .int 0, .int 0, .int 0, .int 0, .null, .null, .int 0, .null])), (q0_12, .inl (ka 1, 4, .inl (fun _ => 0)))]) (cs' := 1) (sl' := 4) rfl rfl rfl ?_
  refine ic_put (pc' := 11) (ws' := [(h0, .inr (12, [.ref q0_12, .null, .null, .null, .int 0, .null, .null, .int 0, .int 0, .null, .int 0, .null, .null, .int 0, .int 0, .null, .null, .null, .null, .null, .null, .null, .null, .int 0, .int 0, .int 0, .int 0, .int 0, .null, .null, .int 0, .null])), (q0_12, .inl (ka 1, 4, .inl (fun _ => 0)))]) 0 E hnm dX12_init_8 rfl ip_RX12_7 rfl rfl rfl (Nat.le_of_ble_eq_true rfl) rfl ?_
  refine ic_aload_n (pc' := 12) E dX12_init_11 rfl rfl ?_
  refine ic_iconst (pc' := 13) 4 E dX12_init_12 rfl (by decide +kernel) ?_
  refine ic_newI (pc' := 15) (N := 4) E dX12_init_13 rfl wi_51 (by decide +kernel) (by decide +kernel) (Nat.le_of_ble_eq_true rfl) (Nat.le_of_ble_eq_true rfl) (Nat.le_of_ble_eq_true rfl) (fun q1_12 => ?_)
  refine ic_nrm (ws' := [(h0, .inr (12, [.ref q0_12, .null, .null, .null, .int 0, .null, .null, .int 0, .int 0, .null, .int 0, .null, .null, .int 0, .int 0, .null, .null, .null, .null, .null, .null, .null, .null, .int 0, .int 0, .int 0, .int 0, .int 0, .null, .null, .int 0, .null])), (q0_12, .inl (ka 1, 4, .inl (fun _ => 0))), (q1_12, .inl (ka 1, 4, .inl (fun _ => 0)))]) (cs' := 2) (sl' := 8) rfl rfl rfl ?_
  refine ic_put (pc' := 18) (ws' := [(h0, .inr (12, [.ref q0_12, .ref q1_12, .null, .null, .int 0, .null, .null, .int 0, .int 0, .null, .int 0, .null, .null, .int 0, .int 0, .null, .null, .null, .null, .null, .null, .null, .null, .int 0, .int 0, .int 0, .int 0, .int 0, .null, .null, .int 0, .null])), (q0_12, .inl (ka 1, 4, .inl (fun _ => 0))), (q1_12, .inl (ka 1, 4, .inl (fun _ => 0)))]) 0 E hnm dX12_init_15 rfl ip_RX12_13 rfl rfl rfl (Nat.le_of_ble_eq_true rfl) rfl ?_
  refine ic_aload_n (pc' := 19) E dX12_init_18 rfl rfl ?_
  refine ic_sipush (pc' := 22) 240 E dX12_init_19 rfl (by decide +kernel) ?_
  refine ic_newI (pc' := 24) (N := 240) E dX12_init_22 rfl wi_51 (by decide +kernel) (by decide +kernel) (Nat.le_of_ble_eq_true rfl) (Nat.le_of_ble_eq_true rfl) (Nat.le_of_ble_eq_true rfl) (fun q2_12 => ?_)
  refine ic_nrm (ws' := [(h0, .inr (12, [.ref q0_12, .ref q1_12, .null, .null, .int 0, .null, .null, .int 0, .int 0, .null, .int 0, .null, .null, .int 0, .int 0, .null, .null, .null, .null, .null, .null, .null, .null, .int 0, .int 0, .int 0, .int 0, .int 0, .null, .null, .int 0, .null])), (q0_12, .inl (ka 1, 4, .inl (fun _ => 0))), (q1_12, .inl (ka 1, 4, .inl (fun _ => 0))), (q2_12, .inl (ka 1, 240, .inl (fun _ => 0)))]) (cs' := 3) (sl' := 248) rfl rfl rfl ?_
  refine ic_put (pc' := 27) (ws' := [(h0, .inr (12, [.ref q0_12, .ref q1_12, .ref q2_12, .null, .int 0, .null, .null, .int 0, .int 0, .null, .int 0, .null, .null, .int 0, .int 0, .null, .null, .null, .null, .null, .null, .null, .null, .int 0, .int 0, .int 0, .int 0, .int 0, .null, .null, .int 0, .null])), (q0_12, .inl (ka 1, 4, .inl (fun _ => 0))), (q1_12, .inl (ka 1, 4, .inl (fun _ => 0))), (q2_12, .inl (ka 1, 240, .inl (fun _ => 0)))]) 0 E hnm dX12_init_24 rfl ip_RX12_16 rfl rfl rfl (Nat.le_of_ble_eq_true rfl) rfl ?_
  refine ic_aload_n (pc' := 28) E dX12_init_27 rfl rfl ?_
  refine ic_bipush (pc' := 30) 60 E dX12_init_28 rfl (by decide +kernel) ?_
  refine ic_newI (pc' := 32) (N := 60) E dX12_init_30 rfl wi_51 (by decide +kernel) (by decide +kernel) (Nat.le_of_ble_eq_true rfl) (Nat.le_of_ble_eq_true rfl) (Nat.le_of_ble_eq_true rfl) (fun q3_12 => ?_)
  refine ic_nrm (ws' := [(h0, .inr (12, [.ref q0_12, .ref q1_12, .ref q2_12, .null, .int 0, .null, .null, .int 0, .int 0, .null, .int 0, .null, .null, .int 0, .int 0, .null, .null, .null, .null, .null, .null, .null, .null, .int 0, .int 0, .int 0, .int 0, .int 0, .null, .null, .int 0, .null])), (q0_12, .inl (ka 1, 4, .inl (fun _ => 0))), (q1_12, .inl (ka 1, 4, .inl (fun _ => 0))), (q2_12, .inl (ka 1, 240, .inl (fun _ => 0))), (q3_12, .inl (ka 1, 60, .inl (fun _ => 0)))]) (cs' := 4) (sl' := 308) rfl rfl rfl ?_
  refine ic_put (pc' := 35) (ws' := [(h0, .inr (12, [.ref q0_12, .ref q1_12, .ref q2_12, .ref q3_12, .int 0, .null, .null, .int 0, .int 0, .null, .int 0, .null, .null, .int 0, .int 0, .null, .null, .null, .null, .null, .null, .null, .null, .int 0, .int 0, .int 0, .int 0, .int 0, .null, .null, .int 0, .null])), (q0_12, .inl (ka 1, 4, .inl (fun _ => 0))), (q1_12, .inl (ka 1, 4, .inl (fun _ => 0))), (q2_12, .inl (ka 1, 240, .inl (fun _ => 0))), (q3_12, .inl (ka 1, 60, .inl (fun _ => 0)))]) 0 E hnm dX12_init_32 rfl ip_RX12_19 rfl rfl rfl (Nat.le_of_ble_eq_true rfl) rfl ?_
  refine ic_aload_n (pc' := 36) E dX12_init_35 rfl rfl ?_
  refine ic_bipush (pc' := 38) 126 E dX12_init_36 rfl (by decide +kernel) ?_
  refine ic_newI (pc' := 40) (N := 126) E dX12_init_38 rfl wi_51 (by decide +kernel) (by decide +kernel) (Nat.le_of_ble_eq_true rfl) (Nat.le_of_ble_eq_true rfl) (Nat.le_of_ble_eq_true rfl) (fun q4_12 => ?_)
  refine ic_nrm (ws' := [(h0, .inr (12, [.ref q0_12, .ref q1_12, .ref q2_12, .ref q3_12, .int 0, .null, .null, .int 0, .int 0, .null, .int 0, .null, .null, .int 0, .int 0, .null, .null, .null, .null, .null, .null, .null, .null, .int 0, .int 0, .int 0, .int 0, .int 0, .null, .null, .int 0, .null])), (q0_12, .inl (ka 1, 4, .inl (fun _ => 0))), (q1_12, .inl (ka 1, 4, .inl (fun _ => 0))), (q2_12, .inl (ka 1, 240, .inl (fun _ => 0))), (q3_12, .inl (ka 1, 60, .inl (fun _ => 0))), (q4_12, .inl (ka 1, 126, .inl (fun _ => 0)))]) (cs' := 5) (sl' := 434) rfl rfl rfl ?_
  refine ic_put (pc' := 43) (ws' := [(h0, .inr (12, [.ref q0_12, .ref q1_12, .ref q2_12, .ref q3_12, .int 0, .ref q4_12, .null, .int 0, .int 0, .null, .int 0, .null, .null, .int 0, .int 0, .null, .null, .null, .null, .null, .null, .null, .null, .int 0, .int 0, .int 0, .int 0, .int 0, .null, .null, .int 0, .null])), (q0_12, .inl (ka 1, 4, .inl (fun _ => 0))), (q1_12, .inl (ka 1, 4, .inl (fun _ => 0))), (q2_12, .inl (ka 1, 240, .inl (fun _ => 0))), (q3_12, .inl (ka 1, 60, .inl (fun _ => 0))), (q4_12, .inl (ka 1, 126, .inl (fun _ => 0)))]) 0 E hnm dX12_init_40 rfl ip_RX12_22 rfl rfl rfl (Nat.le_of_ble_eq_true rfl) rfl ?_
  refine ic_aload_n (pc' := 44) E dX12_init_43 rfl rfl ?_
  refine ic_iconst (pc' := 45) 3 E dX12_init_44 rfl (by decide +kernel) ?_
  refine ic_newI (pc' := 47) (N := 3) E dX12_init_45 rfl wi_51 (by decide +kernel) (by decide +kernel) (Nat.le_of_ble_eq_true rfl) (Nat.le_of_ble_eq_true rfl) (Nat.le_of_ble_eq_true rfl) (fun q5_12 => ?_)
  refine ic_nrm (ws' := [(h0, .inr (12, [.ref q0_12, .ref q1_12, .ref q2_12, .ref q3_12, .int 0, .ref q4_12, .null, .int 0, .int 0, .null, .int 0, .null, .null, .int 0, .int 0, .null, .null, .null, .null, .null, .null, .null, .null, .int 0, .int 0, .int 0, .int 0, .int 0, .null, .null, .int 0, .null])), (q0_12, .inl (ka 1, 4, .inl (fun _ => 0))), (q1_12, .inl (ka 1, 4, .inl (fun _ => 0))), (q2_12, .inl (ka 1, 240, .inl (fun _ => 0))), (q3_12, .inl (ka 1, 60, .inl (fun _ => 0))), (q4_12, .inl (ka 1, 126, .inl (fun _ => 0))), (q5_12, .inl (ka 1, 3, .inl (fun _ => 0)))]) (cs' := 6) (sl' := 437) rfl rfl rfl ?_
  refine ic_put (pc' := 50) (ws' := [(h0, .inr (12, [.ref q0_12, .ref q1_12, .ref q2_12, .ref q3_12, .int 0, .ref q4_12, .ref q5_12, .int 0, .int 0, .null, .int 0, .null, .null, .int 0, .int 0, .null, .null, .null, .null, .null, .null, .null, .null, .int 0, .int 0, .int 0, .int 0, .int 0, .null, .null, .int 0, .null])), (q0_12, .inl (ka 1, 4, .inl (fun _ => 0))), (q1_12, .inl (ka 1, 4, .inl (fun _ => 0))), (q2_12, .inl (ka 1, 240, .inl (fun _ => 0))), (q3_12, .inl (ka 1, 60, .inl (fun _ => 0))), (q4_12, .inl (ka 1, 126, .inl (fun _ => 0))), (q5_12, .inl (ka 1, 3, .inl (fun _ => 0)))]) 0 E hnm dX12_init_47 rfl ip_RX12_25 rfl rfl rfl (Nat.le_of_ble_eq_true rfl) rfl ?_
  refine ic_aload_n (pc' := 51) E dX12_init_50 rfl rfl ?_
  refine ic_bipush (pc' := 53) 36 E dX12_init_51 rfl (by decide +kernel) ?_
  refine ic_newI (pc' := 55) (N := 36) E dX12_init_53 rfl wi_51 (by decide +kernel) (by decide +kernel) (Nat.le_of_ble_eq_true rfl) (Nat.le_of_ble_eq_true rfl) (Nat.le_of_ble_eq_true rfl) (fun q6_12 => ?_)
  refine ic_nrm (ws' := [(h0, .inr (12, [.ref q0_12, .ref q1_12, .ref q2_12, .ref q3_12, .int 0, .ref q4_12, .ref q5_12, .int 0, .int 0, .null, .int 0, .null, .null, .int 0, .int 0, .null, .null, .null, .null, .null, .null, .null, .null, .int 0, .int 0, .int 0, .int 0, .int 0, .null, .null, .int 0, .null])), (q0_12, .inl (ka 1, 4, .inl (fun _ => 0))), (q1_12, .inl (ka 1, 4, .inl (fun _ => 0))), (q2_12, .inl (ka 1, 240, .inl (fun _ => 0))), (q3_12, .inl (ka 1, 60, .inl (fun _ => 0))), (q4_12, .inl (ka 1, 126, .inl (fun _ => 0))), (q5_12, .inl (ka 1, 3, .inl (fun _ => 0))), (q6_12, .inl (ka 1, 36, .inl (fun _ => 0)))]) (cs' := 7) (sl' := 473) rfl rfl rfl ?_
  refine ic_put (pc' := 58) (ws' := [(h0, .inr (12, [.ref q0_12, .ref q1_12, .ref q2_12, .ref q3_12, .int 0, .ref q4_12, .ref q5_12, .int 0, .int 0, .ref q6_12, .int 0, .null, .null, .int 0, .int 0, .null, .null, .null, .null, .null, .null, .null, .null, .int 0, .int 0, .int 0, .int 0, .int 0, .null, .null, .int 0, .null])), (q0_12, .inl (ka 1, 4, .inl (fun _ => 0))), (q1_12, .inl (ka 1, 4, .inl (fun _ => 0))), (q2_12, .inl (ka 1, 240, .inl (fun _ => 0))), (q3_12, .inl (ka 1, 60, .inl (fun _ => 0))), (q4_12, .inl (ka 1, 126, .inl (fun _ => 0))), (q5_12, .inl (ka 1, 3, .inl (fun _ => 0))), (q6_12, .inl (ka 1, 36, .inl (fun _ => 0)))]) 0 E hnm dX12_init_55 rfl ip_RX12_28 rfl rfl rfl (Nat.le_of_ble_eq_true rfl) rfl ?_
  refine ic_aload_n (pc' := 59) E dX12_init_58 rfl rfl ?_
  refine ic_bipush (pc' := 61) 24 E dX12_init_59 rfl (by decide +kernel) ?_
  refine ic_newI (pc' := 63) (N := 24) E dX12_init_61 rfl wi_51 (by decide +kernel) (by decide +kernel) (Nat.le_of_ble_eq_true rfl) (Nat.le_of_ble_eq_true rfl) (Nat.le_of_ble_eq_true rfl) (fun q7_12 => ?_)
  refine ic_nrm (ws' := [(h0, .inr (12, [.ref q0_12, .ref q1_12, .ref q2_12, .ref q3_12, .int 0, .ref q4_12, .ref q5_12, .int 0, .int 0, .ref q6_12, .int 0, .null, .null, .int 0, .int 0, .null, .null, .null, .null, .null, .null, .null, .null, .int 0, .int 0, .int 0, .int 0, .int 0, .null, .null, .int 0, .null])), (q0_12, .inl (ka 1, 4, .inl (fun _ => 0))), (q1_12, .inl (ka 1, 4, .inl (fun _ => 0))), (q2_12, .inl (ka 1, 240, .inl (fun _ => 0))), (q3_12, .inl (ka 1, 60, .inl (fun _ => 0))), (q4_12, .inl (ka 1, 126, .inl (fun _ => 0))), (q5_12, .inl (ka 1, 3, .inl (fun _ => 0))), (q6_12, .inl (ka 1, 36, .inl (fun _ => 0))), (q7_12, .inl (ka 1, 24, .inl (fun _ => 0)))]) (cs' := 8) (sl' := 497) rfl rfl rfl ?_
  refine ic_put (pc' := 66) (ws' := [(h0, .inr (12, [.ref q0_12, .ref q1_12, .ref q2_12, .ref q3_12, .int 0, .ref q4_12, .ref q5_12, .int 0, .int 0, .ref q6_12, .int 0, .ref q7_12, .null, .int 0, .int 0, .null, .null, .null, .null, .null, .null, .null, .null, .int 0, .int 0, .int 0, .int 0, .int 0, .null, .null, .int 0, .null])), (q0_12, .inl (ka 1, 4, .inl (fun _ => 0))), (q1_12, .inl (ka 1, 4, .inl (fun _ => 0))), (q2_12, .inl (ka 1, 240, .inl (fun _ => 0))), (q3_12, .inl (ka 1, 60, .inl (fun _ => 0))), (q4_12, .inl (ka 1, 126, .inl (fun _ => 0))), (q5_12, .inl (ka 1, 3, .inl (fun _ => 0))), (q6_12, .inl (ka 1, 36, .inl (fun _ => 0))), (q7_12, .inl (ka 1, 24, .inl (fun _ => 0)))]) 0 E hnm dX12_init_63 rfl ip_RX12_31 rfl rfl rfl (Nat.le_of_ble_eq_true rfl) rfl ?_
  refine ic_aload_n (pc' := 67) E dX12_init_66 rfl rfl ?_
  refine ic_bipush (pc' := 69) 20 E dX12_init_67 rfl (by decide +kernel) ?_
  refine ic_newI (pc' := 71) (N := 20) E dX12_init_69 rfl wi_51 (by decide +kernel) (by decide +kernel) (Nat.le_of_ble_eq_true rfl) (Nat.le_of_ble_eq_true rfl) (Nat.le_of_ble_eq_true rfl) (fun q8_12 => ?_)
  refine ic_nrm (ws' := [(h0, .inr (12, [.ref q0_12, .ref q1_12, .ref q2_12, .ref q3_12, .int 0, .ref q4_12, .ref q5_12, .int 0, .int 0, .ref q6_12, .int 0, .ref q7_12, .null, .int 0, .int 0, .null, .null, .null, .null, .null, .null, .null, .null, .int 0, .int 0, .int 0, .int 0, .int 0, .null, .null, .int 0, .null])), (q0_12, .inl (ka 1, 4, .inl (fun _ => 0))), (q1_12, .inl (ka 1, 4, .inl (fun _ => 0))), (q2_12, .inl (ka 1, 240, .inl (fun _ => 0))), (q3_12, .inl (ka 1, 60, .inl (fun _ => 0))), (q4_12, .inl (ka 1, 126, .inl (fun _ => 0))), (q5_12, .inl (ka 1, 3, .inl (fun _ => 0))), (q6_12, .inl (ka 1, 36, .inl (fun _ => 0))), (q7_12, .inl (ka 1, 24, .inl (fun _ => 0))), (q8_12, .inl (ka 1, 20, .inl (fun _ => 0)))]) (cs' := 9) (sl' := 517) rfl rfl rfl ?_
  refine ic_put (pc' := 74) (ws' := [(h0, .inr (12, [.ref q0_12, .ref q1_12, .ref q2_12, .ref q3_12, .int 0, .ref q4_12, .ref q5_12, .int 0, .int 0, .ref q6_12, .int 0, .ref q7_12, .ref q8_12, .int 0, .int 0, .null, .null, .null, .null, .null, .null, .null, .null, .int 0, .int 0, .int 0, .int 0, .int 0, .null, .null, .int 0, .null])), (q0_12, .inl (ka 1, 4, .inl (fun _ => 0))), (q1_12, .inl (ka 1, 4, .inl (fun _ => 0))), (q2_12, .inl (ka 1, 240, .inl (fun _ => 0))), (q3_12, .inl (ka 1, 60, .inl (fun _ => 0))), (q4_12, .inl (ka 1, 126, .inl (fun _ => 0))), (q5_12, .inl (ka 1, 3, .inl (fun _ => 0))), (q6_12, .inl (ka 1, 36, .inl (fun _ => 0))), (q7_12, .inl (ka 1, 24, .inl (fun _ => 0))), (q8_12, .inl (ka 1, 20, .inl (fun _ => 0)))]) 0 E hnm dX12_init_71 rfl ip_RX12_34 rfl rfl rfl (Nat.le_of_ble_eq_true rfl) rfl ?_
  refine ic_aload_n (pc' := 75) E dX12_init_74 rfl rfl ?_
  refine ic_bipush (pc' := 77) 40 E dX12_init_75 rfl (by decide +kernel) ?_
  refine ic_newI (pc' := 79) (N := 40) E dX12_init_77 rfl wi_51 (by decide +kernel) (by decide +kernel) (Nat.le_of_ble_eq_true rfl) (Nat.le_of_ble_eq_true rfl) (Nat.le_of_ble_eq_true rfl) (fun q9_12 => ?_)
  refine ic_nrm (ws' := [(h0, .inr (12, [.ref q0_12, .ref q1_12, .ref q2_12, .ref q3_12, .int 0, .ref q4_12, .ref q5_12, .int 0, .int 0, .ref q6_12, .int 0, .ref q7_12, .ref q8_12, .int 0, .int 0, .null, .null, .null, .null, .null, .null, .null, .null, .int 0, .int 0, .int 0, .int 0, .int 0, .null, .null, .int 0, .null])), (q0_12, .inl (ka 1, 4, .inl (fun _ => 0))), (q1_12, .inl (ka 1, 4, .inl (fun _ => 0))), (q2_12, .inl (ka 1, 240, .inl (fun _ => 0))), (q3_12, .inl (ka 1, 60, .inl (fun _ => 0))), (q4_12, .inl (ka 1, 126, .inl (fun _ => 0))), (q5_12, .inl (ka 1, 3, .inl (fun _ => 0))), (q6_12, .inl (ka 1, 36, .inl (fun _ => 0))), (q7_12, .inl (ka 1, 24, .inl (fun _ => 0))), (q8_12, .inl (ka 1, 20, .inl (fun _ => 0))), (q9_12, .inl (ka 1, 40, .inl (fun _ => 0)))]) (cs' := 10) (sl' := 557) rfl rfl rfl ?_
  refine ic_put (pc' := 82) (ws' := [(h0, .inr (12, [.ref q0_12, .ref q1_12, .ref q2_12, .ref q3_12, .int 0, .ref q4_12, .ref q5_12, .int 0, .int 0, .ref q6_12, .int 0, .ref q7_12, .ref q8_12, .int 0, .int 0, .ref q9_12, .null, .null, .null, .null, .null, .null, .null, .int 0, .int 0, .int 0, .int 0, .int 0, .null, .null, .int 0, .null])), (q0_12, .inl (ka 1, 4, .inl (fun _ => 0))), (q1_12, .inl (ka 1, 4, .inl (fun _ => 0))), (q2_12, .inl (ka 1, 240, .inl (fun _ => 0))), (q3_12, .inl (ka 1, 60, .inl (fun _ => 0))), (q4_12, .inl (ka 1, 126, .inl (fun _ => 0))), (q5_12, .inl (ka 1, 3, .inl (fun _ => 0))), (q6_12, .inl (ka 1, 36, .inl (fun _ => 0))), (q7_12, .inl (ka 1, 24, .inl (fun _ => 0))), (q8_12, .inl (ka 1, 20, .inl (fun _ => 0))), (q9_12, .inl (ka 1, 40, .inl (fun _ => 0)))]) 0 E hnm dX12_init_79 rfl ip_RX12_37 rfl rfl rfl (Nat.le_of_ble_eq_true rfl) rfl ?_
  refine ic_aload_n (pc' := 83) E dX12_init_82 rfl rfl ?_
  refine ic_bipush (pc' := 85) 8 E dX12_init_83 rfl (by decide +kernel) ?_
  refine ic_newI (pc' := 87) (N := 8) E dX12_init_85 rfl wi_51 (by decide +kernel) (by decide +kernel) (Nat.le_of_ble_eq_true rfl) (Nat.le_of_ble_eq_true rfl) (Nat.le_of_ble_eq_true rfl) (fun q10_12 => ?_)
  refine ic_nrm (ws' := [(h0, .inr (12, [.ref q0_12, .ref q1_12, .ref q2_12, .ref q3_12, .int 0, .ref q4_12, .ref q5_12, .int 0, .int 0, .ref q6_12, .int 0, .ref q7_12, .ref q8_12, .int 0, .int 0, .ref q9_12, .null, .null, .null, .null, .null, .null, .null, .int 0, .int 0, .int 0, .int 0, .int 0, .null, .null, .int 0, .null])), (q0_12, .inl (ka 1, 4, .inl (fun _ => 0))), (q1_12, .inl (ka 1, 4, .inl (fun _ => 0))), (q2_12, .inl (ka 1, 240, .inl (fun _ => 0))), (q3_12, .inl (ka 1, 60, .inl (fun _ => 0))), (q4_12, .inl (ka 1, 126, .inl (fun _ => 0))), (q5_12, .inl (ka 1, 3, .inl (fun _ => 0))), (q6_12, .inl (ka 1, 36, .inl (fun _ => 0))), (q7_12, .inl (ka 1, 24, .inl (fun _ => 0))), (q8_12, .inl (ka 1, 20, .inl (fun _ => 0))), (q9_12, .inl (ka 1, 40, .inl (fun _ => 0))), (q10_12, .inl (ka 1, 8, .inl (fun _ => 0)))]) (cs' := 11) (sl' := 565) rfl rfl rfl ?_
  refine ic_put (pc' := 90) (ws' := [(h0, .inr (12, [.ref q0_12, .ref q1_12, .ref q2_12, .ref q3_12, .int 0, .ref q4_12, .ref q5_12, .int 0, .int 0, .ref q6_12, .int 0, .ref q7_12, .ref q8_12, .int 0, .int 0, .ref q9_12, .ref q10_12, .null, .null, .null, .null, .null, .null, .int 0, .int 0, .int 0, .int 0, .int 0, .null, .null, .int 0, .null])), (q0_12, .inl (ka 1, 4, .inl (fun _ => 0))), (q1_12, .inl (ka 1, 4, .inl (fun _ => 0))), (q2_12, .inl (ka 1, 240, .inl (fun _ => 0))), (q3_12, .inl (ka 1, 60, .inl (fun _ => 0))), (q4_12, .inl (ka 1, 126, .inl (fun _ => 0))), (q5_12, .inl (ka 1, 3, .inl (fun _ => 0))), (q6_12, .inl (ka 1, 36, .inl (fun _ => 0))), (q7_12, .inl (ka 1, 24, .inl (fun _ => 0))), (q8_12, .inl (ka 1, 20, .inl (fun _ => 0))), (q9_12, .inl (ka 1, 40, .inl (fun _ => 0))), (q10_12, .inl (ka 1, 8, .inl (fun _ => 0)))]) 0 E hnm dX12_init_87 rfl ip_RX12_40 rfl rfl rfl (Nat.le_of_ble_eq_true rfl) rfl ?_
  refine ic_aload_n (pc' := 91) E dX12_init_90 rfl rfl ?_
  refine ic_bipush (pc' := 93) 8 E dX12_init_91 rfl (by decide +kernel) ?_
  refine ic_newI (pc' := 95) (N := 8) E dX12_init_93 rfl wi_51 (by decide +kernel) (by decide +kernel) (Nat.le_of_ble_eq_true rfl) (Nat.le_of_ble_eq_true rfl) (Nat.le_of_ble_eq_true rfl) (fun q11_12 => ?_)
  refine ic_nrm (ws' := [(h0, .inr (12, [.ref q0_12, .ref q1_12, .ref q2_12, .ref q3_12, .int 0, .ref q4_12, .ref q5_12, .int 0, .int 0, .ref q6_12, .int 0, .ref q7_12, .ref q8_12, .int 0, .int 0, .ref q9_12, .ref q10_12, .null, .null, .null, .null, .null, .null, .int 0, .int 0, .int 0, .int 0, .int 0, .null, .null, .int 0, .null])), (q0_12, .inl (ka 1, 4, .inl (fun _ => 0))), (q1_12, .inl (ka 1, 4, .inl (fun _ => 0))), (q2_12, .inl (ka 1, 240, .inl (fun _ => 0))), (q3_12, .inl (ka 1, 60, .inl (fun _ => 0))), (q4_12, .inl (ka 1, 126, .inl (fun _ => 0))), (q5_12, .inl (ka 1, 3, .inl (fun _ => 0))), (q6_12, .inl (ka 1, 36, .inl (fun _ => 0))), (q7_12, .inl (ka 1, 24, .inl (fun _ => 0))), (q8_12, .inl (ka 1, 20, .inl (fun _ => 0))), (q9_12, .inl (ka 1, 40, .inl (fun _ => 0))), (q10_12, .inl (ka 1, 8, .inl (fun _ => 0))), (q11_12, .inl (ka 1, 8, .inl (fun _ => 0)))]) (cs' := 12) (sl' := 573) rfl rfl rfl ?_
  refine ic_put (pc' := 98) (ws' := [(h0, .inr (12, [.ref q0_12, .ref q1_12, .ref q2_12, .ref q3_12, .int 0, .ref q4_12, .ref q5_12, .int 0, .int 0, .ref q6_12, .int 0, .ref q7_12, .ref q8_12, .int 0, .int 0, .ref q9_12, .ref q10_12, .ref q11_12, .null, .null, .null, .null, .null, .int 0, .int 0, .int 0, .int 0, .int 0, .null, .null, .int 0, .null])), (q0_12, .inl (ka 1, 4, .inl (fun _ => 0))), (q1_12, .inl (ka 1, 4, .inl (fun _ => 0))), (q2_12, .inl (ka 1, 240, .inl (fun _ => 0))), (q3_12, .inl (ka 1, 60, .inl (fun _ => 0))), (q4_12, .inl (ka 1, 126, .inl (fun _ => 0))), (q5_12, .inl (ka 1, 3, .inl (fun _ => 0))), (q6_12, .inl (ka 1, 36, .inl (fun _ => 0))), (q7_12, .inl (ka 1, 24, .inl (fun _ => 0))), (q8_12, .inl (ka 1, 20, .inl (fun _ => 0))), (q9_12, .inl (ka 1, 40, .inl (fun _ => 0))), (q10_12, .inl (ka 1, 8, .inl (fun _ => 0))), (q11_12, .inl (ka 1, 8, .inl (fun _ => 0)))]) 0 E hnm dX12_init_95 rfl ip_RX12_43 rfl rfl rfl (Nat.le_of_ble_eq_true rfl) rfl ?_
  refine ic_aload_n (pc' := 99) E dX12_init_98 rfl rfl ?_
  refine ic_bipush (pc' := 101) 8 E dX12_init_99 rfl (by decide +kernel) ?_
  refine ic_newI (pc' := 103) (N := 8) E dX12_init_101 rfl wi_51 (by decide +kernel) (by decide +kernel) (Nat.le_of_ble_eq_true rfl) (Nat.le_of_ble_eq_true rfl) (Nat.le_of_ble_eq_true rfl) (fun q12_12 => ?_)
  refine ic_nrm (ws' := [(h0, .inr (12, [.ref q0_12, .ref q1_12, .ref q2_12, .ref q3_12, .int 0, .ref q4_12, .ref q5_12, .int 0, .int 0, .ref q6_12, .int 0, .ref q7_12, .ref q8_12, .int 0, .int 0, .ref q9_12, .ref q10_12, .ref q11_12, .null, .null, .null, .null, .null, .int 0, .int 0, .int 0, .int 0, .int 0, .null, .null, .int 0, .null])), (q0_12, .inl (ka 1, 4, .inl (fun _ => 0))), (q1_12, .inl (ka 1, 4, .inl (fun _ => 0))), (q2_12, .inl (ka 1, 240, .inl (fun _ => 0))), (q3_12, .inl (ka 1, 60, .inl (fun _ => 0))), (q4_12, .inl (ka 1, 126, .inl (fun _ => 0))), (q5_12, .inl (ka 1, 3, .inl (fun _ => 0))), (q6_12, .inl (ka 1, 36, .inl (fun _ => 0))), (q7_12, .inl (ka 1, 24, .inl (fun _ => 0))), (q8_12, .inl (ka 1, 20, .inl (fun _ => 0))), (q9_12, .inl (ka 1, 40, .inl (fun _ => 0))), (q10_12, .inl (ka 1, 8, .inl (fun _ => 0))), (q11_12, .inl (ka 1, 8, .inl (fun _ => 0))), (q12_12, .inl (ka 1, 8, .inl (fun _ => 0)))]) (cs' := 13) (sl' := 581) rfl rfl rfl ?_
  refine ic_put (pc' := 106) (ws' := [(h0, .inr (12, [.ref q0_12, .ref q1_12, .ref q2_12, .ref q3_12, .int 0, .ref q4_12, .ref q5_12, .int 0, .int 0, .ref q6_12, .int 0, .ref q7_12, .ref q8_12, .int 0, .int 0, .ref q9_12, .ref q10_12, .ref q11_12, .ref q12_12, .null, .null, .null, .null, .int 0, .int 0, .int 0, .int 0, .int 0, .null, .null, .int 0, .null])), (q0_12, .inl (ka 1, 4, .inl (fun _ => 0))), (q1_12, .inl (ka 1, 4, .inl (fun _ => 0))), (q2_12, .inl (ka 1, 240, .inl (fun _ => 0))), (q3_12, .inl (ka 1, 60, .inl (fun _ => 0))), (q4_12, .inl (ka 1, 126, .inl (fun _ => 0))), (q5_12, .inl (ka 1, 3, .inl (fun _ => 0))), (q6_12, .inl (ka 1, 36, .inl (fun _ => 0))), (q7_12, .inl (ka 1, 24, .inl (fun _ => 0))), (q8_12, .inl (ka 1, 20, .inl (fun _ => 0))), (q9_12, .inl (ka 1, 40, .inl (fun _ => 0))), (q10_12, .inl (ka 1, 8, .inl (fun _ => 0))), (q11_12, .inl (ka 1, 8, .inl (fun _ => 0))), (q12_12, .inl (ka 1, 8, .inl (fun _ => 0)))]) 0 E hnm dX12_init_103 rfl ip_RX12_46 rfl rfl rfl (Nat.le_of_ble_eq_true rfl) rfl ?_
  refine ic_aload_n (pc' := 107) E dX12_init_106 rfl rfl ?_
  refine ic_bipush (pc' := 109) 8 E dX12_init_107 rfl (by decide +kernel) ?_
  refine ic_newI (pc' := 111) (N := 8) E dX12_init_109 rfl wi_51 (by decide +kernel) (by decide +kernel) (Nat.le_of_ble_eq_true rfl) (Nat.le_of_ble_eq_true rfl) (Nat.le_of_ble_eq_true rfl) (fun q13_12 => ?_)
  refine ic_nrm (ws' := [(h0, .inr (12, [.ref q0_12, .ref q1_12, .ref q2_12, .ref q3_12, .int 0, .ref q4_12, .ref q5_12, .int 0, .int 0, .ref q6_12, .int 0, .ref q7_12, .ref q8_12, .int 0, .int 0, .ref q9_12, .ref q10_12, .ref q11_12, .ref q12_12, .null, .null, .null, .null, .int 0, .int 0, .int 0, .int 0, .int 0, .null, .null, .int 0, .null])), (q0_12, .inl (ka 1, 4, .inl (fun _ => 0))), (q1_12, .inl (ka 1, 4, .inl (fun _ => 0))), (q2_12, .inl (ka 1, 240, .inl (fun _ => 0))), (q3_12, .inl (ka 1, 60, .inl (fun _ => 0))), (q4_12, .inl (ka 1, 126, .inl (fun _ => 0))), (q5_12, .inl (ka 1, 3, .inl (fun _ => 0))), (q6_12, .inl (ka 1, 36, .inl (fun _ => 0))), (q7_12, .inl (ka 1, 24, .inl (fun _ => 0))), (q8_12, .inl (ka 1, 20, .inl (fun _ => 0))), (q9_12, .inl (ka 1, 40, .inl (fun _ => 0))), (q10_12, .inl (ka 1, 8, .inl (fun _ => 0))), (q11_12, .inl (ka 1, 8, .inl (fun _ => 0))), (q12_12, .inl (ka 1, 8, .inl (fun _ => 0))), (q13_12, .inl (ka 1, 8, .inl (fun _ => 0)))]) (cs' := 14) (sl' := 589) rfl rfl rfl ?_
  refine ic_put (pc' := 114) (ws' := [(h0, .inr (12, [.ref q0_12, .ref q1_12, .ref q2_12, .ref q3_12, .int 0, .ref q4_12, .ref q5_12, .int 0, .int 0, .ref q6_12, .int 0, .ref q7_12, .ref q8_12, .int 0, .int 0, .ref q9_12, .ref q10_12, .ref q11_12, .ref q12_12, .ref q13_12, .null, .null, .null, .int 0, .int 0, .int 0, .int 0, .int 0, .null, .null, .int 0, .null])), (q0_12, .inl (ka 1, 4, .inl (fun _ => 0))), (q1_12, .inl (ka 1, 4, .inl (fun _ => 0))), (q2_12, .inl (ka 1, 240, .inl (fun _ => 0))), (q3_12, .inl (ka 1, 60, .inl (fun _ => 0))), (q4_12, .inl (ka 1, 126, .inl (fun _ => 0))), (q5_12, .inl (ka 1, 3, .inl (fun _ => 0))), (q6_12, .inl (ka 1, 36, .inl (fun _ => 0))), (q7_12, .inl (ka 1, 24, .inl (fun _ => 0))), (q8_12, .inl (ka 1, 20, .inl (fun _ => 0))), (q9_12, .inl (ka 1, 40, .inl (fun _ => 0))), (q10_12, .inl (ka 1, 8, .inl (fun _ => 0))), (q11_12, .inl (ka 1, 8, .inl (fun _ => 0))), (q12_12, .inl (ka 1, 8, .inl (fun _ => 0))), (q13_12, .inl (ka 1, 8, .inl (fun _ => 0)))]) 0 E hnm dX12_init_111 rfl ip_RX12_49 rfl rfl rfl (Nat.le_of_ble_eq_true rfl) rfl ?_
  refine ic_aload_n (pc' := 115) E dX12_init_114 rfl rfl ?_
  refine ic_sipush (pc' := 118) 640 E dX12_init_115 rfl (by decide +kernel) ?_
  refine ic_newI (pc' := 120) (N := 640) E dX12_init_118 rfl wi_51 (by decide +kernel) (by decide +kernel) (Nat.le_of_ble_eq_true rfl) (Nat.le_of_ble_eq_true rfl) (Nat.le_of_ble_eq_true rfl) (fun q14_12 => ?_)
  refine ic_nrm (ws' := [(h0, .inr (12, [.ref q0_12, .ref q1_12, .ref q2_12, .ref q3_12, .int 0, .ref q4_12, .ref q5_12, .int 0, .int 0, .ref q6_12, .int 0, .ref q7_12, .ref q8_12, .int 0, .int 0, .ref q9_12, .ref q10_12, .ref q11_12, .ref q12_12, .ref q13_12, .null, .null, .null, .int 0, .int 0, .int 0, .int 0, .int 0, .null, .null, .int 0, .null])), (q0_12, .inl (ka 1, 4, .inl (fun _ => 0))), (q1_12, .inl (ka 1, 4, .inl (fun _ => 0))), (q2_12, .inl (ka 1, 240, .inl (fun _ => 0))), (q3_12, .inl (ka 1, 60, .inl (fun _ => 0))), (q4_12, .inl (ka 1, 126, .inl (fun _ => 0))), (q5_12, .inl (ka 1, 3, .inl (fun _ => 0))), (q6_12, .inl (ka 1, 36, .inl (fun _ => 0))), (q7_12, .inl (ka 1, 24, .inl (fun _ => 0))), (q8_12, .inl (ka 1, 20, .inl (fun _ => 0))), (q9_12, .inl (ka 1, 40, .inl (fun _ => 0))), (q10_12, .inl (ka 1, 8, .inl (fun _ => 0))), (q11_12, .inl (ka 1, 8, .inl (fun _ => 0))), (q12_12, .inl (ka 1, 8, .inl (fun _ => 0))), (q13_12, .inl (ka 1, 8, .inl (fun _ => 0))), (q14_12, .inl (ka 1, 640, .inl (fun _ => 0)))]) (cs' := 15) (sl' := 1229) rfl rfl rfl ?_
  refine ic_put (pc' := 123) (ws' := [(h0, .inr (12, [.ref q0_12, .ref q1_12, .ref q2_12, .ref q3_12, .int 0, .ref q4_12, .ref q5_12, .int 0, .int 0, .ref q6_12, .int 0, .ref q7_12, .ref q8_12, .int 0, .int 0, .ref q9_12, .ref q10_12, .ref q11_12, .ref q12_12, .ref q13_12, .ref q14_12, .null, .null, .int 0, .int 0, .int 0, .int 0, .int 0, .null, .null, .int 0, .null])), (q0_12, .inl (ka 1, 4, .inl (fun _ => 0))), (q1_12, .inl (ka 1, 4, .inl (fun _ => 0))), (q2_12, .inl (ka 1, 240, .inl (fun _ => 0))), (q3_12, .inl (ka 1, 60, .inl (fun _ => 0))), (q4_12, .inl (ka 1, 126, .inl (fun _ => 0))), (q5_12, .inl (ka 1, 3, .inl (fun _ => 0))), (q6_12, .inl (ka 1, 36, .inl (fun _ => 0))), (q7_12, .inl (ka 1, 24, .inl (fun _ => 0))), (q8_12, .inl (ka 1, 20, .inl (fun _ => 0))), (q9_12, .inl (ka 1, 40, .inl (fun _ => 0))), (q10_12, .inl (ka 1, 8, .inl (fun _ => 0))), (q11_12, .inl (ka 1, 8, .inl (fun _ => 0))), (q12_12, .inl (ka 1, 8, .inl (fun _ => 0))), (q13_12, .inl (ka 1, 8, .inl (fun _ => 0))), (q14_12, .inl (ka 1, 640, .inl (fun _ => 0)))]) 0 E hnm dX12_init_120 rfl ip_RX12_52 rfl rfl rfl (Nat.le_of_ble_eq_true rfl) rfl ?_
  refine ic_aload_n (pc' := 124) E dX12_init_123 rfl rfl ?_
  refine ic_bipush (pc' := 126) 8 E dX12_init_124 rfl (by decide +kernel) ?_
  refine ic_newI (pc' := 128) (N := 8) E dX12_init_126 rfl wi_51 (by decide +kernel) (by decide +kernel) (Nat.le_of_ble_eq_true rfl) (Nat.le_of_ble_eq_true rfl) (Nat.le_of_ble_eq_true rfl) (fun q15_12 => ?_)
  refine ic_nrm (ws' := [(h0, .inr (12, [.ref q0_12, .ref q1_12, .ref q2_12, .ref q3_12, .int 0, .ref q4_12, .ref q5_12, .int 0, .int 0, .ref q6_12, .int 0, .ref q7_12, .ref q8_12, .int 0, .int 0, .ref q9_12, .ref q10_12, .ref q11_12, .ref q12_12, .ref q13_12, .ref q14_12, .null, .null, .int 0, .int 0, .int 0, .int 0, .int 0, .null, .null, .int 0, .null])), (q0_12, .inl (ka 1, 4, .inl (fun _ => 0))), (q1_12, .inl (ka 1, 4, .inl (fun _ => 0))), (q2_12, .inl (ka 1, 240, .inl (fun _ => 0))), (q3_12, .inl (ka 1, 60, .inl (fun _ => 0))), (q4_12, .inl (ka 1, 126, .inl (fun _ => 0))), (q5_12, .inl (ka 1, 3, .inl (fun _ => 0))), (q6_12, .inl (ka 1, 36, .inl (fun _ => 0))), (q7_12, .inl (ka 1, 24, .inl (fun _ => 0))), (q8_12, .inl (ka 1, 20, .inl (fun _ => 0))), (q9_12, .inl (ka 1, 40, .inl (fun _ => 0))), (q10_12, .inl (ka 1, 8, .inl (fun _ => 0))), (q11_12, .inl (ka 1, 8, .inl (fun _ => 0))), (q12_12, .inl (ka 1, 8, .inl (fun _ => 0))), (q13_12, .inl (ka 1, 8, .inl (fun _ => 0))), (q14_12, .inl (ka 1, 640, .inl (fun _ => 0))), (q15_12, .inl (ka 1, 8, .inl (fun _ => 0)))]) (cs' := 16) (sl' := 1237) rfl rfl rfl ?_
  refine ic_put (pc' := 131) (ws' := [(h0, .inr (12, [.ref q0_12, .ref q1_12, .ref q2_12, .ref q3_12, .int 0, .ref q4_12, .ref q5_12, .int 0, .int 0, .ref q6_12, .int 0, .ref q7_12, .ref q8_12, .int 0, .int 0, .ref q9_12, .ref q10_12, .ref q11_12, .ref q12_12, .ref q13_12, .ref q14_12, .ref q15_12, .null, .int 0, .int 0, .int 0, .int 0, .int 0, .null, .null, .int 0, .null])), (q0_12, .inl (ka 1, 4, .inl (fun _ => 0))), (q1_12, .inl (ka 1, 4, .inl (fun _ => 0))), (q2_12, .inl (ka 1, 240, .inl (fun _ => 0))), (q3_12, .inl (ka 1, 60, .inl (fun _ => 0))), (q4_12, .inl (ka 1, 126, .inl (fun _ => 0))), (q5_12, .inl (ka 1, 3, .inl (fun _ => 0))), (q6_12, .inl (ka 1, 36, .inl (fun _ => 0))), (q7_12, .inl (ka 1, 24, .inl (fun _ => 0))), (q8_12, .inl (ka 1, 20, .inl (fun _ => 0))), (q9_12, .inl (ka 1, 40, .inl (fun _ => 0))), (q10_12, .inl (ka 1, 8, .inl (fun _ => 0))), (q11_12, .inl (ka 1, 8, .inl (fun _ => 0))), (q12_12, .inl (ka 1, 8, .inl (fun _ => 0))), (q13_12, .inl (ka 1, 8, .inl (fun _ => 0))), (q14_12, .inl (ka 1, 640, .inl (fun _ => 0))), (q15_12, .inl (ka 1, 8, .inl (fun _ => 0)))]) 0 E hnm dX12_init_128 rfl ip_RX12_55 rfl rfl rfl (Nat.le_of_ble_eq_true rfl) rfl ?_
  refine ic_aload_n (pc' := 132) E dX12_init_131 rfl rfl ?_
  refine ic_bipush (pc' := 134) 8 E dX12_init_132 rfl (by decide +kernel) ?_
  refine ic_newI (pc' := 136) (N := 8) E dX12_init_134 rfl wi_51 (by decide +kernel) (by decide +kernel) (Nat.le_of_ble_eq_true rfl) (Nat.le_of_ble_eq_true rfl) (Nat.le_of_ble_eq_true rfl) (fun q16_12 => ?_)
  refine ic_nrm (ws' := [(h0, .inr (12, [.ref q0_12, .ref q1_12, .ref q2_12, .ref q3_12, .int 0, .ref q4_12, .ref q5_12, .int 0, .int 0, .ref q6_12, .int 0, .ref q7_12, .ref q8_12, .int 0, .int 0, .ref q9_12, .ref q10_12, .ref q11_12, .ref q12_12, .ref q13_12, .ref q14_12, .ref q15_12, .null, .int 0, .int 0, .int 0, .int 0, .int 0, .null, .null, .int 0, .null])), (q0_12, .inl (ka 1, 4, .inl (fun _ => 0))), (q1_12, .inl (ka 1, 4, .inl (fun _ => 0))), (q2_12, .inl (ka 1, 240, .inl (fun _ => 0))), (q3_12, .inl (ka 1, 60, .inl (fun _ => 0))), (q4_12, .inl (ka 1, 126, .inl (fun _ => 0))), (q5_12, .inl (ka 1, 3, .inl (fun _ => 0))), (q6_12, .inl (ka 1, 36, .inl (fun _ => 0))), (q7_12, .inl (ka 1, 24, .inl (fun _ => 0))), (q8_12, .inl (ka 1, 20, .inl (fun _ => 0))), (q9_12, .inl (ka 1, 40, .inl (fun _ => 0))), (q10_12, .inl (ka 1, 8, .inl (fun _ => 0))), (q11_12, .inl (ka 1, 8, .inl (fun _ => 0))), (q12_12, .inl (ka 1, 8, .inl (fun _ => 0))), (q13_12, .inl (ka 1, 8, .inl (fun _ => 0))), (q14_12, .inl (ka 1, 640, .inl (fun _ => 0))), (q15_12, .inl (ka 1, 8, .inl (fun _ => 0))), (q16_12, .inl (ka 1, 8, .inl (fun _ => 0)))]) (cs' := 17) (sl' := 1245) rfl rfl rfl ?_
  refine ic_put (pc' := 139) (ws' := [(h0, .inr (12, [.ref q0_12, .ref q1_12, .ref q2_12, .ref q3_12, .int 0, .ref q4_12, .ref q5_12, .int 0, .int 0, .ref q6_12, .int 0, .ref q7_12, .ref q8_12, .int 0, .int 0, .ref q9_12, .ref q10_12, .ref q11_12, .ref q12_12, .ref q13_12, .ref q14_12, .ref q15_12, .ref q16_12, .int 0, .int 0, .int 0, .int 0, .int 0, .null, .null, .int 0, .null])), (q0_12, .inl (ka 1, 4, .inl (fun _ => 0))), (q1_12, .inl (ka 1, 4, .inl (fun _ => 0))), (q2_12, .inl (ka 1, 240, .inl (fun _ => 0))), (q3_12, .inl (ka 1, 60, .inl (fun _ => 0))), (q4_12, .inl (ka 1, 126, .inl (fun _ => 0))), (q5_12, .inl (ka 1, 3, .inl (fun _ => 0))), (q6_12, .inl (ka 1, 36, .inl (fun _ => 0))), (q7_12, .inl (ka 1, 24, .inl (fun _ => 0))), (q8_12, .inl (ka 1, 20, .inl (fun _ => 0))), (q9_12, .inl (ka 1, 40, .inl (fun _ => 0))), (q10_12, .inl (ka 1, 8, .inl (fun _ => 0))), (q11_12, .inl (ka 1, 8, .inl (fun _ => 0))), (q12_12, .inl (ka 1, 8, .inl (fun _ => 0))), (q13_12, .inl (ka 1, 8, .inl (fun _ => 0))), (q14_12, .inl (ka 1, 640, .inl (fun _ => 0))), (q15_12, .inl (ka 1, 8, .inl (fun _ => 0))), (q16_12, .inl (ka 1, 8, .inl (fun _ => 0)))]) 0 E hnm dX12_init_136 rfl ip_RX12_58 rfl rfl rfl (Nat.le_of_ble_eq_true rfl) rfl ?_
  refine ic_aload_n (pc' := 140) E dX12_init_139 rfl rfl ?_
  refine ic_bipush (pc' := 142) 16 E dX12_init_140 rfl (by decide +kernel) ?_
  refine ic_newI (pc' := 144) (N := 16) E dX12_init_142 rfl wi_51 (by decide +kernel) (by decide +kernel) (Nat.le_of_ble_eq_true rfl) (Nat.le_of_ble_eq_true rfl) (Nat.le_of_ble_eq_true rfl) (fun q17_12 => ?_)
  refine ic_nrm (ws' := [(h0, .inr (12, [.ref q0_12, .ref q1_12, .ref q2_12, .ref q3_12, .int 0, .ref q4_12, .ref q5_12, .int 0, .int 0, .ref q6_12, .int 0, .ref q7_12, .ref q8_12, .int 0, .int 0, .ref q9_12, .ref q10_12, .ref q11_12, .ref q12_12, .ref q13_12, .ref q14_12, .ref q15_12, .ref q16_12, .int 0, .int 0, .int 0, .int 0, .int 0, .null, .null, .int 0, .null])), (q0_12, .inl (ka 1, 4, .inl (fun _ => 0))), (q1_12, .inl (ka 1, 4, .inl (fun _ => 0))), (q2_12, .inl (ka 1, 240, .inl (fun _ => 0))), (q3_12, .inl (ka 1, 60, .inl (fun _ => 0))), (q4_12, .inl (ka 1, 126, .inl (fun _ => 0))), (q5_12, .inl (ka 1, 3, .inl (fun _ => 0))), (q6_12, .inl (ka 1, 36, .inl (fun _ => 0))), (q7_12, .inl (ka 1, 24, .inl (fun _ => 0))), (q8_12, .inl (ka 1, 20, .inl (fun _ => 0))), (q9_12, .inl (ka 1, 40, .inl (fun _ => 0))), (q10_12, .inl (ka 1, 8, .inl (fun _ => 0))), (q11_12, .inl (ka 1, 8, .inl (fun _ => 0))), (q12_12, .inl (ka 1, 8, .inl (fun _ => 0))), (q13_12, .inl (ka 1, 8, .inl (fun _ => 0))), (q14_12, .inl (ka 1, 640, .inl (fun _ => 0))), (q15_12, .inl (ka 1, 8, .inl (fun _ => 0))), (q16_12, .inl (ka 1, 8, .inl (fun _ => 0))), (q17_12, .inl (ka 1, 16, .inl (fun _ => 0)))]) (cs' := 18) (sl' := 1261) rfl rfl rfl ?_
  refine ic_put (pc' := 147) (ws' := [(h0, .inr (12, [.ref q0_12, .ref q1_12, .ref q2_12, .ref q3_12, .int 0, .ref q4_12, .ref q5_12, .int 0, .int 0, .ref q6_12, .int 0, .ref q7_12, .ref q8_12, .int 0, .int 0, .ref q9_12, .ref q10_12, .ref q11_12, .ref q12_12, .ref q13_12, .ref q14_12, .ref q15_12, .ref q16_12, .int 0, .int 0, .int 0, .int 0, .int 0, .ref q17_12, .null, .int 0, .null])), (q0_12, .inl (ka 1, 4, .inl (fun _ => 0))), (q1_12, .inl (ka 1, 4, .inl (fun _ => 0))), (q2_12, .inl (ka 1, 240, .inl (fun _ => 0))), (q3_12, .inl (ka 1, 60, .inl (fun _ => 0))), (q4_12, .inl (ka 1, 126, .inl (fun _ => 0))), (q5_12, .inl (ka 1, 3, .inl (fun _ => 0))), (q6_12, .inl (ka 1, 36, .inl (fun _ => 0))), (q7_12, .inl (ka 1, 24, .inl (fun _ => 0))), (q8_12, .inl (ka 1, 20, .inl (fun _ => 0))), (q9_12, .inl (ka 1, 40, .inl (fun _ => 0))), (q10_12, .inl (ka 1, 8, .inl (fun _ => 0))), (q11_12, .inl (ka 1, 8, .inl (fun _ => 0))), (q12_12, .inl (ka 1, 8, .inl (fun _ => 0))), (q13_12, .inl (ka 1, 8, .inl (fun _ => 0))), (q14_12, .inl (ka 1, 640, .inl (fun _ => 0))), (q15_12, .inl (ka 1, 8, .inl (fun _ => 0))), (q16_12, .inl (ka 1, 8, .inl (fun _ => 0))), (q17_12, .inl (ka 1, 16, .inl (fun _ => 0)))]) 0 E hnm dX12_init_144 rfl ip_RX12_61 rfl rfl rfl (Nat.le_of_ble_eq_true rfl) rfl ?_
  refine ic_aload_n (pc' := 148) E dX12_init_147 rfl rfl ?_
  refine ic_bipush (pc' := 150) 40 E dX12_init_148 rfl (by decide +kernel) ?_
  refine ic_newI (pc' := 152) (N := 40) E dX12_init_150 rfl wi_51 (by decide +kernel) (by decide +kernel) (Nat.le_of_ble_eq_true rfl) (Nat.le_of_ble_eq_true rfl) (Nat.le_of_ble_eq_true rfl) (fun q18_12 => ?_)
  refine ic_nrm (ws' := [(h0, .inr (12, [.ref q0_12, .ref q1_12, .ref q2_12, .ref q3_12, .int 0, .ref q4_12, .ref q5_12, .int 0, .int 0, .ref q6_12, .int 0, .ref q7_12, .ref q8_12, .int 0, .int 0, .ref q9_12, .ref q10_12, .ref q11_12, .ref q12_12, .ref q13_12, .ref q14_12, .ref q15_12, .ref q16_12, .int 0, .int 0, .int 0, .int 0, .int 0, .ref q17_12, .null, .int 0, .null])), (q0_12, .inl (ka 1, 4, .inl (fun _ => 0))), (q1_12, .inl (ka 1, 4, .inl (fun _ => 0))), (q2_12, .inl (ka 1, 240, .inl (fun _ => 0))), (q3_12, .inl (ka 1, 60, .inl (fun _ => 0))), (q4_12, .inl (ka 1, 126, .inl (fun _ => 0))), (q5_12, .inl (ka 1, 3, .inl (fun _ => 0))), (q6_12, .inl (ka 1, 36, .inl (fun _ => 0))), (q7_12, .inl (ka 1, 24, .inl (fun _ => 0))), (q8_12, .inl (ka 1, 20, .inl (fun _ => 0))), (q9_12, .inl (ka 1, 40, .inl (fun _ => 0))), (q10_12, .inl (ka 1, 8, .inl (fun _ => 0))), (q11_12, .inl (ka 1, 8, .inl (fun _ => 0))), (q12_12, .inl (ka 1, 8, .inl (fun _ => 0))), (q13_12, .inl (ka 1, 8, .inl (fun _ => 0))), (q14_12, .inl (ka 1, 640, .inl (fun _ => 0))), (q15_12, .inl (ka 1, 8, .inl (fun _ => 0))), (q16_12, .inl (ka 1, 8, .inl (fun _ => 0))), (q17_12, .inl (ka 1, 16, .inl (fun _ => 0))), (q18_12, .inl (ka 1, 40, .inl (fun _ => 0)))]) (cs' := 19) (sl' := 1301) rfl rfl rfl ?_
  refine ic_put (pc' := 155) (ws' := [(h0, .inr (12, [.ref q0_12, .ref q1_12, .ref q2_12, .ref q3_12, .int 0, .ref q4_12, .ref q5_12, .int 0, .int 0, .ref q6_12, .int 0, .ref q7_12, .ref q8_12, .int 0, .int 0, .ref q9_12, .ref q10_12, .ref q11_12, .ref q12_12, .ref q13_12, .ref q14_12, .ref q15_12, .ref q16_12, .int 0, .int 0, .int 0, .int 0, .int 0, .ref q17_12, .ref q18_12, .int 0, .null])), (q0_12, .inl (ka 1, 4, .inl (fun _ => 0))), (q1_12, .inl (ka 1, 4, .inl (fun _ => 0))), (q2_12, .inl (ka 1, 240, .inl (fun _ => 0))), (q3_12, .inl (ka 1, 60, .inl (fun _ => 0))), (q4_12, .inl (ka 1, 126, .inl (fun _ => 0))), (q5_12, .inl (ka 1, 3, .inl (fun _ => 0))), (q6_12, .inl (ka 1, 36, .inl (fun _ => 0))), (q7_12, .inl (ka 1, 24, .inl (fun _ => 0))), (q8_12, .inl (ka 1, 20, .inl (fun _ => 0))), (q9_12, .inl (ka 1, 40, .inl (fun _ => 0))), (q10_12, .inl (ka 1, 8, .inl (fun _ => 0))), (q11_12, .inl (ka 1, 8, .inl (fun _ => 0))), (q12_12, .inl (ka 1, 8, .inl (fun _ => 0))), (q13_12, .inl (ka 1, 8, .inl (fun _ => 0))), (q14_12, .inl (ka 1, 640, .inl (fun _ => 0))), (q15_12, .inl (ka 1, 8, .inl (fun _ => 0))), (q16_12, .inl (ka 1, 8, .inl (fun _ => 0))), (q17_12, .inl (ka 1, 16, .inl (fun _ => 0))), (q18_12, .inl (ka 1, 40, .inl (fun _ => 0)))]) 0 E hnm dX12_init_152 rfl ip_RX12_64 rfl rfl rfl (Nat.le_of_ble_eq_true rfl) rfl ?_
  refine ic_aload_n (pc' := 156) E dX12_init_155 rfl rfl ?_
  refine ic_bipush (pc' := 158) 40 E dX12_init_156 rfl (by decide +kernel) ?_
  refine ic_newI (pc' := 160) (N := 40) E dX12_init_158 rfl wi_51 (by decide +kernel) (by decide +kernel) (Nat.le_of_ble_eq_true rfl) (Nat.le_of_ble_eq_true rfl) (Nat.le_of_ble_eq_true rfl) (fun q19_12 => ?_)
  refine ic_nrm (ws' := [(h0, .inr (12, [.ref q0_12, .ref q1_12, .ref q2_12, .ref q3_12, .int 0, .ref q4_12, .ref q5_12, .int 0, .int 0, .ref q6_12, .int 0, .ref q7_12, .ref q8_12, .int 0, .int 0, .ref q9_12, .ref q10_12, .ref q11_12, .ref q12_12, .ref q13_12, .ref q14_12, .ref q15_12, .ref q16_12, .int 0, .int 0, .int 0, .int 0, .int 0, .ref q17_12, .ref q18_12, .int 0, .null])), (q0_12, .inl (ka 1, 4, .inl (fun _ => 0))), (q1_12, .inl (ka 1, 4, .inl (fun _ => 0))), (q2_12, .inl (ka 1, 240, .inl (fun _ => 0))), (q3_12, .inl (ka 1, 60, .inl (fun _ => 0))), (q4_12, .inl (ka 1, 126, .inl (fun _ => 0))), (q5_12, .inl (ka 1, 3, .inl (fun _ => 0))), (q6_12, .inl (ka 1, 36, .inl (fun _ => 0))), (q7_12, .inl (ka 1, 24, .inl (fun _ => 0))), (q8_12, .inl (ka 1, 20, .inl (fun _ => 0))), (q9_12, .inl (ka 1, 40, .inl (fun _ => 0))), (q10_12, .inl (ka 1, 8, .inl (fun _ => 0))), (q11_12, .inl (ka 1, 8, .inl (fun _ => 0))), (q12_12, .inl (ka 1, 8, .inl (fun _ => 0))), (q13_12, .inl (ka 1, 8, .inl (fun _ => 0))), (q14_12, .inl (ka 1, 640, .inl (fun _ => 0))), (q15_12, .inl (ka 1, 8, .inl (fun _ => 0))), (q16_12, .inl (ka 1, 8, .inl (fun _ => 0))), (q17_12, .inl (ka 1, 16, .inl (fun _ => 0))), (q18_12, .inl (ka 1, 40, .inl (fun _ => 0))), (q19_12, .inl (ka 1, 40, .inl (fun _ => 0)))]) (cs' := 20) (sl' := 1341) rfl rfl rfl ?_
  refine ic_put (pc' := 163) (ws' := [(h0, .inr (12, [.ref q0_12, .ref q1_12, .ref q2_12, .ref q3_12, .int 0, .ref q4_12, .ref q5_12, .int 0, .int 0, .ref q6_12, .int 0, .ref q7_12, .ref q8_12, .int 0, .int 0, .ref q9_12, .ref q10_12, .ref q11_12, .ref q12_12, .ref q13_12, .ref q14_12, .ref q15_12, .ref q16_12, .int 0, .int 0, .int 0, .int 0, .int 0, .ref q17_12, .ref q18_12, .int 0, .ref q19_12])), (q0_12, .inl (ka 1, 4, .inl (fun _ => 0))), (q1_12, .inl (ka 1, 4, .inl (fun _ => 0))), (q2_12, .inl (ka 1, 240, .inl (fun _ => 0))), (q3_12, .inl (ka 1, 60, .inl (fun _ => 0))), (q4_12, .inl (ka 1, 126, .inl (fun _ => 0))), (q5_12, .inl (ka 1, 3, .inl (fun _ => 0))), (q6_12, .inl (ka 1, 36, .inl (fun _ => 0))), (q7_12, .inl (ka 1, 24, .inl (fun _ => 0))), (q8_12, .inl (ka 1, 20, .inl (fun _ => 0))), (q9_12, .inl (ka 1, 40, .inl (fun _ => 0))), (q10_12, .inl (ka 1, 8, .inl (fun _ => 0))), (q11_12, .inl (ka 1, 8, .inl (fun _ => 0))), (q12_12, .inl (ka 1, 8, .inl (fun _ => 0))), (q13_12, .inl (ka 1, 8, .inl (fun _ => 0))), (q14_12, .inl (ka 1, 640, .inl (fun _ => 0))), (q15_12, .inl (ka 1, 8, .inl (fun _ => 0))), (q16_12, .inl (ka 1, 8, .inl (fun _ => 0))), (q17_12, .inl (ka 1, 16, .inl (fun _ => 0))), (q18_12, .inl (ka 1, 40, .inl (fun _ => 0))), (q19_12, .inl (ka 1, 40, .inl (fun _ => 0)))]) 0 E hnm dX12_init_160 rfl ip_RX12_67 rfl rfl rfl (Nat.le_of_ble_eq_true rfl) rfl ?_
  refine ic_iconst (pc' := 164) 0 E dX12_init_163 rfl (by decide +kernel) ?_
  refine ic_istore_n (pc' := 165) (lv' := [(1, .int 0), (0, .ref h0)]) E dX12_init_164 rfl (by decide) rfl ?_
  refine ic_iload_n (pc' := 166) E dX12_init_165 rfl rfl ?_
  refine ic_iconst (pc' := 167) 4 E dX12_init_166 rfl (by decide +kernel) ?_
  refine ic_ge_f (pc' := 170) (tgt := 183) E dX12_init_167 (by decide) rfl (by decide +kernel) ?_
  refine ic_aload_n (pc' := 171) E dX12_init_170 rfl rfl ?_
  refine ic_get (pc' := 174) (v := .ref q0_12) 0 E dX12_init_171 rfl ip_RX12_7 rfl rfl ?_
  refine ic_iload_n (pc' := 175) E dX12_init_174 rfl rfl ?_
  refine ic_iconst (pc' := 176) (-1) E dX12_init_175 rfl (by decide +kernel) ?_
  refine ic_iast (pc' := 177) (ws' := [(h0, .inr (12, [.ref q0_12, .ref q1_12, .ref q2_12, .ref q3_12, .int 0, .ref q4_12, .ref q5_12, .int 0, .int 0, .ref q6_12, .int 0, .ref q7_12, .ref q8_12, .int 0, .int 0, .ref q9_12, .ref q10_12, .ref q11_12, .ref q12_12, .ref q13_12, .ref q14_12, .ref q15_12, .ref q16_12, .int 0, .int 0, .int 0, .int 0, .int 0, .ref q17_12, .ref q18_12, .int 0, .ref q19_12])), (q0_12, .inl (ka 1, 4, .inl (upd (fun _ => 0) 0 (-1)))), (q1_12, .inl (ka 1, 4, .inl (fun _ => 0))), (q2_12, .inl (ka 1, 240, .inl (fun _ => 0))), (q3_12, .inl (ka 1, 60, .inl (fun _ => 0))), (q4_12, .inl (ka 1, 126, .inl (fun _ => 0))), (q5_12, .inl (ka 1, 3, .inl (fun _ => 0))), (q6_12, .inl (ka 1, 36, .inl (fun _ => 0))), (q7_12, .inl (ka 1, 24, .inl (fun _ => 0))), (q8_12, .inl (ka 1, 20, .inl (fun _ => 0))), (q9_12, .inl (ka 1, 40, .inl (fun _ => 0))), (q10_12, .inl (ka 1, 8, .inl (fun _ => 0))), (q11_12, .inl (ka 1, 8, .inl (fun _ => 0))), (q12_12, .inl (ka 1, 8, .inl (fun _ => 0))), (q13_12, .inl (ka 1, 8, .inl (fun _ => 0))), (q14_12, .inl (ka 1, 640, .inl (fun _ => 0))), (q15_12, .inl (ka 1, 8, .inl (fun _ => 0))), (q16_12, .inl (ka 1, 8, .inl (fun _ => 0))), (q17_12, .inl (ka 1, 16, .inl (fun _ => 0))), (q18_12, .inl (ka 1, 40, .inl (fun _ => 0))), (q19_12, .inl (ka 1, 40, .inl (fun _ => 0)))]) 1 E dX12_init_176 rfl rfl (by unfold vp_in; decide +kernel) rfl ?_
  refine ic_iinc (pc' := 180) (lv' := [(1, .int 1), (0, .ref h0)]) (j := 0) 1 E dX12_init_177 rfl rfl (by decide +kernel) (by decide) rfl ?_
  refine ic_goto (pc' := 165) E dX12_init_180 (by decide) ?_
  refine ic_iload_n (pc' := 166) E dX12_init_165 rfl rfl ?_
  refine ic_iconst (pc' := 167) 4 E dX12_init_166 rfl (by decide +kernel) ?_
  refine ic_ge_f (pc' := 170) (tgt := 183) E dX12_init_167 (by decide) rfl (by decide +kernel) ?_
  refine ic_aload_n (pc' := 171) E dX12_init_170 rfl rfl ?_
  refine ic_get (pc' := 174) (v := .ref q0_12) 0 E dX12_init_171 rfl ip_RX12_7 rfl rfl ?_
  refine ic_iload_n (pc' := 175) E dX12_init_174 rfl rfl ?_
  refine ic_iconst (pc' := 176) (-1) E dX12_init_175 rfl (by decide +kernel) ?_
  refine ic_iast (pc' := 177) (ws' := [(h0, .inr (12, [.ref q0_12, .ref q1_12, .ref q2_12, .ref q3_12, .int 0, .ref q4_12, .ref q5_12, .int 0, .int 0, .ref q6_12, .int 0, .ref q7_12, .ref q8_12, .int 0, .int 0, .ref q9_12, .ref q10_12, .ref q11_12, .ref q12_12, .ref q13_12, .ref q14_12, .ref q15_12, .ref q16_12, .int 0, .int 0, .int 0, .int 0, .int 0, .ref q17_12, .ref q18_12, .int 0, .ref q19_12])), (q0_12, .inl (ka 1, 4, .inl (upd (upd (fun _ => 0) 0 (-1)) 1 (-1)))), (q1_12, .inl (ka 1, 4, .inl (fun _ => 0))), (q2_12, .inl (ka 1, 240, .inl (fun _ => 0))), (q3_12, .inl (ka 1, 60, .inl (fun _ => 0))), (q4_12, .inl (ka 1, 126, .inl (fun _ => 0))), (q5_12, .inl (ka 1, 3, .inl (fun _ => 0))), (q6_12, .inl (ka 1, 36, .inl (fun _ => 0))), (q7_12, .inl (ka 1, 24, .inl (fun _ => 0))), (q8_12, .inl (ka 1, 20, .inl (fun _ => 0))), (q9_12, .inl (ka 1, 40, .inl (fun _ => 0))), (q10_12, .inl (ka 1, 8, .inl (fun _ => 0))), (q11_12, .inl (ka 1, 8, .inl (fun _ => 0))), (q12_12, .inl (ka 1, 8, .inl (fun _ => 0))), (q13_12, .inl (ka 1, 8, .inl (fun _ => 0))), (q14_12, .inl (ka 1, 640, .inl (fun _ => 0))), (q15_12, .inl (ka 1, 8, .inl (fun _ => 0))), (q16_12, .inl (ka 1, 8, .inl (fun _ => 0))), (q17_12, .inl (ka 1, 16, .inl (fun _ => 0))), (q18_12, .inl (ka 1, 40, .inl (fun _ => 0))), (q19_12, .inl (ka 1, 40, .inl (fun _ => 0)))]) 1 E dX12_init_176 rfl rfl (by unfold vp_in; decide +kernel) rfl ?_
  refine ic_iinc (pc' := 180) (lv' := [(1, .int 2), (0, .ref h0)]) (j := 0) 2 E dX12_init_177 rfl rfl (by decide +kernel) (by decide) rfl ?_
  refine ic_goto (pc' := 165) E dX12_init_180 (by decide) ?_
  refine ic_iload_n (pc' := 166) E dX12_init_165 rfl rfl ?_
  refine ic_iconst (pc' := 167) 4 E dX12_init_166 rfl (by decide +kernel) ?_
  refine ic_ge_f (pc' := 170) (tgt := 183) E dX12_init_167 (by decide) rfl (by decide +kernel) ?_
  refine ic_aload_n (pc' := 171) E dX12_init_170 rfl rfl ?_
  refine ic_get (pc' := 174) (v := .ref q0_12) 0 E dX12_init_171 rfl ip_RX12_7 rfl rfl ?_
  refine ic_iload_n (pc' := 175) E dX12_init_174 rfl rfl ?_
  refine ic_iconst (pc' := 176) (-1) E dX12_init_175 rfl (by decide +kernel) ?_
  refine ic_iast (pc' := 177) (ws' := [(h0, .inr (12, [.ref q0_12, .ref q1_12, .ref q2_12, .ref q3_12, .int 0, .ref q4_12, .ref q5_12, .int 0, .int 0, .ref q6_12, .int 0, .ref q7_12, .ref q8_12, .int 0, .int 0, .ref q9_12, .ref q10_12, .ref q11_12, .ref q12_12, .ref q13_12, .ref q14_12, .ref q15_12, .ref q16_12, .int 0, .int 0, .int 0, .int 0, .int 0, .ref q17_12, .ref q18_12, .int 0, .ref q19_12])), (q0_12, .inl (ka 1, 4, .inl (upd (upd (upd (fun _ => 0) 0 (-1)) 1 (-1)) 2 (-1)))), (q1_12, .inl (ka 1, 4, .inl (fun _ => 0))), (q2_12, .inl (ka 1, 240, .inl (fun _ => 0))), (q3_12, .inl (ka 1, 60, .inl (fun _ => 0))), (q4_12, .inl (ka 1, 126, .inl (fun _ => 0))), (q5_12, .inl (ka 1, 3, .inl (fun _ => 0))), (q6_12, .inl (ka 1, 36, .inl (fun _ => 0))), (q7_12, .inl (ka 1, 24, .inl (fun _ => 0))), (q8_12, .inl (ka 1, 20, .inl (fun _ => 0))), (q9_12, .inl (ka 1, 40, .inl (fun _ => 0))), (q10_12, .inl (ka 1, 8, .inl (fun _ => 0))), (q11_12, .inl (ka 1, 8, .inl (fun _ => 0))), (q12_12, .inl (ka 1, 8, .inl (fun _ => 0))), (q13_12, .inl (ka 1, 8, .inl (fun _ => 0))), (q14_12, .inl (ka 1, 640, .inl (fun _ => 0))), (q15_12, .inl (ka 1, 8, .inl (fun _ => 0))), (q16_12, .inl (ka 1, 8, .inl (fun _ => 0))), (q17_12, .inl (ka 1, 16, .inl (fun _ => 0))), (q18_12, .inl (ka 1, 40, .inl (fun _ => 0))), (q19_12, .inl (ka 1, 40, .inl (fun _ => 0)))]) 1 E dX12_init_176 rfl rfl (by unfold vp_in; decide +kernel) rfl ?_
  refine ic_iinc (pc' := 180) (lv' := [(1, .int 3), (0, .ref h0)]) (j := 0) 3 E dX12_init_177 rfl rfl (by decide +kernel) (by decide) rfl ?_
  refine ic_goto (pc' := 165) E dX12_init_180 (by decide) ?_
  refine ic_iload_n (pc' := 166) E dX12_init_165 rfl rfl ?_
  refine ic_iconst (pc' := 167) 4 E dX12_init_166 rfl (by decide +kernel) ?_
  refine ic_ge_f (pc' := 170) (tgt := 183) E dX12_init_167 (by decide) rfl (by decide +kernel) ?_
  refine ic_aload_n (pc' := 171) E dX12_init_170 rfl rfl ?_
  refine ic_get (pc' := 174) (v := .ref q0_12) 0 E dX12_init_171 rfl ip_RX12_7 rfl rfl ?_
  refine ic_iload_n (pc' := 175) E dX12_init_174 rfl rfl ?_
  refine ic_iconst (pc' := 176) (-1) E dX12_init_175 rfl (by decide +kernel) ?_
  refine ic_iast (pc' := 177) (ws' := [(h0, .inr (12, [.ref q0_12, .ref q1_12, .ref q2_12, .ref q3_12, .int 0, .ref q4_12, .ref q5_12, .int 0, .int 0, .ref q6_12, .int 0, .ref q7_12, .ref q8_12, .int 0, .int 0, .ref q9_12, .ref q10_12, .ref q11_12, .ref q12_12, .ref q13_12, .ref q14_12, .ref q15_12, .ref q16_12, .int 0, .int 0, .int 0, .int 0, .int 0, .ref q17_12, .ref q18_12, .int 0, .ref q19_12])), (q0_12, .inl (ka 1, 4, .inl (upd (upd (upd (upd (fun _ => 0) 0 (-1)) 1 (-1)) 2 (-1)) 3 (-1)))), (q1_12, .inl (ka 1, 4, .inl (fun _ => 0))), (q2_12, .inl (ka 1, 240, .inl (fun _ => 0))), (q3_12, .inl (ka 1, 60, .inl (fun _ => 0))), (q4_12, .inl (ka 1, 126, .inl (fun _ => 0))), (q5_12, .inl (ka 1, 3, .inl (fun _ => 0))), (q6_12, .inl (ka 1, 36, .inl (fun _ => 0))), (q7_12, .inl (ka 1, 24, .inl (fun _ => 0))), (q8_12, .inl (ka 1, 20, .inl (fun _ => 0))), (q9_12, .inl (ka 1, 40, .inl (fun _ => 0))), (q10_12, .inl (ka 1, 8, .inl (fun _ => 0))), (q11_12, .inl (ka 1, 8, .inl (fun _ => 0))), (q12_12, .inl (ka 1, 8, .inl (fun _ => 0))), (q13_12, .inl (ka 1, 8, .inl (fun _ => 0))), (q14_12, .inl (ka 1, 640, .inl (fun _ => 0))), (q15_12, .inl (ka 1, 8, .inl (fun _ => 0))), (q16_12, .inl (ka 1, 8, .inl (fun _ => 0))), (q17_12, .inl (ka 1, 16, .inl (fun _ => 0))), (q18_12, .inl (ka 1, 40, .inl (fun _ => 0))), (q19_12, .inl (ka 1, 40, .inl (fun _ => 0)))]) 1 E dX12_init_176 rfl rfl (by unfold vp_in; decide +kernel) rfl ?_
  refine ic_iinc (pc' := 180) (lv' := [(1, .int 4), (0, .ref h0)]) (j := 0) 4 E dX12_init_177 rfl rfl (by decide +kernel) (by decide) rfl ?_
  refine ic_goto (pc' := 165) E dX12_init_180 (by decide) ?_
  refine ic_iload_n (pc' := 166) E dX12_init_165 rfl rfl ?_
  refine ic_iconst (pc' := 167) 4 E dX12_init_166 rfl (by decide +kernel) ?_
  refine ic_ge_t (pc' := 183) E dX12_init_167 (by decide) (by decide +kernel) ?_
  refine ic_aload_n (pc' := 184) E dX12_init_183 rfl rfl ?_
  refine ic_iconst (pc' := 185) 2 E dX12_init_184 rfl (by decide +kernel) ?_
  refine ic_put (pc' := 188) (ws' := [(h0, .inr (12, [.ref q0_12, .ref q1_12, .ref q2_12, .ref q3_12, .int 0, .ref q4_12, .ref q5_12, .int 0, .int 0, .ref q6_12, .int 0, .ref q7_12, .ref q8_12, .int 2, .int 0, .ref q9_12, .ref q10_12, .ref q11_12, .ref q12_12, .ref q13_12, .ref q14_12, .ref q15_12, .ref q16_12, .int 0, .int 0, .int 0, .int 0, .int 0, .ref q17_12, .ref q18_12, .int 0, .ref q19_12])), (q0_12, .inl (ka 1, 4, .inl (upd (upd (upd (upd (fun _ => 0) 0 (-1)) 1 (-1)) 2 (-1)) 3 (-1)))), (q1_12, .inl (ka 1, 4, .inl (fun _ => 0))), (q2_12, .inl (ka 1, 240, .inl (fun _ => 0))), (q3_12, .inl (ka 1, 60, .inl (fun _ => 0))), (q4_12, .inl (ka 1, 126, .inl (fun _ => 0))), (q5_12, .inl (ka 1, 3, .inl (fun _ => 0))), (q6_12, .inl (ka 1, 36, .inl (fun _ => 0))), (q7_12, .inl (ka 1, 24, .inl (fun _ => 0))), (q8_12, .inl (ka 1, 20, .inl (fun _ => 0))), (q9_12, .inl (ka 1, 40, .inl (fun _ => 0))), (q10_12, .inl (ka 1, 8, .inl (fun _ => 0))), (q11_12, .inl (ka 1, 8, .inl (fun _ => 0))), (q12_12, .inl (ka 1, 8, .inl (fun _ => 0))), (q13_12, .inl (ka 1, 8, .inl (fun _ => 0))), (q14_12, .inl (ka 1, 640, .inl (fun _ => 0))), (q15_12, .inl (ka 1, 8, .inl (fun _ => 0))), (q16_12, .inl (ka 1, 8, .inl (fun _ => 0))), (q17_12, .inl (ka 1, 16, .inl (fun _ => 0))), (q18_12, .inl (ka 1, 40, .inl (fun _ => 0))), (q19_12, .inl (ka 1, 40, .inl (fun _ => 0)))]) 0 E hnm dX12_init_185 rfl ip_RX12_70 rfl rfl rfl (Nat.le_of_ble_eq_true rfl) rfl ?_
  exact ic_ret E hrt hlk dX12_init_188 (Nat.le_of_ble_eq_true rfl) (Nat.le_of_ble_eq_true rfl) ⟨q0_12, q1_12, q2_12, q3_12, q4_12, q5_12, q6_12, q7_12, q8_12, q9_12, q10_12, q11_12, q12_12, q13_12, q14_12, q15_12, q16_12, q17_12, q18_12, q19_12, rfl⟩
