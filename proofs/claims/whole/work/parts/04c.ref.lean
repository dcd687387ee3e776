def f_X12_priceOf (x1 : Int32) (v_fall : Int32) (v_kindOf : Nat → Int32) (v_stopsAt : Nat → Int32) (v_sumOf : Nat → Int32) : Option (Int32) := (if x1 < 0 ∨ 5 ≤ Int32.toNatClampNeg x1 then none else (if (v_kindOf (Int32.toNatClampNeg x1)) = 4 then (bnd ((10 * (v_sumOf (Int32.toNatClampNeg x1))) - 0) fun z5 => (if 0 ≤ z5 then (some z5) else (some 0))) else (bnd ((10 * (v_sumOf (Int32.toNatClampNeg x1))) - (v_fall * ((v_stopsAt (Int32.toNatClampNeg x1)) - 1))) fun z3 => (if 0 ≤ z3 then (some z3) else (some 0)))))
set_option maxRecDepth 100000 in
set_option maxHeartbeats 4000000 in
theorem c_X12_priceOf (l : Launch) (g : GG) (aM : Nat) (rM : Nat → Nat) (x1 : Int32) (v_halls : Int32) (v_bidders : Int32) (v_fall : Int32) (v_heard : Int32) (v_asks : Int32) (v_pageLength : Int32) (v_isWhole : Int32) (v_newMany : Int32) (v_seedNow : Int64) (v_isKept : Int32) (v_keptHall : Int32) (v_keptHeard : Int32) (v_h : Int64) (v_kindOf : Nat → Int32) (v_stopsAt : Nat → Int32) (v_sumOf : Nat → Int32) {r0 : Int32} (hf : f_X12_priceOf x1 v_fall v_kindOf v_stopsAt v_sumOf = some r0) : MR l g yX12_priceOf cX12_priceOf 3 (some .int) 0 0 [.ref aM, .int x1] [ob aM 12 (oM rM v_halls v_bidders v_fall v_heard v_asks v_pageLength v_isWhole v_newMany v_seedNow v_isKept v_keptHall v_keptHeard v_h), ia g (rM 3) 5 v_kindOf, ia g (rM 17) 5 v_stopsAt, ia g (rM 5) 5 v_sumOf] (some (.int r0)) := by
  refine MR.mk (by decide) (Nat.le_of_ble_eq_true rfl) ?_
  intro p e s m args below meth c ls Q F hK hP hl hQ
  have hx := F.1
  have hb := F.2.1
  have hml := F.2.2.2.1
  have hown := F.2.2.2.2.1
  have hts := F.2.2.2.2.2.1
  have hl : lv_has ls 3 [(0, .ref aM), (1, .int x1)] := hl
  unfold f_X12_priceOf at hf
  refine lv_bipush (v := 10) hx hb dX12_priceOf_0 (by decide) ?_
  refine lv_aload_n hx hb dX12_priceOf_2 rfl (lv_at hl 0 rfl) ?_
  refine w_get (ci := 12) F hK hP fb_X12 0 rfl rfl 5 (by decide) fl_X12_16 (fun _ h => h) rfl dX12_priceOf_3 ?_
  refine lv_iload_n hx hb dX12_priceOf_6 rfl (lv_at hl 1 rfl) ?_
  obtain ⟨h1, hf⟩ := o_chk hf
  refine w_iald F hK hP 3 rfl h1 dX12_priceOf_7 ?_
  refine lv_imul hx hb dX12_priceOf_8 ?_
  refine lv_aload_n hx hb dX12_priceOf_9 rfl (lv_at hl 0 rfl) ?_
  refine w_get (ci := 12) F hK hP fb_X12 0 rfl rfl 3 (by decide) fl_X12_7 (fun _ h => h) rfl dX12_priceOf_10 ?_
  refine lv_iload_n hx hb dX12_priceOf_13 rfl (lv_at hl 1 rfl) ?_
  refine w_iald F hK hP 1 rfl h1 dX12_priceOf_14 ?_
  refine lv_iconst (v := 4) hx hb dX12_priceOf_15 (by decide) ?_
  refine lv_icmp_ne (tgt := 23) hx hb dX12_priceOf_16 (by decide) (fun h2 => ?_) (fun h2 => ?_)
  · have hf := o_f h2 hf
    refine lv_aload_n hx hb dX12_priceOf_23 rfl (lv_at hl 0 rfl) ?_
    refine w_get (ci := 12) F hK hP fb_X12 0 rfl rfl 2 (by decide) fl_X12_92 (fun _ h => h) rfl dX12_priceOf_24 ?_
    refine lv_aload_n hx hb dX12_priceOf_27 rfl (lv_at hl 0 rfl) ?_
    refine w_get (ci := 12) F hK hP fb_X12 0 rfl rfl 17 (by decide) fl_X12_38 (fun _ h => h) rfl dX12_priceOf_28 ?_
    refine lv_iload_n hx hb dX12_priceOf_31 rfl (lv_at hl 1 rfl) ?_
    refine w_iald F hK hP 2 rfl h1 dX12_priceOf_32 ?_
    refine lv_iconst (v := 1) hx hb dX12_priceOf_33 (by decide) ?_
    refine lv_isub hx hb dX12_priceOf_34 ?_
    refine lv_imul hx hb dX12_priceOf_35 ?_
    refine lv_isub hx hb dX12_priceOf_36 ?_
    refine lv_topi (fun z3 ez3 => ?_)
    have hf := o_bnd ez3 hf
    refine lv_istore_n (lv' := [(2, .int z3), (0, .ref aM), (1, .int x1)]) hx hb dX12_priceOf_37 rfl hl (by decide) rfl (fun ls hl => ?_)
    refine lv_iload_n hx hb dX12_priceOf_38 rfl (lv_at hl 0 rfl) ?_
    refine lv_if_ge (tgt := 46) hx hb dX12_priceOf_39 (by decide) (fun h4 => ?_) (fun h4 => ?_)
    · have hf := o_t h4 hf
      refine lv_iload_n hx hb dX12_priceOf_46 rfl (lv_at hl 0 rfl) ?_
      exact r_ri F hQ (Option.some.inj hf) dX12_priceOf_47
    · have hf := o_f h4 hf
      refine lv_iconst (v := 0) hx hb dX12_priceOf_42 (by decide) ?_
      refine lv_goto (tgt := 47) hx hb dX12_priceOf_43 (by decide) ?_
      exact r_ri F hQ (Option.some.inj hf) dX12_priceOf_47
  · have hf := o_t h2 hf
    refine lv_iconst (v := 0) hx hb dX12_priceOf_19 (by decide) ?_
    refine lv_goto (tgt := 36) hx hb dX12_priceOf_20 (by decide) ?_
    refine lv_isub hx hb dX12_priceOf_36 ?_
    refine lv_topi (fun z5 ez5 => ?_)
    have hf := o_bnd ez5 hf
    refine lv_istore_n (lv' := [(2, .int z5), (0, .ref aM), (1, .int x1)]) hx hb dX12_priceOf_37 rfl hl (by decide) rfl (fun ls hl => ?_)
    refine lv_iload_n hx hb dX12_priceOf_38 rfl (lv_at hl 0 rfl) ?_
    refine lv_if_ge (tgt := 46) hx hb dX12_priceOf_39 (by decide) (fun h6 => ?_) (fun h6 => ?_)
    · have hf := o_t h6 hf
      refine lv_iload_n hx hb dX12_priceOf_46 rfl (lv_at hl 0 rfl) ?_
      exact r_ri F hQ (Option.some.inj hf) dX12_priceOf_47
    · have hf := o_f h6 hf
      refine lv_iconst (v := 0) hx hb dX12_priceOf_42 (by decide) ?_
      refine lv_goto (tgt := 47) hx hb dX12_priceOf_43 (by decide) ?_
      exact r_ri F hQ (Option.some.inj hf) dX12_priceOf_47
def f_X12_gainOf (x1 : Int32) (v_bidders : Int32) (v_fall : Int32) (v_kindOf : Nat → Int32) (v_stopsAt : Nat → Int32) (v_sumOf : Nat → Int32) (v_wishOf : Nat → Int32) : Option (Int32) := ((f_X12_getter v_bidders v_kindOf v_stopsAt).bind fun q1 => (if q1 = x1 then (if x1 < 0 ∨ 5 ≤ Int32.toNatClampNeg x1 then none else ((f_X12_priceOf x1 v_fall v_kindOf v_stopsAt v_sumOf).bind fun q4 => (some ((10 * (v_wishOf (Int32.toNatClampNeg x1))) - q4)))) else (some 0)))
set_option maxRecDepth 100000 in
set_option maxHeartbeats 4000000 in
theorem c_X12_gainOf (l : Launch) (g : GG) (aM : Nat) (rM : Nat → Nat) (x1 : Int32) (v_halls : Int32) (v_bidders : Int32) (v_fall : Int32) (v_heard : Int32) (v_asks : Int32) (v_pageLength : Int32) (v_isWhole : Int32) (v_newMany : Int32) (v_seedNow : Int64) (v_isKept : Int32) (v_keptHall : Int32) (v_keptHeard : Int32) (v_h : Int64) (v_kindOf : Nat → Int32) (v_stopsAt : Nat → Int32) (v_sumOf : Nat → Int32) (v_wishOf : Nat → Int32) {r0 : Int32} (hf : f_X12_gainOf x1 v_bidders v_fall v_kindOf v_stopsAt v_sumOf v_wishOf = some r0) : MR l g yX12_gainOf cX12_gainOf 2 (some .int) 3 69 [.ref aM, .int x1] [ob aM 12 (oM rM v_halls v_bidders v_fall v_heard v_asks v_pageLength v_isWhole v_newMany v_seedNow v_isKept v_keptHall v_keptHeard v_h), ia g (rM 3) 5 v_kindOf, ia g (rM 17) 5 v_stopsAt, ia g (rM 5) 5 v_sumOf, ia g (rM 6) 5 v_wishOf] (some (.int r0)) := by
  refine MR.mk (by decide) (Nat.le_of_ble_eq_true rfl) ?_
  intro p e s m args below meth c ls Q F hK hP hl hQ
  have hx := F.1
  have hb := F.2.1
  have hml := F.2.2.2.1
  have hown := F.2.2.2.2.1
  have hts := F.2.2.2.2.2.1
  have hl : lv_has ls 2 [(0, .ref aM), (1, .int x1)] := hl
  unfold f_X12_gainOf at hf
  refine lv_aload_n hx hb dX12_gainOf_0 rfl (lv_at hl 0 rfl) ?_
  obtain ⟨q1, hq1, hf⟩ := o_bind hf
  refine k_rV F (c_X12_getter l g aM rM v_halls v_bidders v_fall v_heard v_asks v_pageLength v_isWhole v_newMany v_seedNow v_isKept v_keptHall v_keptHeard v_h v_kindOf v_stopsAt hq1) qv_X12_getter ml_X12_117 (hP.sub [0, 1, 2] rfl) hK (va_recv hK.1 hP (ci := 12) (q0 := 0) rfl rfl) rfl hl.1 rfl (Nat.le_of_ble_eq_true rfl) dX12_gainOf_1 ⟨(Nat.le_of_ble_eq_true rfl), (Nat.le_of_ble_eq_true rfl)⟩ ⟨(Nat.le_of_ble_eq_true rfl), (Nat.le_of_ble_eq_true rfl)⟩ ?_
  refine W.eq (g2 := F0 m 4 ls (.int q1 :: [])) rfl ?_
  refine lv_iload_n hx hb dX12_gainOf_4 rfl (lv_at hl 1 rfl) ?_
  refine lv_icmp_ne (tgt := 26) hx hb dX12_gainOf_5 (by decide) (fun h2 => ?_) (fun h2 => ?_)
  · have hf := o_f h2 hf
    refine lv_iconst (v := 0) hx hb dX12_gainOf_26 (by decide) ?_
    exact r_ri F hQ (Option.some.inj hf) dX12_gainOf_27
  · have hf := o_t h2 hf
    refine lv_bipush (v := 10) hx hb dX12_gainOf_8 (by decide) ?_
    refine lv_aload_n hx hb dX12_gainOf_10 rfl (lv_at hl 0 rfl) ?_
    refine w_get (ci := 12) F hK hP fb_X12 0 rfl rfl 6 (by decide) fl_X12_19 (fun _ h => h) rfl dX12_gainOf_11 ?_
    refine lv_iload_n hx hb dX12_gainOf_14 rfl (lv_at hl 1 rfl) ?_
    obtain ⟨h3, hf⟩ := o_chk hf
    refine w_iald F hK hP 4 rfl h3 dX12_gainOf_15 ?_
    refine lv_imul hx hb dX12_gainOf_16 ?_
    refine lv_aload_n hx hb dX12_gainOf_17 rfl (lv_at hl 0 rfl) ?_
    refine lv_iload_n hx hb dX12_gainOf_18 rfl (lv_at hl 1 rfl) ?_
    obtain ⟨q4, hq4, hf⟩ := o_bind hf
    refine k_rV F (c_X12_priceOf l g aM rM x1 v_halls v_bidders v_fall v_heard v_asks v_pageLength v_isWhole v_newMany v_seedNow v_isKept v_keptHall v_keptHeard v_h v_kindOf v_stopsAt v_sumOf hq4) qv_X12_priceOf ml_X12_120 (hP.sub [0, 1, 2, 3] rfl) hK (va_recv hK.1 hP (ci := 12) (q0 := 0) rfl rfl) rfl hl.1 rfl (Nat.le_of_ble_eq_true rfl) dX12_gainOf_19 ⟨(Nat.le_of_ble_eq_true rfl), (Nat.le_of_ble_eq_true rfl)⟩ ⟨(Nat.le_of_ble_eq_true rfl), (Nat.le_of_ble_eq_true rfl)⟩ ?_
    refine W.eq (g2 := F0 m 22 ls (.int q4 :: [.int (10 * (v_wishOf (Int32.toNatClampNeg x1)))])) rfl ?_
    refine lv_isub hx hb dX12_gainOf_22 ?_
    refine lv_goto (tgt := 27) hx hb dX12_gainOf_23 (by decide) ?_
    exact r_ri F hQ (Option.some.inj hf) dX12_gainOf_27
def f_X12_bidderNow (x1 : Int32) (x2 : Int32) (v_bidders : Int32) (v_choiceOf : Nat → Int32) (v_fall : Int32) (v_kindOf : Nat → Int32) (v_stopsAt : Nat → Int32) (v_sumOf : Nat → Int32) (v_touchedBy : Nat → Int32) (v_windOf : Nat → Int32) (v_wishOf : Nat → Int32) : Option (Int32 × (Nat → Int32)) := ((f_X12_layStops v_bidders v_choiceOf v_kindOf v_stopsAt v_touchedBy v_windOf).bind fun q1 => (if x2 = 0 then (if x1 < 0 ∨ 5 ≤ Int32.toNatClampNeg x1 then none else (some ((v_kindOf (Int32.toNatClampNeg x1)), q1))) else (if x2 = 1 then (if x1 < 0 ∨ 5 ≤ Int32.toNatClampNeg x1 then none else (some ((v_windOf (Int32.toNatClampNeg x1)), q1))) else (if x2 = 2 then (if x1 < 0 ∨ 5 ≤ Int32.toNatClampNeg x1 then none else (some ((v_sumOf (Int32.toNatClampNeg x1)), q1))) else (if x2 = 3 then (if x1 < 0 ∨ 5 ≤ Int32.toNatClampNeg x1 then none else (some ((v_wishOf (Int32.toNatClampNeg x1)), q1))) else (if x2 = 4 then (if x1 < 0 ∨ 5 ≤ Int32.toNatClampNeg x1 then none else (some ((v_choiceOf (Int32.toNatClampNeg x1)), q1))) else (if x2 = 5 then (if x1 < 0 ∨ 5 ≤ Int32.toNatClampNeg x1 then none else (some ((q1 (Int32.toNatClampNeg x1)), q1))) else (if x2 = 6 then ((f_X12_silentFrom x1 v_kindOf q1).bind fun q15 => (some (q15, q1))) else (if x2 = 7 then ((f_X12_priceOf x1 v_fall v_kindOf q1 v_sumOf).bind fun q17 => (some (q17, q1))) else (if x2 = 8 then ((f_X12_gainOf x1 v_bidders v_fall v_kindOf q1 v_sumOf v_wishOf).bind fun q19 => (some (q19, q1))) else (if x1 < 0 ∨ 5 ≤ Int32.toNatClampNeg x1 then none else (some ((v_touchedBy (Int32.toNatClampNeg x1)), q1)))))))))))))
set_option maxRecDepth 100000 in
set_option maxHeartbeats 4000000 in
theorem c_X12_bidderNow (l : Launch) (g : GG) (aM : Nat) (rM : Nat → Nat) (x1 : Int32) (x2 : Int32) (v_halls : Int32) (v_bidders : Int32) (v_fall : Int32) (v_heard : Int32) (v_asks : Int32) (v_pageLength : Int32) (v_isWhole : Int32) (v_newMany : Int32) (v_seedNow : Int64) (v_isKept : Int32) (v_keptHall : Int32) (v_keptHeard : Int32) (v_h : Int64) (v_choiceOf : Nat → Int32) (v_kindOf : Nat → Int32) (v_stopsAt : Nat → Int32) (v_sumOf : Nat → Int32) (v_touchedBy : Nat → Int32) (v_windOf : Nat → Int32) (v_wishOf : Nat → Int32) {r0 : Int32} {r1 : Nat → Int32} (hf : f_X12_bidderNow x1 x2 v_bidders v_choiceOf v_fall v_kindOf v_stopsAt v_sumOf v_touchedBy v_windOf v_wishOf = some (r0, r1)) : MD l g yX12_bidderNow cX12_bidderNow 3 (some .int) 4 90 [.ref aM, .int x1, .int x2] [ob aM 12 (oM rM v_halls v_bidders v_fall v_heard v_asks v_pageLength v_isWhole v_newMany v_seedNow v_isKept v_keptHall v_keptHeard v_h), ia g (rM 7) 5 v_choiceOf, ia g (rM 3) 5 v_kindOf, ia g (rM 17) 5 v_stopsAt, ia g (rM 5) 5 v_sumOf, ia g (rM 8) 5 v_touchedBy, ia g (rM 4) 5 v_windOf, ia g (rM 6) 5 v_wishOf] (some (.int r0)) [ob aM 12 (oM rM v_halls v_bidders v_fall v_heard v_asks v_pageLength v_isWhole v_newMany v_seedNow v_isKept v_keptHall v_keptHeard v_h), ia g (rM 7) 5 v_choiceOf, ia g (rM 3) 5 v_kindOf, ia g (rM 17) 5 r1, ia g (rM 5) 5 v_sumOf, ia g (rM 8) 5 v_touchedBy, ia g (rM 4) 5 v_windOf, ia g (rM 6) 5 v_wishOf] := by
  refine MC.mk (by decide) (Nat.le_of_ble_eq_true rfl) ?_
  intro p e s m args below meth c ls Q A F hnm hK hw hA hl hQ
  have hP := hw.1
  have hx := F.1
  have hb := F.2.1
  have hml := F.2.2.2.1
  have hown := F.2.2.2.2.1
  have hts := F.2.2.2.2.2.1
  have hl : lv_has ls 3 [(0, .ref aM), (1, .int x1), (2, .int x2)] := hl
  unfold f_X12_bidderNow at hf
  refine lv_aload_n hx hb dX12_bidderNow_0 rfl (lv_at hl 0 rfl) ?_
  obtain ⟨q1, hq1, hf⟩ := o_bind hf
  refine k_dV (wr := [ia g (rM 5) 5 v_sumOf, ia g (rM 6) 5 v_wishOf]) (ws' := [ob aM 12 (oM rM v_halls v_bidders v_fall v_heard v_asks v_pageLength v_isWhole v_newMany v_seedNow v_isKept v_keptHall v_keptHeard v_h), ia g (rM 7) 5 v_choiceOf, ia g (rM 3) 5 v_kindOf, ia g (rM 17) 5 q1, ia g (rM 5) 5 v_sumOf, ia g (rM 8) 5 v_touchedBy, ia g (rM 4) 5 v_windOf, ia g (rM 6) 5 v_wishOf]) F (c_X12_layStops l g aM rM v_halls v_bidders v_fall v_heard v_asks v_pageLength v_isWhole v_newMany v_seedNow v_isKept v_keptHall v_keptHeard v_h v_choiceOf v_kindOf v_stopsAt v_touchedBy v_windOf hq1) qv_X12_layStops ml_X12_123 hw hA hK [0, 1, 2, 3, 5, 6] [4, 7] [2, 3, 4, 5, 0, 6, 7, 1] rfl rfl rfl rfl rfl (by decide) rfl rfl rfl (va_recv hK.1 hP (ci := 12) (q0 := 0) rfl rfl) rfl hl.1 rfl (Nat.le_of_ble_eq_true rfl) dX12_bidderNow_1 ⟨(Nat.le_of_ble_eq_true rfl), (Nat.le_of_ble_eq_true rfl)⟩ ⟨(Nat.le_of_ble_eq_true rfl), (Nat.le_of_ble_eq_true rfl)⟩ (fun H locs hw => ?_)
  have hP := hw.1
  refine W.eq (g2 := F0 m 4 ls ([])) rfl ?_
  refine lv_iload_n hx hb dX12_bidderNow_4 rfl (lv_at hl 2 rfl) ?_
  by_cases h2 : x2 = 0
  · have hf := o_t h2 hf
    refine lv_tableIn (off := 51) (tgt := 56) hx hb dX12_bidderNow_5 (by rw [h2]; decide) (by rw [h2]; decide) (by rw [h2]; rfl) (by decide) ?_
    refine lv_aload_n hx hb dX12_bidderNow_56 rfl (lv_at hl 0 rfl) ?_
    refine w_get (ci := 12) F hK hP fb_X12 0 rfl rfl 3 (by decide) fl_X12_7 (fun _ h => h) rfl dX12_bidderNow_57 ?_
    refine lv_iload_n hx hb dX12_bidderNow_60 rfl (lv_at hl 1 rfl) ?_
    obtain ⟨h3, hf⟩ := o_chk hf
    refine w_iald F hK hP 2 rfl h3 dX12_bidderNow_61 ?_
    cases hf
    exact r_ci F hQ ⟨rfl, rfl⟩ hw dX12_bidderNow_62
  · have hf := o_f h2 hf
    by_cases h4 : x2 = 1
    · have hf := o_t h4 hf
      refine lv_tableIn (off := 58) (tgt := 63) hx hb dX12_bidderNow_5 (by rw [h4]; decide) (by rw [h4]; decide) (by rw [h4]; rfl) (by decide) ?_
      refine lv_aload_n hx hb dX12_bidderNow_63 rfl (lv_at hl 0 rfl) ?_
      refine w_get (ci := 12) F hK hP fb_X12 0 rfl rfl 4 (by decide) fl_X12_13 (fun _ h => h) rfl dX12_bidderNow_64 ?_
      refine lv_iload_n hx hb dX12_bidderNow_67 rfl (lv_at hl 1 rfl) ?_
      obtain ⟨h5, hf⟩ := o_chk hf
      refine w_iald F hK hP 6 rfl h5 dX12_bidderNow_68 ?_
      cases hf
      exact r_ci F hQ ⟨rfl, rfl⟩ hw dX12_bidderNow_69
    · have hf := o_f h4 hf
      by_cases h6 : x2 = 2
      · have hf := o_t h6 hf
        refine lv_tableIn (off := 65) (tgt := 70) hx hb dX12_bidderNow_5 (by rw [h6]; decide) (by rw [h6]; decide) (by rw [h6]; rfl) (by decide) ?_
        refine lv_aload_n hx hb dX12_bidderNow_70 rfl (lv_at hl 0 rfl) ?_
        refine w_get (ci := 12) F hK hP fb_X12 0 rfl rfl 5 (by decide) fl_X12_16 (fun _ h => h) rfl dX12_bidderNow_71 ?_
        refine lv_iload_n hx hb dX12_bidderNow_74 rfl (lv_at hl 1 rfl) ?_
        obtain ⟨h7, hf⟩ := o_chk hf
        refine w_iald F hK hP 4 rfl h7 dX12_bidderNow_75 ?_
        cases hf
        exact r_ci F hQ ⟨rfl, rfl⟩ hw dX12_bidderNow_76
      · have hf := o_f h6 hf
        by_cases h8 : x2 = 3
        · have hf := o_t h8 hf
          refine lv_tableIn (off := 72) (tgt := 77) hx hb dX12_bidderNow_5 (by rw [h8]; decide) (by rw [h8]; decide) (by rw [h8]; rfl) (by decide) ?_
          refine lv_aload_n hx hb dX12_bidderNow_77 rfl (lv_at hl 0 rfl) ?_
          refine w_get (ci := 12) F hK hP fb_X12 0 rfl rfl 6 (by decide) fl_X12_19 (fun _ h => h) rfl dX12_bidderNow_78 ?_
          refine lv_iload_n hx hb dX12_bidderNow_81 rfl (lv_at hl 1 rfl) ?_
          obtain ⟨h9, hf⟩ := o_chk hf
          refine w_iald F hK hP 7 rfl h9 dX12_bidderNow_82 ?_
          cases hf
          exact r_ci F hQ ⟨rfl, rfl⟩ hw dX12_bidderNow_83
        · have hf := o_f h8 hf
          by_cases h10 : x2 = 4
          · have hf := o_t h10 hf
            refine lv_tableIn (off := 79) (tgt := 84) hx hb dX12_bidderNow_5 (by rw [h10]; decide) (by rw [h10]; decide) (by rw [h10]; rfl) (by decide) ?_
            refine lv_aload_n hx hb dX12_bidderNow_84 rfl (lv_at hl 0 rfl) ?_
            refine w_get (ci := 12) F hK hP fb_X12 0 rfl rfl 7 (by decide) fl_X12_22 (fun _ h => h) rfl dX12_bidderNow_85 ?_
            refine lv_iload_n hx hb dX12_bidderNow_88 rfl (lv_at hl 1 rfl) ?_
            obtain ⟨h11, hf⟩ := o_chk hf
            refine w_iald F hK hP 1 rfl h11 dX12_bidderNow_89 ?_
            cases hf
            exact r_ci F hQ ⟨rfl, rfl⟩ hw dX12_bidderNow_90
          · have hf := o_f h10 hf
            by_cases h12 : x2 = 5
            · have hf := o_t h12 hf
              refine lv_tableIn (off := 86) (tgt := 91) hx hb dX12_bidderNow_5 (by rw [h12]; decide) (by rw [h12]; decide) (by rw [h12]; rfl) (by decide) ?_
              refine lv_aload_n hx hb dX12_bidderNow_91 rfl (lv_at hl 0 rfl) ?_
              refine w_get (ci := 12) F hK hP fb_X12 0 rfl rfl 17 (by decide) fl_X12_38 (fun _ h => h) rfl dX12_bidderNow_92 ?_
              refine lv_iload_n hx hb dX12_bidderNow_95 rfl (lv_at hl 1 rfl) ?_
              obtain ⟨h13, hf⟩ := o_chk hf
              refine w_iald F hK hP 3 rfl h13 dX12_bidderNow_96 ?_
              cases hf
              exact r_ci F hQ ⟨rfl, rfl⟩ hw dX12_bidderNow_97
            · have hf := o_f h12 hf
              by_cases h14 : x2 = 6
              · have hf := o_t h14 hf
                refine lv_tableIn (off := 93) (tgt := 98) hx hb dX12_bidderNow_5 (by rw [h14]; decide) (by rw [h14]; decide) (by rw [h14]; rfl) (by decide) ?_
                refine lv_aload_n hx hb dX12_bidderNow_98 rfl (lv_at hl 0 rfl) ?_
                refine lv_iload_n hx hb dX12_bidderNow_99 rfl (lv_at hl 1 rfl) ?_
                obtain ⟨q15, hq15, hf⟩ := o_bind hf
                refine k_rV F (c_X12_silentFrom l g aM rM x1 v_halls v_bidders v_fall v_heard v_asks v_pageLength v_isWhole v_newMany v_seedNow v_isKept v_keptHall v_keptHeard v_h v_kindOf q1 hq15) qv_X12_silentFrom ml_X12_108 (hP.sub [0, 2, 3] rfl) hK (va_recv hK.1 hP (ci := 12) (q0 := 0) rfl rfl) rfl hl.1 rfl (Nat.le_of_ble_eq_true rfl) dX12_bidderNow_100 ⟨(Nat.le_of_ble_eq_true rfl), (Nat.le_of_ble_eq_true rfl)⟩ ⟨(Nat.le_of_ble_eq_true rfl), (Nat.le_of_ble_eq_true rfl)⟩ ?_
                refine W.eq (g2 := F0 m 103 ls (.int q15 :: [])) rfl ?_
                cases hf
                exact r_ci F hQ ⟨rfl, rfl⟩ hw dX12_bidderNow_103
              · have hf := o_f h14 hf
                by_cases h16 : x2 = 7
                · have hf := o_t h16 hf
                  refine lv_tableIn (off := 99) (tgt := 104) hx hb dX12_bidderNow_5 (by rw [h16]; decide) (by rw [h16]; decide) (by rw [h16]; rfl) (by decide) ?_
                  refine lv_aload_n hx hb dX12_bidderNow_104 rfl (lv_at hl 0 rfl) ?_
                  refine lv_iload_n hx hb dX12_bidderNow_105 rfl (lv_at hl 1 rfl) ?_
                  obtain ⟨q17, hq17, hf⟩ := o_bind hf
                  refine k_rV F (c_X12_priceOf l g aM rM x1 v_halls v_bidders v_fall v_heard v_asks v_pageLength v_isWhole v_newMany v_seedNow v_isKept v_keptHall v_keptHeard v_h v_kindOf q1 v_sumOf hq17) qv_X12_priceOf ml_X12_120 (hP.sub [0, 2, 3, 4] rfl) hK (va_recv hK.1 hP (ci := 12) (q0 := 0) rfl rfl) rfl hl.1 rfl (Nat.le_of_ble_eq_true rfl) dX12_bidderNow_106 ⟨(Nat.le_of_ble_eq_true rfl), (Nat.le_of_ble_eq_true rfl)⟩ ⟨(Nat.le_of_ble_eq_true rfl), (Nat.le_of_ble_eq_true rfl)⟩ ?_
                  refine W.eq (g2 := F0 m 109 ls (.int q17 :: [])) rfl ?_
                  cases hf
                  exact r_ci F hQ ⟨rfl, rfl⟩ hw dX12_bidderNow_109
                · have hf := o_f h16 hf
                  by_cases h18 : x2 = 8
                  · have hf := o_t h18 hf
                    refine lv_tableIn (off := 105) (tgt := 110) hx hb dX12_bidderNow_5 (by rw [h18]; decide) (by rw [h18]; decide) (by rw [h18]; rfl) (by decide) ?_
                    refine lv_aload_n hx hb dX12_bidderNow_110 rfl (lv_at hl 0 rfl) ?_
                    refine lv_iload_n hx hb dX12_bidderNow_111 rfl (lv_at hl 1 rfl) ?_
                    obtain ⟨q19, hq19, hf⟩ := o_bind hf
                    refine k_rV F (c_X12_gainOf l g aM rM x1 v_halls v_bidders v_fall v_heard v_asks v_pageLength v_isWhole v_newMany v_seedNow v_isKept v_keptHall v_keptHeard v_h v_kindOf q1 v_sumOf v_wishOf hq19) qv_X12_gainOf ml_X12_126 (hP.sub [0, 2, 3, 4, 7] rfl) hK (va_recv hK.1 hP (ci := 12) (q0 := 0) rfl rfl) rfl hl.1 rfl (Nat.le_of_ble_eq_true rfl) dX12_bidderNow_112 ⟨(Nat.le_of_ble_eq_true rfl), (Nat.le_of_ble_eq_true rfl)⟩ ⟨(Nat.le_of_ble_eq_true rfl), (Nat.le_of_ble_eq_true rfl)⟩ ?_
                    refine W.eq (g2 := F0 m 115 ls (.int q19 :: [])) rfl ?_
                    cases hf
                    exact r_ci F hQ ⟨rfl, rfl⟩ hw dX12_bidderNow_115
                  · have hf := o_f h18 hf
                    refine lv_tableOut (tgt := 116) hx hb dX12_bidderNow_5 (by have := tI h2 (k := 0) rfl; have := tI h4 (k := 1) rfl; have := tI h6 (k := 2) rfl; have := tI h8 (k := 3) rfl; have := tI h10 (k := 4) rfl; have := tI h12 (k := 5) rfl; have := tI h14 (k := 6) rfl; have := tI h16 (k := 7) rfl; have := tI h18 (k := 8) rfl; omega) (by decide) ?_
                    refine lv_aload_n hx hb dX12_bidderNow_116 rfl (lv_at hl 0 rfl) ?_
                    refine w_get (ci := 12) F hK hP fb_X12 0 rfl rfl 8 (by decide) fl_X12_25 (fun _ h => h) rfl dX12_bidderNow_117 ?_
                    refine lv_iload_n hx hb dX12_bidderNow_120 rfl (lv_at hl 1 rfl) ?_
                    obtain ⟨h20, hf⟩ := o_chk hf
                    refine w_iald F hK hP 5 rfl h20 dX12_bidderNow_121 ?_
                    cases hf
                    exact r_ci F hQ ⟨rfl, rfl⟩ hw dX12_bidderNow_122
def f_X12_about (x1 : Int32) (x2 : Int32) (v_bidders : Int32) (v_choiceOf : Nat → Int32) (v_fall : Int32) (v_kindOf : Nat → Int32) (v_stopsAt : Nat → Int32) (v_sumOf : Nat → Int32) (v_touchedBy : Nat → Int32) (v_windOf : Nat → Int32) (v_wishOf : Nat → Int32) : Option (Int32 × (Nat → Int32)) := ((f_X12_isBidder x1 v_bidders).bind fun q1 => (if q1 = 0 then (some ((-101), v_stopsAt)) else ((f_X12_within x2 0 9).bind fun q3 => (if q3 = 0 then (some ((-102), v_stopsAt)) else ((f_X12_bidderNow x1 x2 v_bidders v_choiceOf v_fall v_kindOf v_stopsAt v_sumOf v_touchedBy v_windOf v_wishOf).bind fun q5 => (some (q5.1, q5.2)))))))
set_option maxRecDepth 100000 in
set_option maxHeartbeats 4000000 in
theorem c_X12_about (l : Launch) (g : GG) (aM : Nat) (rM : Nat → Nat) (x1 : Int32) (x2 : Int32) (v_halls : Int32) (v_bidders : Int32) (v_fall : Int32) (v_heard : Int32) (v_asks : Int32) (v_pageLength : Int32) (v_isWhole : Int32) (v_newMany : Int32) (v_seedNow : Int64) (v_isKept : Int32) (v_keptHall : Int32) (v_keptHeard : Int32) (v_h : Int64) (v_choiceOf : Nat → Int32) (v_kindOf : Nat → Int32) (v_stopsAt : Nat → Int32) (v_sumOf : Nat → Int32) (v_touchedBy : Nat → Int32) (v_windOf : Nat → Int32) (v_wishOf : Nat → Int32) {r0 : Int32} {r1 : Nat → Int32} (hf : f_X12_about x1 x2 v_bidders v_choiceOf v_fall v_kindOf v_stopsAt v_sumOf v_touchedBy v_windOf v_wishOf = some (r0, r1)) : MD l g yX12_about cX12_about 3 (some .int) 5 112 [.ref aM, .int x1, .int x2] [ob aM 12 (oM rM v_halls v_bidders v_fall v_heard v_asks v_pageLength v_isWhole v_newMany v_seedNow v_isKept v_keptHall v_keptHeard v_h), ia g (rM 7) 5 v_choiceOf, ia g (rM 3) 5 v_kindOf, ia g (rM 17) 5 v_stopsAt, ia g (rM 5) 5 v_sumOf, ia g (rM 8) 5 v_touchedBy, ia g (rM 4) 5 v_windOf, ia g (rM 6) 5 v_wishOf] (some (.int r0)) [ob aM 12 (oM rM v_halls v_bidders v_fall v_heard v_asks v_pageLength v_isWhole v_newMany v_seedNow v_isKept v_keptHall v_keptHeard v_h), ia g (rM 7) 5 v_choiceOf, ia g (rM 3) 5 v_kindOf, ia g (rM 17) 5 r1, ia g (rM 5) 5 v_sumOf, ia g (rM 8) 5 v_touchedBy, ia g (rM 4) 5 v_windOf, ia g (rM 6) 5 v_wishOf] := by
  refine MC.mk (by decide) (Nat.le_of_ble_eq_true rfl) ?_
  intro p e s m args below meth c ls Q A F hnm hK hw hA hl hQ
  have hP := hw.1
  have hx := F.1
  have hb := F.2.1
  have hml := F.2.2.2.1
  have hown := F.2.2.2.2.1
  have hts := F.2.2.2.2.2.1
  have hl : lv_has ls 3 [(0, .ref aM), (1, .int x1), (2, .int x2)] := hl
  unfold f_X12_about at hf
  refine lv_aload_n hx hb dX12_about_0 rfl (lv_at hl 0 rfl) ?_
  refine lv_iload_n hx hb dX12_about_1 rfl (lv_at hl 1 rfl) ?_
  obtain ⟨q1, hq1, hf⟩ := o_bind hf
  refine k_rV F (c_X12_isBidder l g aM rM x1 v_halls v_bidders v_fall v_heard v_asks v_pageLength v_isWhole v_newMany v_seedNow v_isKept v_keptHall v_keptHeard v_h hq1) qv_X12_isBidder ml_X12_129 (hP.sub [0] rfl) hK (va_recv hK.1 hP (ci := 12) (q0 := 0) rfl rfl) rfl hl.1 rfl (Nat.le_of_ble_eq_true rfl) dX12_about_2 ⟨(Nat.le_of_ble_eq_true rfl), (Nat.le_of_ble_eq_true rfl)⟩ ⟨(Nat.le_of_ble_eq_true rfl), (Nat.le_of_ble_eq_true rfl)⟩ ?_
  refine W.eq (g2 := F0 m 5 ls (.int q1 :: [])) rfl ?_
  refine lv_if_ne (tgt := 13) hx hb dX12_about_5 (by decide) (fun h2 => ?_) (fun h2 => ?_)
  · have hf := o_f h2 hf
    refine lv_iload_n hx hb dX12_about_13 rfl (lv_at hl 2 rfl) ?_
    refine lv_iconst (v := 0) hx hb dX12_about_14 (by decide) ?_
    refine lv_bipush (v := 9) hx hb dX12_about_15 (by decide) ?_
    obtain ⟨q3, hq3, hf⟩ := o_bind hf
    refine k_rS F (c_X12_within l g x2 0 9 hq3) qs_X12_within ml_X12_59 (hP.sub [] rfl) hK rfl hl.1 rfl (Nat.le_of_ble_eq_true rfl) dX12_about_17 ⟨(Nat.le_of_ble_eq_true rfl), (Nat.le_of_ble_eq_true rfl)⟩ ⟨(Nat.le_of_ble_eq_true rfl), (Nat.le_of_ble_eq_true rfl)⟩ ?_
    refine W.eq (g2 := F0 m 20 ls (.int q3 :: [])) rfl ?_
    refine lv_if_eq (tgt := 32) hx hb dX12_about_20 (by decide) (fun h4 => ?_) (fun h4 => ?_)
    · have hf := o_t h4 hf
      refine lv_bipush (v := (-102)) hx hb dX12_about_32 (by decide) ?_
      cases hf
      exact r_ci F hQ ⟨rfl, rfl⟩ hw dX12_about_34
    · have hf := o_f h4 hf
      refine lv_aload_n hx hb dX12_about_23 rfl (lv_at hl 0 rfl) ?_
      refine lv_iload_n hx hb dX12_about_24 rfl (lv_at hl 1 rfl) ?_
      refine lv_iload_n hx hb dX12_about_25 rfl (lv_at hl 2 rfl) ?_
      obtain ⟨q5, hq5, hf⟩ := o_bind hf
      refine k_dV (wr := []) (ws' := [ob aM 12 (oM rM v_halls v_bidders v_fall v_heard v_asks v_pageLength v_isWhole v_newMany v_seedNow v_isKept v_keptHall v_keptHeard v_h), ia g (rM 7) 5 v_choiceOf, ia g (rM 3) 5 v_kindOf, ia g (rM 17) 5 q5.2, ia g (rM 5) 5 v_sumOf, ia g (rM 8) 5 v_touchedBy, ia g (rM 4) 5 v_windOf, ia g (rM 6) 5 v_wishOf]) F (c_X12_bidderNow l g aM rM x1 x2 v_halls v_bidders v_fall v_heard v_asks v_pageLength v_isWhole v_newMany v_seedNow v_isKept v_keptHall v_keptHeard v_h v_choiceOf v_kindOf v_stopsAt v_sumOf v_touchedBy v_windOf v_wishOf hq5) qv_X12_bidderNow ml_X12_133 hw hA hK [0, 1, 2, 3, 4, 5, 6, 7] [] [0, 1, 2, 3, 4, 5, 6, 7] rfl rfl rfl rfl rfl (by decide) rfl rfl rfl (va_recv hK.1 hP (ci := 12) (q0 := 0) rfl rfl) rfl hl.1 rfl (Nat.le_of_ble_eq_true rfl) dX12_about_26 ⟨(Nat.le_of_ble_eq_true rfl), (Nat.le_of_ble_eq_true rfl)⟩ ⟨(Nat.le_of_ble_eq_true rfl), (Nat.le_of_ble_eq_true rfl)⟩ (fun H locs hw => ?_)
      have hP := hw.1
      refine W.eq (g2 := F0 m 29 ls (.int q5.1 :: [])) rfl ?_
      refine lv_goto (tgt := 34) hx hb dX12_about_29 (by decide) ?_
      cases hf
      exact r_ci F hQ ⟨rfl, rfl⟩ hw dX12_about_34
  · have hf := o_t h2 hf
    refine lv_bipush (v := (-101)) hx hb dX12_about_8 (by decide) ?_
    refine lv_goto (tgt := 34) hx hb dX12_about_10 (by decide) ?_
    cases hf
    exact r_ci F hQ ⟨rfl, rfl⟩ hw dX12_about_34
def f_X12_as (x1 : Int32) (x2 : Int32) (v_bidders : Int32) (v_kindOf : Nat → Int32) : Option (Int32) := ((f_X12_isBidder x1 v_bidders).bind fun q1 => (if q1 = 0 then (some (-101)) else ((f_X12_within x2 0 4).bind fun q3 => (if q3 = 0 then (some (-102)) else (if x1 < 0 ∨ 5 ≤ Int32.toNatClampNeg x1 then none else (bnd (v_kindOf (Int32.toNatClampNeg x1)) fun z6 => (if x2 = 0 then (some x1) else (if z6 = x2 then (some x1) else (if x2 = 1 then (if z6 = 4 then (some x1) else (some (-1))) else (some (-1)))))))))))
set_option maxRecDepth 100000 in
set_option maxHeartbeats 4000000 in
theorem c_X12_as (l : Launch) (g : GG) (aM : Nat) (rM : Nat → Nat) (x1 : Int32) (x2 : Int32) (v_halls : Int32) (v_bidders : Int32) (v_fall : Int32) (v_heard : Int32) (v_asks : Int32) (v_pageLength : Int32) (v_isWhole : Int32) (v_newMany : Int32) (v_seedNow : Int64) (v_isKept : Int32) (v_keptHall : Int32) (v_keptHeard : Int32) (v_h : Int64) (v_kindOf : Nat → Int32) {r0 : Int32} (hf : f_X12_as x1 x2 v_bidders v_kindOf = some r0) : MR l g yX12_as cX12_as 4 (some .int) 2 43 [.ref aM, .int x1, .int x2] [ob aM 12 (oM rM v_halls v_bidders v_fall v_heard v_asks v_pageLength v_isWhole v_newMany v_seedNow v_isKept v_keptHall v_keptHeard v_h), ia g (rM 3) 5 v_kindOf] (some (.int r0)) := by
  refine MR.mk (by decide) (Nat.le_of_ble_eq_true rfl) ?_
  intro p e s m args below meth c ls Q F hK hP hl hQ
  have hx := F.1
  have hb := F.2.1
  have hml := F.2.2.2.1
  have hown := F.2.2.2.2.1
  have hts := F.2.2.2.2.2.1
  have hl : lv_has ls 4 [(0, .ref aM), (1, .int x1), (2, .int x2)] := hl
  unfold f_X12_as at hf
  refine lv_aload_n hx hb dX12_as_0 rfl (lv_at hl 0 rfl) ?_
  refine lv_iload_n hx hb dX12_as_1 rfl (lv_at hl 1 rfl) ?_
  obtain ⟨q1, hq1, hf⟩ := o_bind hf
  refine k_rV F (c_X12_isBidder l g aM rM x1 v_halls v_bidders v_fall v_heard v_asks v_pageLength v_isWhole v_newMany v_seedNow v_isKept v_keptHall v_keptHeard v_h hq1) qv_X12_isBidder ml_X12_129 (hP.sub [0] rfl) hK (va_recv hK.1 hP (ci := 12) (q0 := 0) rfl rfl) rfl hl.1 rfl (Nat.le_of_ble_eq_true rfl) dX12_as_2 ⟨(Nat.le_of_ble_eq_true rfl), (Nat.le_of_ble_eq_true rfl)⟩ ⟨(Nat.le_of_ble_eq_true rfl), (Nat.le_of_ble_eq_true rfl)⟩ ?_
  refine W.eq (g2 := F0 m 5 ls (.int q1 :: [])) rfl ?_
  refine lv_if_ne (tgt := 11) hx hb dX12_as_5 (by decide) (fun h2 => ?_) (fun h2 => ?_)
  · have hf := o_f h2 hf
    refine lv_iload_n hx hb dX12_as_11 rfl (lv_at hl 2 rfl) ?_
    refine lv_iconst (v := 0) hx hb dX12_as_12 (by decide) ?_
    refine lv_iconst (v := 4) hx hb dX12_as_13 (by decide) ?_
    obtain ⟨q3, hq3, hf⟩ := o_bind hf
    refine k_rS F (c_X12_within l g x2 0 4 hq3) qs_X12_within ml_X12_59 (hP.sub [] rfl) hK rfl hl.1 rfl (Nat.le_of_ble_eq_true rfl) dX12_as_14 ⟨(Nat.le_of_ble_eq_true rfl), (Nat.le_of_ble_eq_true rfl)⟩ ⟨(Nat.le_of_ble_eq_true rfl), (Nat.le_of_ble_eq_true rfl)⟩ ?_
    refine W.eq (g2 := F0 m 17 ls (.int q3 :: [])) rfl ?_
    refine lv_if_ne (tgt := 23) hx hb dX12_as_17 (by decide) (fun h4 => ?_) (fun h4 => ?_)
    · have hf := o_f h4 hf
      refine lv_aload_n hx hb dX12_as_23 rfl (lv_at hl 0 rfl) ?_
      refine w_get (ci := 12) F hK hP fb_X12 0 rfl rfl 3 (by decide) fl_X12_7 (fun _ h => h) rfl dX12_as_24 ?_
      refine lv_iload_n hx hb dX12_as_27 rfl (lv_at hl 1 rfl) ?_
      obtain ⟨h5, hf⟩ := o_chk hf
      refine w_iald F hK hP 1 rfl h5 dX12_as_28 ?_
      refine lv_topi (fun z6 ez6 => ?_)
      have hf := o_bnd ez6 hf
      refine lv_istore_n (lv' := [(3, .int z6), (0, .ref aM), (1, .int x1), (2, .int x2)]) hx hb dX12_as_29 rfl hl (by decide) rfl (fun ls hl => ?_)
      refine lv_iload_n hx hb dX12_as_30 rfl (lv_at hl 3 rfl) ?_
      refine lv_if_eq (tgt := 49) hx hb dX12_as_31 (by decide) (fun h7 => ?_) (fun h7 => ?_)
      · have hf := o_t h7 hf
        refine lv_iload_n hx hb dX12_as_49 rfl (lv_at hl 2 rfl) ?_
        refine lv_goto (tgt := 54) hx hb dX12_as_50 (by decide) ?_
        exact r_ri F hQ (Option.some.inj hf) dX12_as_54
      · have hf := o_f h7 hf
        refine lv_iload_n hx hb dX12_as_34 rfl (lv_at hl 0 rfl) ?_
        refine lv_iload_n hx hb dX12_as_35 rfl (lv_at hl 3 rfl) ?_
        refine lv_icmp_eq (tgt := 49) hx hb dX12_as_36 (by decide) (fun h8 => ?_) (fun h8 => ?_)
        · have hf := o_t h8 hf
          refine lv_iload_n hx hb dX12_as_49 rfl (lv_at hl 2 rfl) ?_
          refine lv_goto (tgt := 54) hx hb dX12_as_50 (by decide) ?_
          exact r_ri F hQ (Option.some.inj hf) dX12_as_54
        · have hf := o_f h8 hf
          refine lv_iload_n hx hb dX12_as_39 rfl (lv_at hl 3 rfl) ?_
          refine lv_iconst (v := 1) hx hb dX12_as_40 (by decide) ?_
          refine lv_icmp_ne (tgt := 53) hx hb dX12_as_41 (by decide) (fun h9 => ?_) (fun h9 => ?_)
          · have hf := o_f h9 hf
            refine lv_iconst (v := (-1)) hx hb dX12_as_53 (by decide) ?_
            exact r_ri F hQ (Option.some.inj hf) dX12_as_54
          · have hf := o_t h9 hf
            refine lv_iload_n hx hb dX12_as_44 rfl (lv_at hl 0 rfl) ?_
            refine lv_iconst (v := 4) hx hb dX12_as_45 (by decide) ?_
            refine lv_icmp_ne (tgt := 53) hx hb dX12_as_46 (by decide) (fun h10 => ?_) (fun h10 => ?_)
            · have hf := o_f h10 hf
              refine lv_iconst (v := (-1)) hx hb dX12_as_53 (by decide) ?_
              exact r_ri F hQ (Option.some.inj hf) dX12_as_54
            · have hf := o_t h10 hf
              refine lv_iload_n hx hb dX12_as_49 rfl (lv_at hl 2 rfl) ?_
              refine lv_goto (tgt := 54) hx hb dX12_as_50 (by decide) ?_
              exact r_ri F hQ (Option.some.inj hf) dX12_as_54
    · have hf := o_t h4 hf
      refine lv_bipush (v := (-102)) hx hb dX12_as_20 (by decide) ?_
      exact r_ri F hQ (Option.some.inj hf) dX12_as_22
  · have hf := o_t h2 hf
    refine lv_bipush (v := (-101)) hx hb dX12_as_8 (by decide) ?_
    exact r_ri F hQ (Option.some.inj hf) dX12_as_10
def f_X12_choose (x1 : Int32) (x2 : Int32) (v_bidders : Int32) (v_choiceOf : Nat → Int32) : Option (Int32 × (Nat → Int32)) := ((f_X12_isBidder x1 v_bidders).bind fun q1 => (if q1 = 0 then (some ((-101), v_choiceOf)) else (if x2 = (-1) then (if x1 < 0 ∨ 5 ≤ Int32.toNatClampNeg x1 then none else (bnd (v_choiceOf (Int32.toNatClampNeg x1)) fun z5 => (some (z5, (upd v_choiceOf (Int32.toNatClampNeg x1) x2))))) else ((f_X12_within x2 1 30).bind fun q6 => (if q6 = 0 then (some ((-102), v_choiceOf)) else (if x1 < 0 ∨ 5 ≤ Int32.toNatClampNeg x1 then none else (bnd (v_choiceOf (Int32.toNatClampNeg x1)) fun z9 => (some (z9, (upd v_choiceOf (Int32.toNatClampNeg x1) x2))))))))))
set_option maxRecDepth 100000 in
set_option maxHeartbeats 4000000 in
theorem c_X12_choose (l : Launch) (g : GG) (aM : Nat) (rM : Nat → Nat) (x1 : Int32) (x2 : Int32) (v_halls : Int32) (v_bidders : Int32) (v_fall : Int32) (v_heard : Int32) (v_asks : Int32) (v_pageLength : Int32) (v_isWhole : Int32) (v_newMany : Int32) (v_seedNow : Int64) (v_isKept : Int32) (v_keptHall : Int32) (v_keptHeard : Int32) (v_h : Int64) (v_choiceOf : Nat → Int32) {r0 : Int32} {r1 : Nat → Int32} (hf : f_X12_choose x1 x2 v_bidders v_choiceOf = some (r0, r1)) : MD l g yX12_choose cX12_choose 4 (some .int) 2 43 [.ref aM, .int x1, .int x2] [ob aM 12 (oM rM v_halls v_bidders v_fall v_heard v_asks v_pageLength v_isWhole v_newMany v_seedNow v_isKept v_keptHall v_keptHeard v_h), ia g (rM 7) 5 v_choiceOf] (some (.int r0)) [ob aM 12 (oM rM v_halls v_bidders v_fall v_heard v_asks v_pageLength v_isWhole v_newMany v_seedNow v_isKept v_keptHall v_keptHeard v_h), ia g (rM 7) 5 r1] := by
  refine MC.mk (by decide) (Nat.le_of_ble_eq_true rfl) ?_
  intro p e s m args below meth c ls Q A F hnm hK hw hA hl hQ
  have hP := hw.1
  have hx := F.1
  have hb := F.2.1
  have hml := F.2.2.2.1
  have hown := F.2.2.2.2.1
  have hts := F.2.2.2.2.2.1
  have hl : lv_has ls 4 [(0, .ref aM), (1, .int x1), (2, .int x2)] := hl
  unfold f_X12_choose at hf
  refine lv_aload_n hx hb dX12_choose_0 rfl (lv_at hl 0 rfl) ?_
  refine lv_iload_n hx hb dX12_choose_1 rfl (lv_at hl 1 rfl) ?_
  obtain ⟨q1, hq1, hf⟩ := o_bind hf
  refine k_rV F (c_X12_isBidder l g aM rM x1 v_halls v_bidders v_fall v_heard v_asks v_pageLength v_isWhole v_newMany v_seedNow v_isKept v_keptHall v_keptHeard v_h hq1) qv_X12_isBidder ml_X12_129 (hP.sub [0] rfl) hK (va_recv hK.1 hP (ci := 12) (q0 := 0) rfl rfl) rfl hl.1 rfl (Nat.le_of_ble_eq_true rfl) dX12_choose_2 ⟨(Nat.le_of_ble_eq_true rfl), (Nat.le_of_ble_eq_true rfl)⟩ ⟨(Nat.le_of_ble_eq_true rfl), (Nat.le_of_ble_eq_true rfl)⟩ ?_
  refine W.eq (g2 := F0 m 5 ls (.int q1 :: [])) rfl ?_
  refine lv_if_ne (tgt := 11) hx hb dX12_choose_5 (by decide) (fun h2 => ?_) (fun h2 => ?_)
  · have hf := o_f h2 hf
    refine lv_iload_n hx hb dX12_choose_11 rfl (lv_at hl 2 rfl) ?_
    refine lv_iconst (v := (-1)) hx hb dX12_choose_12 (by decide) ?_
    refine lv_icmp_eq (tgt := 29) hx hb dX12_choose_13 (by decide) (fun h3 => ?_) (fun h3 => ?_)
    · have hf := o_t h3 hf
      refine lv_aload_n hx hb dX12_choose_29 rfl (lv_at hl 0 rfl) ?_
      refine w_get (ci := 12) F hK hP fb_X12 0 rfl rfl 7 (by decide) fl_X12_22 (fun _ h => h) rfl dX12_choose_30 ?_
      refine lv_iload_n hx hb dX12_choose_33 rfl (lv_at hl 1 rfl) ?_
      obtain ⟨h4, hf⟩ := o_chk hf
      refine w_iald F hK hP 1 rfl h4 dX12_choose_34 ?_
      refine lv_topi (fun z5 ez5 => ?_)
      have hf := o_bnd ez5 hf
      refine lv_istore_n (lv' := [(3, .int z5), (0, .ref aM), (1, .int x1), (2, .int x2)]) hx hb dX12_choose_35 rfl hl (by decide) rfl (fun ls hl => ?_)
      refine lv_aload_n hx hb dX12_choose_36 rfl (lv_at hl 1 rfl) ?_
      refine w_get (ci := 12) F hK hP fb_X12 0 rfl rfl 7 (by decide) fl_X12_22 (fun _ h => h) rfl dX12_choose_37 ?_
      refine lv_iload_n hx hb dX12_choose_40 rfl (lv_at hl 2 rfl) ?_
      refine lv_iload_n hx hb dX12_choose_41 rfl (lv_at hl 3 rfl) ?_
      refine w_iast (ws' := [ob aM 12 (oM rM v_halls v_bidders v_fall v_heard v_asks v_pageLength v_isWhole v_newMany v_seedNow v_isKept v_keptHall v_keptHeard v_h), ia g (rM 7) 5 (upd v_choiceOf (Int32.toNatClampNeg x1) x2)]) F hK hw 1 rfl h4 rfl dX12_choose_42 (fun H locs hw => ?_)
      have hP := hw.1
      refine lv_iload_n hx hb dX12_choose_43 rfl (lv_at hl 0 rfl) ?_
      cases hf
      exact r_ci F hQ ⟨rfl, rfl⟩ hw dX12_choose_44
    · have hf := o_f h3 hf
      refine lv_iload_n hx hb dX12_choose_16 rfl (lv_at hl 2 rfl) ?_
      refine lv_iconst (v := 1) hx hb dX12_choose_17 (by decide) ?_
      refine lv_bipush (v := 30) hx hb dX12_choose_18 (by decide) ?_
      obtain ⟨q6, hq6, hf⟩ := o_bind hf
      refine k_rS F (c_X12_within l g x2 1 30 hq6) qs_X12_within ml_X12_59 (hP.sub [] rfl) hK rfl hl.1 rfl (Nat.le_of_ble_eq_true rfl) dX12_choose_20 ⟨(Nat.le_of_ble_eq_true rfl), (Nat.le_of_ble_eq_true rfl)⟩ ⟨(Nat.le_of_ble_eq_true rfl), (Nat.le_of_ble_eq_true rfl)⟩ ?_
      refine W.eq (g2 := F0 m 23 ls (.int q6 :: [])) rfl ?_
      refine lv_if_ne (tgt := 29) hx hb dX12_choose_23 (by decide) (fun h7 => ?_) (fun h7 => ?_)
      · have hf := o_f h7 hf
        refine lv_aload_n hx hb dX12_choose_29 rfl (lv_at hl 0 rfl) ?_
        refine w_get (ci := 12) F hK hP fb_X12 0 rfl rfl 7 (by decide) fl_X12_22 (fun _ h => h) rfl dX12_choose_30 ?_
        refine lv_iload_n hx hb dX12_choose_33 rfl (lv_at hl 1 rfl) ?_
        obtain ⟨h8, hf⟩ := o_chk hf
        refine w_iald F hK hP 1 rfl h8 dX12_choose_34 ?_
        refine lv_topi (fun z9 ez9 => ?_)
        have hf := o_bnd ez9 hf
        refine lv_istore_n (lv' := [(3, .int z9), (0, .ref aM), (1, .int x1), (2, .int x2)]) hx hb dX12_choose_35 rfl hl (by decide) rfl (fun ls hl => ?_)
        refine lv_aload_n hx hb dX12_choose_36 rfl (lv_at hl 1 rfl) ?_
        refine w_get (ci := 12) F hK hP fb_X12 0 rfl rfl 7 (by decide) fl_X12_22 (fun _ h => h) rfl dX12_choose_37 ?_
        refine lv_iload_n hx hb dX12_choose_40 rfl (lv_at hl 2 rfl) ?_
        refine lv_iload_n hx hb dX12_choose_41 rfl (lv_at hl 3 rfl) ?_
        refine w_iast (ws' := [ob aM 12 (oM rM v_halls v_bidders v_fall v_heard v_asks v_pageLength v_isWhole v_newMany v_seedNow v_isKept v_keptHall v_keptHeard v_h), ia g (rM 7) 5 (upd v_choiceOf (Int32.toNatClampNeg x1) x2)]) F hK hw 1 rfl h8 rfl dX12_choose_42 (fun H locs hw => ?_)
        have hP := hw.1
        refine lv_iload_n hx hb dX12_choose_43 rfl (lv_at hl 0 rfl) ?_
        cases hf
        exact r_ci F hQ ⟨rfl, rfl⟩ hw dX12_choose_44
      · have hf := o_t h7 hf
        refine lv_bipush (v := (-102)) hx hb dX12_choose_26 (by decide) ?_
        cases hf
        exact r_ci F hQ ⟨rfl, rfl⟩ hw dX12_choose_28
  · have hf := o_t h2 hf
    refine lv_bipush (v := (-101)) hx hb dX12_choose_8 (by decide) ?_
    cases hf
    exact r_ci F hQ ⟨rfl, rfl⟩ hw dX12_choose_10
def f_X12_wind (x1 : Int32) (x2 : Int32) (v_bidders : Int32) (v_windOf : Nat → Int32) : Option (Int32 × (Nat → Int32)) := ((f_X12_isBidder x1 v_bidders).bind fun q1 => (if q1 = 0 then (some ((-101), v_windOf)) else ((f_X12_within x2 1 9).bind fun q3 => (if q3 = 0 then (some ((-102), v_windOf)) else (if x1 < 0 ∨ 5 ≤ Int32.toNatClampNeg x1 then none else (bnd (v_windOf (Int32.toNatClampNeg x1)) fun z6 => (some (z6, (upd v_windOf (Int32.toNatClampNeg x1) x2)))))))))
set_option maxRecDepth 100000 in
set_option maxHeartbeats 4000000 in
theorem c_X12_wind (l : Launch) (g : GG) (aM : Nat) (rM : Nat → Nat) (x1 : Int32) (x2 : Int32) (v_halls : Int32) (v_bidders : Int32) (v_fall : Int32) (v_heard : Int32) (v_asks : Int32) (v_pageLength : Int32) (v_isWhole : Int32) (v_newMany : Int32) (v_seedNow : Int64) (v_isKept : Int32) (v_keptHall : Int32) (v_keptHeard : Int32) (v_h : Int64) (v_windOf : Nat → Int32) {r0 : Int32} {r1 : Nat → Int32} (hf : f_X12_wind x1 x2 v_bidders v_windOf = some (r0, r1)) : MD l g yX12_wind cX12_wind 4 (some .int) 2 43 [.ref aM, .int x1, .int x2] [ob aM 12 (oM rM v_halls v_bidders v_fall v_heard v_asks v_pageLength v_isWhole v_newMany v_seedNow v_isKept v_keptHall v_keptHeard v_h), ia g (rM 4) 5 v_windOf] (some (.int r0)) [ob aM 12 (oM rM v_halls v_bidders v_fall v_heard v_asks v_pageLength v_isWhole v_newMany v_seedNow v_isKept v_keptHall v_keptHeard v_h), ia g (rM 4) 5 r1] := by
  refine MC.mk (by decide) (Nat.le_of_ble_eq_true rfl) ?_
  intro p e s m args below meth c ls Q A F hnm hK hw hA hl hQ
  have hP := hw.1
  have hx := F.1
  have hb := F.2.1
  have hml := F.2.2.2.1
  have hown := F.2.2.2.2.1
  have hts := F.2.2.2.2.2.1
  have hl : lv_has ls 4 [(0, .ref aM), (1, .int x1), (2, .int x2)] := hl
  unfold f_X12_wind at hf
  refine lv_aload_n hx hb dX12_wind_0 rfl (lv_at hl 0 rfl) ?_
  refine lv_iload_n hx hb dX12_wind_1 rfl (lv_at hl 1 rfl) ?_
  obtain ⟨q1, hq1, hf⟩ := o_bind hf
  refine k_rV F (c_X12_isBidder l g aM rM x1 v_halls v_bidders v_fall v_heard v_asks v_pageLength v_isWhole v_newMany v_seedNow v_isKept v_keptHall v_keptHeard v_h hq1) qv_X12_isBidder ml_X12_129 (hP.sub [0] rfl) hK (va_recv hK.1 hP (ci := 12) (q0 := 0) rfl rfl) rfl hl.1 rfl (Nat.le_of_ble_eq_true rfl) dX12_wind_2 ⟨(Nat.le_of_ble_eq_true rfl), (Nat.le_of_ble_eq_true rfl)⟩ ⟨(Nat.le_of_ble_eq_true rfl), (Nat.le_of_ble_eq_true rfl)⟩ ?_
  refine W.eq (g2 := F0 m 5 ls (.int q1 :: [])) rfl ?_
  refine lv_if_ne (tgt := 11) hx hb dX12_wind_5 (by decide) (fun h2 => ?_) (fun h2 => ?_)
  · have hf := o_f h2 hf
    refine lv_iload_n hx hb dX12_wind_11 rfl (lv_at hl 2 rfl) ?_
    refine lv_iconst (v := 1) hx hb dX12_wind_12 (by decide) ?_
    refine lv_bipush (v := 9) hx hb dX12_wind_13 (by decide) ?_
    obtain ⟨q3, hq3, hf⟩ := o_bind hf
    refine k_rS F (c_X12_within l g x2 1 9 hq3) qs_X12_within ml_X12_59 (hP.sub [] rfl) hK rfl hl.1 rfl (Nat.le_of_ble_eq_true rfl) dX12_wind_15 ⟨(Nat.le_of_ble_eq_true rfl), (Nat.le_of_ble_eq_true rfl)⟩ ⟨(Nat.le_of_ble_eq_true rfl), (Nat.le_of_ble_eq_true rfl)⟩ ?_
    refine W.eq (g2 := F0 m 18 ls (.int q3 :: [])) rfl ?_
    refine lv_if_ne (tgt := 24) hx hb dX12_wind_18 (by decide) (fun h4 => ?_) (fun h4 => ?_)
    · have hf := o_f h4 hf
      refine lv_aload_n hx hb dX12_wind_24 rfl (lv_at hl 0 rfl) ?_
      refine w_get (ci := 12) F hK hP fb_X12 0 rfl rfl 4 (by decide) fl_X12_13 (fun _ h => h) rfl dX12_wind_25 ?_
      refine lv_iload_n hx hb dX12_wind_28 rfl (lv_at hl 1 rfl) ?_
      obtain ⟨h5, hf⟩ := o_chk hf
      refine w_iald F hK hP 1 rfl h5 dX12_wind_29 ?_
      refine lv_topi (fun z6 ez6 => ?_)
      have hf := o_bnd ez6 hf
      refine lv_istore_n (lv' := [(3, .int z6), (0, .ref aM), (1, .int x1), (2, .int x2)]) hx hb dX12_wind_30 rfl hl (by decide) rfl (fun ls hl => ?_)
      refine lv_aload_n hx hb dX12_wind_31 rfl (lv_at hl 1 rfl) ?_
      refine w_get (ci := 12) F hK hP fb_X12 0 rfl rfl 4 (by decide) fl_X12_13 (fun _ h => h) rfl dX12_wind_32 ?_
      refine lv_iload_n hx hb dX12_wind_35 rfl (lv_at hl 2 rfl) ?_
      refine lv_iload_n hx hb dX12_wind_36 rfl (lv_at hl 3 rfl) ?_
      refine w_iast (ws' := [ob aM 12 (oM rM v_halls v_bidders v_fall v_heard v_asks v_pageLength v_isWhole v_newMany v_seedNow v_isKept v_keptHall v_keptHeard v_h), ia g (rM 4) 5 (upd v_windOf (Int32.toNatClampNeg x1) x2)]) F hK hw 1 rfl h5 rfl dX12_wind_37 (fun H locs hw => ?_)
      have hP := hw.1
      refine lv_iload_n hx hb dX12_wind_38 rfl (lv_at hl 0 rfl) ?_
      cases hf
      exact r_ci F hQ ⟨rfl, rfl⟩ hw dX12_wind_39
    · have hf := o_t h4 hf
      refine lv_bipush (v := (-102)) hx hb dX12_wind_21 (by decide) ?_
      cases hf
      exact r_ci F hQ ⟨rfl, rfl⟩ hw dX12_wind_23
  · have hf := o_t h2 hf
    refine lv_bipush (v := (-101)) hx hb dX12_wind_8 (by decide) ?_
    cases hf
    exact r_ci F hQ ⟨rfl, rfl⟩ hw dX12_wind_10
def f_X12_touch (x1 : Int32) (x2 : Int32) (x3 : Int32) (v_bidders : Int32) (v_touchedBy : Nat → Int32) : Option (Int32 × (Nat → Int32)) := ((f_X12_isBidder x1 v_bidders).bind fun q1 => (if q1 = 0 then (some ((-101), v_touchedBy)) else ((f_X12_isBidder x2 v_bidders).bind fun q3 => (if q3 = 0 then (some ((-101), v_touchedBy)) else (if x1 = x2 then (some ((-101), v_touchedBy)) else (if x2 < 0 ∨ 5 ≤ Int32.toNatClampNeg x2 then none else (bnd (((v_touchedBy (Int32.toNatClampNeg x2)) >>> (x1 &&& 31)) &&& 1) fun z7 => (if x3 = 0 then (some (z7, (upd v_touchedBy (Int32.toNatClampNeg x2) ((v_touchedBy (Int32.toNatClampNeg x2)) &&& (((1 : Int32) <<< (x1 &&& 31)) ^^^ (-1)))))) else (some (z7, (upd v_touchedBy (Int32.toNatClampNeg x2) ((v_touchedBy (Int32.toNatClampNeg x2)) ||| ((1 : Int32) <<< (x1 &&& 31))))))))))))))
set_option maxRecDepth 100000 in
set_option maxHeartbeats 4000000 in
theorem c_X12_touch (l : Launch) (g : GG) (aM : Nat) (rM : Nat → Nat) (x1 : Int32) (x2 : Int32) (x3 : Int32) (v_halls : Int32) (v_bidders : Int32) (v_fall : Int32) (v_heard : Int32) (v_asks : Int32) (v_pageLength : Int32) (v_isWhole : Int32) (v_newMany : Int32) (v_seedNow : Int64) (v_isKept : Int32) (v_keptHall : Int32) (v_keptHeard : Int32) (v_h : Int64) (v_touchedBy : Nat → Int32) {r0 : Int32} {r1 : Nat → Int32} (hf : f_X12_touch x1 x2 x3 v_bidders v_touchedBy = some (r0, r1)) : MD l g yX12_touch cX12_touch 5 (some .int) 2 43 [.ref aM, .int x1, .int x2, .int x3] [ob aM 12 (oM rM v_halls v_bidders v_fall v_heard v_asks v_pageLength v_isWhole v_newMany v_seedNow v_isKept v_keptHall v_keptHeard v_h), ia g (rM 8) 5 v_touchedBy] (some (.int r0)) [ob aM 12 (oM rM v_halls v_bidders v_fall v_heard v_asks v_pageLength v_isWhole v_newMany v_seedNow v_isKept v_keptHall v_keptHeard v_h), ia g (rM 8) 5 r1] := by
  refine MC.mk (by decide) (Nat.le_of_ble_eq_true rfl) ?_
  intro p e s m args below meth c ls Q A F hnm hK hw hA hl hQ
  have hP := hw.1
  have hx := F.1
  have hb := F.2.1
  have hml := F.2.2.2.1
  have hown := F.2.2.2.2.1
  have hts := F.2.2.2.2.2.1
  have hl : lv_has ls 5 [(0, .ref aM), (1, .int x1), (2, .int x2), (3, .int x3)] := hl
  unfold f_X12_touch at hf
  refine lv_aload_n hx hb dX12_touch_0 rfl (lv_at hl 0 rfl) ?_
  refine lv_iload_n hx hb dX12_touch_1 rfl (lv_at hl 1 rfl) ?_
  obtain ⟨q1, hq1, hf⟩ := o_bind hf
  refine k_rV F (c_X12_isBidder l g aM rM x1 v_halls v_bidders v_fall v_heard v_asks v_pageLength v_isWhole v_newMany v_seedNow v_isKept v_keptHall v_keptHeard v_h hq1) qv_X12_isBidder ml_X12_129 (hP.sub [0] rfl) hK (va_recv hK.1 hP (ci := 12) (q0 := 0) rfl rfl) rfl hl.1 rfl (Nat.le_of_ble_eq_true rfl) dX12_touch_2 ⟨(Nat.le_of_ble_eq_true rfl), (Nat.le_of_ble_eq_true rfl)⟩ ⟨(Nat.le_of_ble_eq_true rfl), (Nat.le_of_ble_eq_true rfl)⟩ ?_
  refine W.eq (g2 := F0 m 5 ls (.int q1 :: [])) rfl ?_
  refine lv_if_eq (tgt := 21) hx hb dX12_touch_5 (by decide) (fun h2 => ?_) (fun h2 => ?_)
  · have hf := o_t h2 hf
    refine lv_bipush (v := (-101)) hx hb dX12_touch_21 (by decide) ?_
    cases hf
    exact r_ci F hQ ⟨rfl, rfl⟩ hw dX12_touch_23
  · have hf := o_f h2 hf
    refine lv_aload_n hx hb dX12_touch_8 rfl (lv_at hl 0 rfl) ?_
    refine lv_iload_n hx hb dX12_touch_9 rfl (lv_at hl 2 rfl) ?_
    obtain ⟨q3, hq3, hf⟩ := o_bind hf
    refine k_rV F (c_X12_isBidder l g aM rM x2 v_halls v_bidders v_fall v_heard v_asks v_pageLength v_isWhole v_newMany v_seedNow v_isKept v_keptHall v_keptHeard v_h hq3) qv_X12_isBidder ml_X12_129 (hP.sub [0] rfl) hK (va_recv hK.1 hP (ci := 12) (q0 := 0) rfl rfl) rfl hl.1 rfl (Nat.le_of_ble_eq_true rfl) dX12_touch_10 ⟨(Nat.le_of_ble_eq_true rfl), (Nat.le_of_ble_eq_true rfl)⟩ ⟨(Nat.le_of_ble_eq_true rfl), (Nat.le_of_ble_eq_true rfl)⟩ ?_
    refine W.eq (g2 := F0 m 13 ls (.int q3 :: [])) rfl ?_
    refine lv_if_eq (tgt := 21) hx hb dX12_touch_13 (by decide) (fun h4 => ?_) (fun h4 => ?_)
    · have hf := o_t h4 hf
      refine lv_bipush (v := (-101)) hx hb dX12_touch_21 (by decide) ?_
      cases hf
      exact r_ci F hQ ⟨rfl, rfl⟩ hw dX12_touch_23
    · have hf := o_f h4 hf
      refine lv_iload_n hx hb dX12_touch_16 rfl (lv_at hl 1 rfl) ?_
      refine lv_iload_n hx hb dX12_touch_17 rfl (lv_at hl 2 rfl) ?_
      refine lv_icmp_ne (tgt := 24) hx hb dX12_touch_18 (by decide) (fun h5 => ?_) (fun h5 => ?_)
      · have hf := o_f h5 hf
        refine lv_aload_n hx hb dX12_touch_24 rfl (lv_at hl 0 rfl) ?_
        refine w_get (ci := 12) F hK hP fb_X12 0 rfl rfl 8 (by decide) fl_X12_25 (fun _ h => h) rfl dX12_touch_25 ?_
        refine lv_iload_n hx hb dX12_touch_28 rfl (lv_at hl 2 rfl) ?_
        obtain ⟨h6, hf⟩ := o_chk hf
        refine w_iald F hK hP 1 rfl h6 dX12_touch_29 ?_
        refine lv_iload_n hx hb dX12_touch_30 rfl (lv_at hl 1 rfl) ?_
        refine lv_ishr hx hb dX12_touch_31 ?_
        refine lv_iconst (v := 1) hx hb dX12_touch_32 (by decide) ?_
        refine lv_iand hx hb dX12_touch_33 ?_
        refine lv_topi (fun z7 ez7 => ?_)
        have hf := o_bnd ez7 hf
        refine lv_istore (lv' := [(4, .int z7), (0, .ref aM), (1, .int x1), (2, .int x2), (3, .int x3)]) hx hb dX12_touch_34 hl (by decide) rfl (fun ls hl => ?_)
        refine lv_aload_n hx hb dX12_touch_36 rfl (lv_at hl 1 rfl) ?_
        refine w_get (ci := 12) F hK hP fb_X12 0 rfl rfl 8 (by decide) fl_X12_25 (fun _ h => h) rfl dX12_touch_37 ?_
        refine lv_iload_n hx hb dX12_touch_40 rfl (lv_at hl 3 rfl) ?_
        refine lv_iload_n hx hb dX12_touch_41 rfl (lv_at hl 4 rfl) ?_
        refine lv_if_eq (tgt := 58) hx hb dX12_touch_42 (by decide) (fun h8 => ?_) (fun h8 => ?_)
        · have hf := o_t h8 hf
          refine lv_aload_n hx hb dX12_touch_58 rfl (lv_at hl 1 rfl) ?_
          refine w_get (ci := 12) F hK hP fb_X12 0 rfl rfl 8 (by decide) fl_X12_25 (fun _ h => h) rfl dX12_touch_59 ?_
          refine lv_iload_n hx hb dX12_touch_62 rfl (lv_at hl 3 rfl) ?_
          refine w_iald F hK hP 1 rfl h6 dX12_touch_63 ?_
          refine lv_iconst (v := 1) hx hb dX12_touch_64 (by decide) ?_
          refine lv_iload_n hx hb dX12_touch_65 rfl (lv_at hl 2 rfl) ?_
          refine lv_ishl hx hb dX12_touch_66 ?_
          refine lv_iconst (v := (-1)) hx hb dX12_touch_67 (by decide) ?_
          refine lv_ixor hx hb dX12_touch_68 ?_
          refine lv_iand hx hb dX12_touch_69 ?_
          refine w_iast (ws' := [ob aM 12 (oM rM v_halls v_bidders v_fall v_heard v_asks v_pageLength v_isWhole v_newMany v_seedNow v_isKept v_keptHall v_keptHeard v_h), ia g (rM 8) 5 (upd v_touchedBy (Int32.toNatClampNeg x2) ((v_touchedBy (Int32.toNatClampNeg x2)) &&& (((1 : Int32) <<< (x1 &&& 31)) ^^^ (-1))))]) F hK hw 1 rfl h6 rfl dX12_touch_70 (fun H locs hw => ?_)
          have hP := hw.1
          refine lv_iload hx hb dX12_touch_71 (lv_at hl 0 rfl) ?_
          cases hf
          exact r_ci F hQ ⟨rfl, rfl⟩ hw dX12_touch_73
        · have hf := o_f h8 hf
          refine lv_aload_n hx hb dX12_touch_45 rfl (lv_at hl 1 rfl) ?_
          refine w_get (ci := 12) F hK hP fb_X12 0 rfl rfl 8 (by decide) fl_X12_25 (fun _ h => h) rfl dX12_touch_46 ?_
          refine lv_iload_n hx hb dX12_touch_49 rfl (lv_at hl 3 rfl) ?_
          refine w_iald F hK hP 1 rfl h6 dX12_touch_50 ?_
          refine lv_iconst (v := 1) hx hb dX12_touch_51 (by decide) ?_
          refine lv_iload_n hx hb dX12_touch_52 rfl (lv_at hl 2 rfl) ?_
          refine lv_ishl hx hb dX12_touch_53 ?_
          refine lv_ior hx hb dX12_touch_54 ?_
          refine lv_goto (tgt := 70) hx hb dX12_touch_55 (by decide) ?_
          refine w_iast (ws' := [ob aM 12 (oM rM v_halls v_bidders v_fall v_heard v_asks v_pageLength v_isWhole v_newMany v_seedNow v_isKept v_keptHall v_keptHeard v_h), ia g (rM 8) 5 (upd v_touchedBy (Int32.toNatClampNeg x2) ((v_touchedBy (Int32.toNatClampNeg x2)) ||| ((1 : Int32) <<< (x1 &&& 31))))]) F hK hw 1 rfl h6 rfl dX12_touch_70 (fun H locs hw => ?_)
          have hP := hw.1
          refine lv_iload hx hb dX12_touch_71 (lv_at hl 0 rfl) ?_
          cases hf
          exact r_ci F hQ ⟨rfl, rfl⟩ hw dX12_touch_73
      · have hf := o_t h5 hf
        refine lv_bipush (v := (-101)) hx hb dX12_touch_21 (by decide) ?_
        cases hf
        exact r_ci F hQ ⟨rfl, rfl⟩ hw dX12_touch_23
def f_X12_sayingNow_8 (fuel : Nat) (x1 : Int32) (v_bidders : Int32) (v_choiceOf : Nat → Int32) (v_kindOf : Nat → Int32) (v_touchedBy : Nat → Int32) (v_windOf : Nat → Int32) (y3 : Int32) (y2 : Int32) (w_v_stopsAt : Nat → Int32) : Option (Int32 × Int32 × (Nat → Int32)) := match fuel with
  | 0 => none
  | k + 1 => (if v_bidders ≤ y3 then (some (y3, y2, w_v_stopsAt)) else (if y3 < 0 ∨ 5 ≤ Int32.toNatClampNeg y3 then none else (if (w_v_stopsAt (Int32.toNatClampNeg y3)) ≤ x1 then (bnd (y2 + 0) fun z5 => (bnd (y3 + 1 : Int32) fun z6 => (f_X12_sayingNow_8 k x1 v_bidders v_choiceOf v_kindOf v_touchedBy v_windOf z6 z5 w_v_stopsAt))) else (bnd (y2 + 1) fun z7 => (bnd (y3 + 1 : Int32) fun z8 => (f_X12_sayingNow_8 k x1 v_bidders v_choiceOf v_kindOf v_touchedBy v_windOf z8 z7 w_v_stopsAt))))))
def f_X12_sayingNow (x1 : Int32) (v_bidders : Int32) (v_choiceOf : Nat → Int32) (v_kindOf : Nat → Int32) (v_stopsAt : Nat → Int32) (v_touchedBy : Nat → Int32) (v_windOf : Nat → Int32) : Option (Int32 × (Nat → Int32)) := ((f_X12_layStops v_bidders v_choiceOf v_kindOf v_stopsAt v_touchedBy v_windOf).bind fun q1 => ((f_X12_sayingNow_8 4096 x1 v_bidders v_choiceOf v_kindOf v_touchedBy v_windOf 0 0 q1).bind fun q9 => (some (q9.2.1, q9.2.2))))
set_option maxRecDepth 100000 in
set_option maxHeartbeats 4000000 in
theorem c_X12_sayingNow (l : Launch) (g : GG) (aM : Nat) (rM : Nat → Nat) (x1 : Int32) (v_halls : Int32) (v_bidders : Int32) (v_fall : Int32) (v_heard : Int32) (v_asks : Int32) (v_pageLength : Int32) (v_isWhole : Int32) (v_newMany : Int32) (v_seedNow : Int64) (v_isKept : Int32) (v_keptHall : Int32) (v_keptHeard : Int32) (v_h : Int64) (v_choiceOf : Nat → Int32) (v_kindOf : Nat → Int32) (v_stopsAt : Nat → Int32) (v_touchedBy : Nat → Int32) (v_windOf : Nat → Int32) {r0 : Int32} {r1 : Nat → Int32} (hf : f_X12_sayingNow x1 v_bidders v_choiceOf v_kindOf v_stopsAt v_touchedBy v_windOf = some (r0, r1)) : MD l g yX12_sayingNow cX12_sayingNow 4 (some .int) 2 47 [.ref aM, .int x1] [ob aM 12 (oM rM v_halls v_bidders v_fall v_heard v_asks v_pageLength v_isWhole v_newMany v_seedNow v_isKept v_keptHall v_keptHeard v_h), ia g (rM 7) 5 v_choiceOf, ia g (rM 3) 5 v_kindOf, ia g (rM 17) 5 v_stopsAt, ia g (rM 8) 5 v_touchedBy, ia g (rM 4) 5 v_windOf] (some (.int r0)) [ob aM 12 (oM rM v_halls v_bidders v_fall v_heard v_asks v_pageLength v_isWhole v_newMany v_seedNow v_isKept v_keptHall v_keptHeard v_h), ia g (rM 7) 5 v_choiceOf, ia g (rM 3) 5 v_kindOf, ia g (rM 17) 5 r1, ia g (rM 8) 5 v_touchedBy, ia g (rM 4) 5 v_windOf] := by
  refine MC.mk (by decide) (Nat.le_of_ble_eq_true rfl) ?_
  intro p e s m args below meth c ls Q A F hnm hK hw hA hl hQ
  have hP := hw.1
  have hx := F.1
  have hb := F.2.1
  have hml := F.2.2.2.1
  have hown := F.2.2.2.2.1
  have hts := F.2.2.2.2.2.1
  have hl : lv_has ls 4 [(0, .ref aM), (1, .int x1)] := hl
  have L8 : ∀ (k : Nat) (y3 : Int32) (y2 : Int32) (w_v_stopsAt : Nat → Int32) (q : Int32 × Int32 × (Nat → Int32)), f_X12_sayingNow_8 k x1 v_bidders v_choiceOf v_kindOf v_touchedBy v_windOf y3 y2 w_v_stopsAt = some q → ∀ (H : Heap) (locs : List Loc) (ls : Array Slot), WD g A s.heap [ob aM 12 (oM rM v_halls v_bidders v_fall v_heard v_asks v_pageLength v_isWhole v_newMany v_seedNow v_isKept v_keptHall v_keptHeard v_h), ia g (rM 7) 5 v_choiceOf, ia g (rM 3) 5 v_kindOf, ia g (rM 17) 5 w_v_stopsAt, ia g (rM 8) 5 v_touchedBy, ia g (rM 4) 5 v_windOf] H locs → lv_has ls 4 [(3, .int y3), (2, .int y2), (0, .ref aM), (1, .int x1)] → (∀ (H : Heap) (locs : List Loc) (ls : Array Slot), WD g A s.heap [ob aM 12 (oM rM v_halls v_bidders v_fall v_heard v_asks v_pageLength v_isWhole v_newMany v_seedNow v_isKept v_keptHall v_keptHeard v_h), ia g (rM 7) 5 v_choiceOf, ia g (rM 3) 5 v_kindOf, ia g (rM 17) 5 q.2.2, ia g (rM 8) 5 v_touchedBy, ia g (rM 4) 5 v_windOf] H locs → lv_has ls 4 [(3, .int q.1), (2, .int q.2.1), (0, .ref aM), (1, .int x1)] → W p l e (rmc 2 0 0 47) s m args below meth c H locs 0 0 Q (F0 m 40 ls [])) → W p l e (rmc 2 0 0 47) s m args below meth c H locs 0 0 Q (F0 m 8 ls []) := by
    intro k
    induction k with
    | zero => intro y3 y2 w_v_stopsAt q hf; rw [f_X12_sayingNow_8] at hf; cases hf
    | succ k ih =>
      intro y3 y2 w_v_stopsAt q hf H locs ls hw hl kx
      rw [f_X12_sayingNow_8] at hf
      have hP := hw.1
      refine lv_iload_n hx hb dX12_sayingNow_8 rfl (lv_at hl 0 rfl) ?_
      refine lv_aload_n hx hb dX12_sayingNow_9 rfl (lv_at hl 2 rfl) ?_
      refine w_get (ci := 12) F hK hP fb_X12 0 rfl rfl 1 (by decide) fl_X12_89 (fun _ h => h) rfl dX12_sayingNow_10 ?_
      refine lv_icmp_ge (tgt := 40) hx hb dX12_sayingNow_13 (by decide) (fun h2 => ?_) (fun h2 => ?_)
      · have hf := o_t h2 hf
        cases hf
        exact kx _ _ ls hw (lv_sub hl [0, 1, 2, 3] rfl)
      · have hf := o_f h2 hf
        refine lv_iload_n hx hb dX12_sayingNow_16 rfl (lv_at hl 1 rfl) ?_
        refine lv_aload_n hx hb dX12_sayingNow_17 rfl (lv_at hl 2 rfl) ?_
        refine w_get (ci := 12) F hK hP fb_X12 0 rfl rfl 17 (by decide) fl_X12_38 (fun _ h => h) rfl dX12_sayingNow_18 ?_
        refine lv_iload_n hx hb dX12_sayingNow_21 rfl (lv_at hl 0 rfl) ?_
        obtain ⟨h3, hf⟩ := o_chk hf
        refine w_iald F hK hP 3 rfl h3 dX12_sayingNow_22 ?_
        refine lv_iload_n hx hb dX12_sayingNow_23 rfl (lv_at hl 3 rfl) ?_
        refine lv_icmp_le (tgt := 31) hx hb dX12_sayingNow_24 (by decide) (fun h4 => ?_) (fun h4 => ?_)
        · have hf := o_t h4 hf
          refine lv_iconst (v := 0) hx hb dX12_sayingNow_31 (by decide) ?_
          refine lv_iadd hx hb dX12_sayingNow_32 ?_
          refine lv_topi (fun z5 ez5 => ?_)
          have hf := o_bnd ez5 hf
          refine lv_istore_n (lv' := [(2, .int z5), (3, .int y3), (0, .ref aM), (1, .int x1)]) hx hb dX12_sayingNow_33 rfl hl (by decide) rfl (fun ls hl => ?_)
          obtain ⟨z6, ez6⟩ : ∃ y : Int32, y = y3 + 1 := ⟨_, rfl⟩
          have hf := o_bnd ez6 hf
          refine lv_iinc (v := z6) (lv' := [(3, .int z6), (2, .int z5), (0, .ref aM), (1, .int x1)]) hx hb dX12_sayingNow_34 hl (k := 1) rfl (by rw [ez6]; rfl) (by decide) rfl (fun ls hl => ?_)
          refine lv_goto (tgt := 8) hx hb dX12_sayingNow_37 (by decide) ?_
          exact ih z6 z5 w_v_stopsAt _ hf _ _ ls hw (lv_sub hl [0, 1, 2, 3] rfl) kx
        · have hf := o_f h4 hf
          refine lv_iconst (v := 1) hx hb dX12_sayingNow_27 (by decide) ?_
          refine lv_goto (tgt := 32) hx hb dX12_sayingNow_28 (by decide) ?_
          refine lv_iadd hx hb dX12_sayingNow_32 ?_
          refine lv_topi (fun z7 ez7 => ?_)
          have hf := o_bnd ez7 hf
          refine lv_istore_n (lv' := [(2, .int z7), (3, .int y3), (0, .ref aM), (1, .int x1)]) hx hb dX12_sayingNow_33 rfl hl (by decide) rfl (fun ls hl => ?_)
          obtain ⟨z8, ez8⟩ : ∃ y : Int32, y = y3 + 1 := ⟨_, rfl⟩
          have hf := o_bnd ez8 hf
          refine lv_iinc (v := z8) (lv' := [(3, .int z8), (2, .int z7), (0, .ref aM), (1, .int x1)]) hx hb dX12_sayingNow_34 hl (k := 1) rfl (by rw [ez8]; rfl) (by decide) rfl (fun ls hl => ?_)
          refine lv_goto (tgt := 8) hx hb dX12_sayingNow_37 (by decide) ?_
          exact ih z8 z7 w_v_stopsAt _ hf _ _ ls hw (lv_sub hl [0, 1, 2, 3] rfl) kx
  unfold f_X12_sayingNow at hf
  refine lv_aload_n hx hb dX12_sayingNow_0 rfl (lv_at hl 0 rfl) ?_
  obtain ⟨q1, hq1, hf⟩ := o_bind hf
  refine k_dV (wr := []) (ws' := [ob aM 12 (oM rM v_halls v_bidders v_fall v_heard v_asks v_pageLength v_isWhole v_newMany v_seedNow v_isKept v_keptHall v_keptHeard v_h), ia g (rM 7) 5 v_choiceOf, ia g (rM 3) 5 v_kindOf, ia g (rM 17) 5 q1, ia g (rM 8) 5 v_touchedBy, ia g (rM 4) 5 v_windOf]) F (c_X12_layStops l g aM rM v_halls v_bidders v_fall v_heard v_asks v_pageLength v_isWhole v_newMany v_seedNow v_isKept v_keptHall v_keptHeard v_h v_choiceOf v_kindOf v_stopsAt v_touchedBy v_windOf hq1) qv_X12_layStops ml_X12_123 hw hA hK [0, 1, 2, 3, 4, 5] [] [0, 1, 2, 3, 4, 5] rfl rfl rfl rfl rfl (by decide) rfl rfl rfl (va_recv hK.1 hP (ci := 12) (q0 := 0) rfl rfl) rfl hl.1 rfl (Nat.le_of_ble_eq_true rfl) dX12_sayingNow_1 ⟨(Nat.le_of_ble_eq_true rfl), (Nat.le_of_ble_eq_true rfl)⟩ ⟨(Nat.le_of_ble_eq_true rfl), (Nat.le_of_ble_eq_true rfl)⟩ (fun H locs hw => ?_)
  have hP := hw.1
  refine W.eq (g2 := F0 m 4 ls ([])) rfl ?_
  refine lv_iconst (v := 0) hx hb dX12_sayingNow_4 (by decide) ?_
  refine lv_istore_n (lv' := [(2, .int 0), (0, .ref aM), (1, .int x1)]) hx hb dX12_sayingNow_5 rfl hl (by decide) rfl (fun ls hl => ?_)
  refine lv_iconst (v := 0) hx hb dX12_sayingNow_6 (by decide) ?_
  refine lv_istore_n (lv' := [(3, .int 0), (2, .int 0), (0, .ref aM), (1, .int x1)]) hx hb dX12_sayingNow_7 rfl hl (by decide) rfl (fun ls hl => ?_)
  obtain ⟨q9, hq9, hf⟩ := o_bind hf
  refine L8 _ 0 0 q1 _ hq9 _ _ ls hw (lv_sub hl [0, 1, 2, 3] rfl) (fun H locs ls hw hl => ?_)
  have hP := hw.1
  refine lv_iload_n hx hb dX12_sayingNow_40 rfl (lv_at hl 1 rfl) ?_
  cases hf
  exact r_ci F hQ ⟨rfl, rfl⟩ hw dX12_sayingNow_41
