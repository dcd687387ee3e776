def f_X12_saying (x1 : Int32) (v_bidders : Int32) (v_choiceOf : Nat → Int32) (v_kindOf : Nat → Int32) (v_stopsAt : Nat → Int32) (v_touchedBy : Nat → Int32) (v_windOf : Nat → Int32) : Option (Int32 × (Nat → Int32)) := ((f_X12_within x1 1 40).bind fun q1 => (if q1 = 0 then (some ((-102), v_stopsAt)) else (if v_bidders = 0 then (some ((-103), v_stopsAt)) else ((f_X12_sayingNow x1 v_bidders v_choiceOf v_kindOf v_stopsAt v_touchedBy v_windOf).bind fun q4 => (some (q4.1, q4.2))))))
set_option maxRecDepth 100000 in
set_option maxHeartbeats 4000000 in
theorem c_X12_saying (l : Launch) (g : GG) (aM : Nat) (rM : Nat → Nat) (x1 : Int32) (v_halls : Int32) (v_bidders : Int32) (v_fall : Int32) (v_heard : Int32) (v_asks : Int32) (v_pageLength : Int32) (v_isWhole : Int32) (v_newMany : Int32) (v_seedNow : Int64) (v_isKept : Int32) (v_keptHall : Int32) (v_keptHeard : Int32) (v_h : Int64) (v_choiceOf : Nat → Int32) (v_kindOf : Nat → Int32) (v_stopsAt : Nat → Int32) (v_touchedBy : Nat → Int32) (v_windOf : Nat → Int32) {r0 : Int32} {r1 : Nat → Int32} (hf : f_X12_saying x1 v_bidders v_choiceOf v_kindOf v_stopsAt v_touchedBy v_windOf = some (r0, r1)) : MD l g yX12_saying cX12_saying 2 (some .int) 3 70 [.ref aM, .int x1] [ob aM 12 (oM rM v_halls v_bidders v_fall v_heard v_asks v_pageLength v_isWhole v_newMany v_seedNow v_isKept v_keptHall v_keptHeard v_h), ia g (rM 7) 5 v_choiceOf, ia g (rM 3) 5 v_kindOf, ia g (rM 17) 5 v_stopsAt, ia g (rM 8) 5 v_touchedBy, ia g (rM 4) 5 v_windOf] (some (.int r0)) [ob aM 12 (oM rM v_halls v_bidders v_fall v_heard v_asks v_pageLength v_isWhole v_newMany v_seedNow v_isKept v_keptHall v_keptHeard v_h), ia g (rM 7) 5 v_choiceOf, ia g (rM 3) 5 v_kindOf, ia g (rM 17) 5 r1, ia g (rM 8) 5 v_touchedBy, ia g (rM 4) 5 v_windOf] := by
  refine MC.mk (by decide) (Nat.le_of_ble_eq_true rfl) ?_
  intro p e s m args below meth c ls Q A F hnm hK hw hA hl hQ
  have hP := hw.1
  have hx := F.1
  have hb := F.2.1
  have hml := F.2.2.2.1
  have hown := F.2.2.2.2.1
  have hts := F.2.2.2.2.2.1
  have hl : lv_has ls 2 [(0, .ref aM), (1, .int x1)] := hl
  unfold f_X12_saying at hf
  refine lv_iload_n hx hb dX12_saying_0 rfl (lv_at hl 1 rfl) ?_
  refine lv_iconst (v := 1) hx hb dX12_saying_1 (by decide) ?_
  refine lv_bipush (v := 40) hx hb dX12_saying_2 (by decide) ?_
  obtain ⟨q1, hq1, hf⟩ := o_bind hf
  refine k_rS F (c_X12_within l g x1 1 40 hq1) qs_X12_within ml_X12_59 (hP.sub [] rfl) hK rfl hl.1 rfl (Nat.le_of_ble_eq_true rfl) dX12_saying_4 ⟨(Nat.le_of_ble_eq_true rfl), (Nat.le_of_ble_eq_true rfl)⟩ ⟨(Nat.le_of_ble_eq_true rfl), (Nat.le_of_ble_eq_true rfl)⟩ ?_
  refine W.eq (g2 := F0 m 7 ls (.int q1 :: [])) rfl ?_
  refine lv_if_ne (tgt := 13) hx hb dX12_saying_7 (by decide) (fun h2 => ?_) (fun h2 => ?_)
  · have hf := o_f h2 hf
    refine lv_aload_n hx hb dX12_saying_13 rfl (lv_at hl 0 rfl) ?_
    refine w_get (ci := 12) F hK hP fb_X12 0 rfl rfl 1 (by decide) fl_X12_89 (fun _ h => h) rfl dX12_saying_14 ?_
    refine lv_if_ne (tgt := 25) hx hb dX12_saying_17 (by decide) (fun h3 => ?_) (fun h3 => ?_)
    · have hf := o_f h3 hf
      refine lv_aload_n hx hb dX12_saying_25 rfl (lv_at hl 0 rfl) ?_
      refine lv_iload_n hx hb dX12_saying_26 rfl (lv_at hl 1 rfl) ?_
      obtain ⟨q4, hq4, hf⟩ := o_bind hf
      refine k_dV (wr := []) (ws' := [ob aM 12 (oM rM v_halls v_bidders v_fall v_heard v_asks v_pageLength v_isWhole v_newMany v_seedNow v_isKept v_keptHall v_keptHeard v_h), ia g (rM 7) 5 v_choiceOf, ia g (rM 3) 5 v_kindOf, ia g (rM 17) 5 q4.2, ia g (rM 8) 5 v_touchedBy, ia g (rM 4) 5 v_windOf]) F (c_X12_sayingNow l g aM rM x1 v_halls v_bidders v_fall v_heard v_asks v_pageLength v_isWhole v_newMany v_seedNow v_isKept v_keptHall v_keptHeard v_h v_choiceOf v_kindOf v_stopsAt v_touchedBy v_windOf hq4) qv_X12_sayingNow ml_X12_137 hw hA hK [0, 1, 2, 3, 4, 5] [] [0, 1, 2, 3, 4, 5] rfl rfl rfl rfl rfl (by decide) rfl rfl rfl (va_recv hK.1 hP (ci := 12) (q0 := 0) rfl rfl) rfl hl.1 rfl (Nat.le_of_ble_eq_true rfl) dX12_saying_27 ⟨(Nat.le_of_ble_eq_true rfl), (Nat.le_of_ble_eq_true rfl)⟩ ⟨(Nat.le_of_ble_eq_true rfl), (Nat.le_of_ble_eq_true rfl)⟩ (fun H locs hw => ?_)
      have hP := hw.1
      refine W.eq (g2 := F0 m 30 ls (.int q4.1 :: [])) rfl ?_
      cases hf
      exact r_ci F hQ ⟨rfl, rfl⟩ hw dX12_saying_30
    · have hf := o_t h3 hf
      refine lv_bipush (v := (-103)) hx hb dX12_saying_20 (by decide) ?_
      refine lv_goto (tgt := 30) hx hb dX12_saying_22 (by decide) ?_
      cases hf
      exact r_ci F hQ ⟨rfl, rfl⟩ hw dX12_saying_30
  · have hf := o_t h2 hf
    refine lv_bipush (v := (-102)) hx hb dX12_saying_10 (by decide) ?_
    cases hf
    exact r_ci F hQ ⟨rfl, rfl⟩ hw dX12_saying_12
def f_X12_lotNow (x1 : Int32) (v_bidders : Int32) (v_choiceOf : Nat → Int32) (v_fall : Int32) (v_kindOf : Nat → Int32) (v_stopsAt : Nat → Int32) (v_sumOf : Nat → Int32) (v_touchedBy : Nat → Int32) (v_windOf : Nat → Int32) : Option (Int32 × (Nat → Int32)) := ((f_X12_layStops v_bidders v_choiceOf v_kindOf v_stopsAt v_touchedBy v_windOf).bind fun q1 => ((f_X12_getter v_bidders v_kindOf q1).bind fun q2 => (if q2 = (-1) then (some (q2, q1)) else (if x1 = 0 then (some (q2, q1)) else (if x1 = 1 then ((f_X12_priceOf q2 v_fall v_kindOf q1 v_sumOf).bind fun q7 => (some (q7, q1))) else ((f_X12_silentFrom q2 v_kindOf q1).bind fun q6 => (some (q6, q1))))))))
set_option maxRecDepth 100000 in
set_option maxHeartbeats 4000000 in
theorem c_X12_lotNow (l : Launch) (g : GG) (aM : Nat) (rM : Nat → Nat) (x1 : Int32) (v_halls : Int32) (v_bidders : Int32) (v_fall : Int32) (v_heard : Int32) (v_asks : Int32) (v_pageLength : Int32) (v_isWhole : Int32) (v_newMany : Int32) (v_seedNow : Int64) (v_isKept : Int32) (v_keptHall : Int32) (v_keptHeard : Int32) (v_h : Int64) (v_choiceOf : Nat → Int32) (v_kindOf : Nat → Int32) (v_stopsAt : Nat → Int32) (v_sumOf : Nat → Int32) (v_touchedBy : Nat → Int32) (v_windOf : Nat → Int32) {r0 : Int32} {r1 : Nat → Int32} (hf : f_X12_lotNow x1 v_bidders v_choiceOf v_fall v_kindOf v_stopsAt v_sumOf v_touchedBy v_windOf = some (r0, r1)) : MD l g yX12_lotNow cX12_lotNow 3 (some .int) 3 69 [.ref aM, .int x1] [ob aM 12 (oM rM v_halls v_bidders v_fall v_heard v_asks v_pageLength v_isWhole v_newMany v_seedNow v_isKept v_keptHall v_keptHeard v_h), ia g (rM 7) 5 v_choiceOf, ia g (rM 3) 5 v_kindOf, ia g (rM 17) 5 v_stopsAt, ia g (rM 5) 5 v_sumOf, ia g (rM 8) 5 v_touchedBy, ia g (rM 4) 5 v_windOf] (some (.int r0)) [ob aM 12 (oM rM v_halls v_bidders v_fall v_heard v_asks v_pageLength v_isWhole v_newMany v_seedNow v_isKept v_keptHall v_keptHeard v_h), ia g (rM 7) 5 v_choiceOf, ia g (rM 3) 5 v_kindOf, ia g (rM 17) 5 r1, ia g (rM 5) 5 v_sumOf, ia g (rM 8) 5 v_touchedBy, ia g (rM 4) 5 v_windOf] := by
  refine MC.mk (by decide) (Nat.le_of_ble_eq_true rfl) ?_
  intro p e s m args below meth c ls Q A F hnm hK hw hA hl hQ
  have hP := hw.1
  have hx := F.1
  have hb := F.2.1
  have hml := F.2.2.2.1
  have hown := F.2.2.2.2.1
  have hts := F.2.2.2.2.2.1
  have hl : lv_has ls 3 [(0, .ref aM), (1, .int x1)] := hl
  unfold f_X12_lotNow at hf
  refine lv_aload_n hx hb dX12_lotNow_0 rfl (lv_at hl 0 rfl) ?_
  obtain ⟨q1, hq1, hf⟩ := o_bind hf
  refine k_dV (wr := [ia g (rM 5) 5 v_sumOf]) (ws' := [ob aM 12 (oM rM v_halls v_bidders v_fall v_heard v_asks v_pageLength v_isWhole v_newMany v_seedNow v_isKept v_keptHall v_keptHeard v_h), ia g (rM 7) 5 v_choiceOf, ia g (rM 3) 5 v_kindOf, ia g (rM 17) 5 q1, ia g (rM 5) 5 v_sumOf, ia g (rM 8) 5 v_touchedBy, ia g (rM 4) 5 v_windOf]) F (c_X12_layStops l g aM rM v_halls v_bidders v_fall v_heard v_asks v_pageLength v_isWhole v_newMany v_seedNow v_isKept v_keptHall v_keptHeard v_h v_choiceOf v_kindOf v_stopsAt v_touchedBy v_windOf hq1) qv_X12_layStops ml_X12_123 hw hA hK [0, 1, 2, 3, 5, 6] [4] [1, 2, 3, 4, 0, 5, 6] rfl rfl rfl rfl rfl (by decide) rfl rfl rfl (va_recv hK.1 hP (ci := 12) (q0 := 0) rfl rfl) rfl hl.1 rfl (Nat.le_of_ble_eq_true rfl) dX12_lotNow_1 ⟨(Nat.le_of_ble_eq_true rfl), (Nat.le_of_ble_eq_true rfl)⟩ ⟨(Nat.le_of_ble_eq_true rfl), (Nat.le_of_ble_eq_true rfl)⟩ (fun H locs hw => ?_)
  have hP := hw.1
  refine W.eq (g2 := F0 m 4 ls ([])) rfl ?_
  refine lv_aload_n hx hb dX12_lotNow_4 rfl (lv_at hl 0 rfl) ?_
  obtain ⟨q2, hq2, hf⟩ := o_bind hf
  refine k_rV F (c_X12_getter l g aM rM v_halls v_bidders v_fall v_heard v_asks v_pageLength v_isWhole v_newMany v_seedNow v_isKept v_keptHall v_keptHeard v_h v_kindOf q1 hq2) qv_X12_getter ml_X12_117 (hP.sub [0, 2, 3] rfl) hK (va_recv hK.1 hP (ci := 12) (q0 := 0) rfl rfl) rfl hl.1 rfl (Nat.le_of_ble_eq_true rfl) dX12_lotNow_5 ⟨(Nat.le_of_ble_eq_true rfl), (Nat.le_of_ble_eq_true rfl)⟩ ⟨(Nat.le_of_ble_eq_true rfl), (Nat.le_of_ble_eq_true rfl)⟩ ?_
  refine W.eq (g2 := F0 m 8 ls (.int q2 :: [])) rfl ?_
  refine lv_istore_n (lv' := [(2, .int q2), (0, .ref aM), (1, .int x1)]) hx hb dX12_lotNow_8 rfl hl (by decide) rfl (fun ls hl => ?_)
  refine lv_iload_n hx hb dX12_lotNow_9 rfl (lv_at hl 0 rfl) ?_
  refine lv_iconst (v := (-1)) hx hb dX12_lotNow_10 (by decide) ?_
  refine lv_icmp_eq (tgt := 18) hx hb dX12_lotNow_11 (by decide) (fun h3 => ?_) (fun h3 => ?_)
  · have hf := o_t h3 hf
    refine lv_iload_n hx hb dX12_lotNow_18 rfl (lv_at hl 0 rfl) ?_
    refine lv_goto (tgt := 40) hx hb dX12_lotNow_19 (by decide) ?_
    cases hf
    exact r_ci F hQ ⟨rfl, rfl⟩ hw dX12_lotNow_40
  · have hf := o_f h3 hf
    refine lv_iload_n hx hb dX12_lotNow_14 rfl (lv_at hl 2 rfl) ?_
    refine lv_if_ne (tgt := 22) hx hb dX12_lotNow_15 (by decide) (fun h4 => ?_) (fun h4 => ?_)
    · have hf := o_f h4 hf
      refine lv_iload_n hx hb dX12_lotNow_22 rfl (lv_at hl 2 rfl) ?_
      refine lv_iconst (v := 1) hx hb dX12_lotNow_23 (by decide) ?_
      refine lv_icmp_ne (tgt := 35) hx hb dX12_lotNow_24 (by decide) (fun h5 => ?_) (fun h5 => ?_)
      · have hf := o_f h5 hf
        refine lv_aload_n hx hb dX12_lotNow_35 rfl (lv_at hl 1 rfl) ?_
        refine lv_iload_n hx hb dX12_lotNow_36 rfl (lv_at hl 0 rfl) ?_
        obtain ⟨q6, hq6, hf⟩ := o_bind hf
        refine k_rV F (c_X12_silentFrom l g aM rM q2 v_halls v_bidders v_fall v_heard v_asks v_pageLength v_isWhole v_newMany v_seedNow v_isKept v_keptHall v_keptHeard v_h v_kindOf q1 hq6) qv_X12_silentFrom ml_X12_108 (hP.sub [0, 2, 3] rfl) hK (va_recv hK.1 hP (ci := 12) (q0 := 0) rfl rfl) rfl hl.1 rfl (Nat.le_of_ble_eq_true rfl) dX12_lotNow_37 ⟨(Nat.le_of_ble_eq_true rfl), (Nat.le_of_ble_eq_true rfl)⟩ ⟨(Nat.le_of_ble_eq_true rfl), (Nat.le_of_ble_eq_true rfl)⟩ ?_
        refine W.eq (g2 := F0 m 40 ls (.int q6 :: [])) rfl ?_
        cases hf
        exact r_ci F hQ ⟨rfl, rfl⟩ hw dX12_lotNow_40
      · have hf := o_t h5 hf
        refine lv_aload_n hx hb dX12_lotNow_27 rfl (lv_at hl 1 rfl) ?_
        refine lv_iload_n hx hb dX12_lotNow_28 rfl (lv_at hl 0 rfl) ?_
        obtain ⟨q7, hq7, hf⟩ := o_bind hf
        refine k_rV F (c_X12_priceOf l g aM rM q2 v_halls v_bidders v_fall v_heard v_asks v_pageLength v_isWhole v_newMany v_seedNow v_isKept v_keptHall v_keptHeard v_h v_kindOf q1 v_sumOf hq7) qv_X12_priceOf ml_X12_120 (hP.sub [0, 2, 3, 4] rfl) hK (va_recv hK.1 hP (ci := 12) (q0 := 0) rfl rfl) rfl hl.1 rfl (Nat.le_of_ble_eq_true rfl) dX12_lotNow_29 ⟨(Nat.le_of_ble_eq_true rfl), (Nat.le_of_ble_eq_true rfl)⟩ ⟨(Nat.le_of_ble_eq_true rfl), (Nat.le_of_ble_eq_true rfl)⟩ ?_
        refine W.eq (g2 := F0 m 32 ls (.int q7 :: [])) rfl ?_
        refine lv_goto (tgt := 40) hx hb dX12_lotNow_32 (by decide) ?_
        cases hf
        exact r_ci F hQ ⟨rfl, rfl⟩ hw dX12_lotNow_40
    · have hf := o_t h4 hf
      refine lv_iload_n hx hb dX12_lotNow_18 rfl (lv_at hl 0 rfl) ?_
      refine lv_goto (tgt := 40) hx hb dX12_lotNow_19 (by decide) ?_
      cases hf
      exact r_ci F hQ ⟨rfl, rfl⟩ hw dX12_lotNow_40
def f_X12_lot (x1 : Int32) (v_bidders : Int32) (v_choiceOf : Nat → Int32) (v_fall : Int32) (v_kindOf : Nat → Int32) (v_stopsAt : Nat → Int32) (v_sumOf : Nat → Int32) (v_touchedBy : Nat → Int32) (v_windOf : Nat → Int32) : Option (Int32 × (Nat → Int32)) := ((f_X12_within x1 0 2).bind fun q1 => (if q1 = 0 then (some ((-102), v_stopsAt)) else (if v_bidders = 0 then (some ((-103), v_stopsAt)) else ((f_X12_lotNow x1 v_bidders v_choiceOf v_fall v_kindOf v_stopsAt v_sumOf v_touchedBy v_windOf).bind fun q4 => (some (q4.1, q4.2))))))
set_option maxRecDepth 100000 in
set_option maxHeartbeats 4000000 in
theorem c_X12_lot (l : Launch) (g : GG) (aM : Nat) (rM : Nat → Nat) (x1 : Int32) (v_halls : Int32) (v_bidders : Int32) (v_fall : Int32) (v_heard : Int32) (v_asks : Int32) (v_pageLength : Int32) (v_isWhole : Int32) (v_newMany : Int32) (v_seedNow : Int64) (v_isKept : Int32) (v_keptHall : Int32) (v_keptHeard : Int32) (v_h : Int64) (v_choiceOf : Nat → Int32) (v_kindOf : Nat → Int32) (v_stopsAt : Nat → Int32) (v_sumOf : Nat → Int32) (v_touchedBy : Nat → Int32) (v_windOf : Nat → Int32) {r0 : Int32} {r1 : Nat → Int32} (hf : f_X12_lot x1 v_bidders v_choiceOf v_fall v_kindOf v_stopsAt v_sumOf v_touchedBy v_windOf = some (r0, r1)) : MD l g yX12_lot cX12_lot 2 (some .int) 4 91 [.ref aM, .int x1] [ob aM 12 (oM rM v_halls v_bidders v_fall v_heard v_asks v_pageLength v_isWhole v_newMany v_seedNow v_isKept v_keptHall v_keptHeard v_h), ia g (rM 7) 5 v_choiceOf, ia g (rM 3) 5 v_kindOf, ia g (rM 17) 5 v_stopsAt, ia g (rM 5) 5 v_sumOf, ia g (rM 8) 5 v_touchedBy, ia g (rM 4) 5 v_windOf] (some (.int r0)) [ob aM 12 (oM rM v_halls v_bidders v_fall v_heard v_asks v_pageLength v_isWhole v_newMany v_seedNow v_isKept v_keptHall v_keptHeard v_h), ia g (rM 7) 5 v_choiceOf, ia g (rM 3) 5 v_kindOf, ia g (rM 17) 5 r1, ia g (rM 5) 5 v_sumOf, ia g (rM 8) 5 v_touchedBy, ia g (rM 4) 5 v_windOf] := by
  refine MC.mk (by decide) (Nat.le_of_ble_eq_true rfl) ?_
  intro p e s m args below meth c ls Q A F hnm hK hw hA hl hQ
  have hP := hw.1
  have hx := F.1
  have hb := F.2.1
  have hml := F.2.2.2.1
  have hown := F.2.2.2.2.1
  have hts := F.2.2.2.2.2.1
  have hl : lv_has ls 2 [(0, .ref aM), (1, .int x1)] := hl
  unfold f_X12_lot at hf
  refine lv_iload_n hx hb dX12_lot_0 rfl (lv_at hl 1 rfl) ?_
  refine lv_iconst (v := 0) hx hb dX12_lot_1 (by decide) ?_
  refine lv_iconst (v := 2) hx hb dX12_lot_2 (by decide) ?_
  obtain ⟨q1, hq1, hf⟩ := o_bind hf
  refine k_rS F (c_X12_within l g x1 0 2 hq1) qs_X12_within ml_X12_59 (hP.sub [] rfl) hK rfl hl.1 rfl (Nat.le_of_ble_eq_true rfl) dX12_lot_3 ⟨(Nat.le_of_ble_eq_true rfl), (Nat.le_of_ble_eq_true rfl)⟩ ⟨(Nat.le_of_ble_eq_true rfl), (Nat.le_of_ble_eq_true rfl)⟩ ?_
  refine W.eq (g2 := F0 m 6 ls (.int q1 :: [])) rfl ?_
  refine lv_if_ne (tgt := 12) hx hb dX12_lot_6 (by decide) (fun h2 => ?_) (fun h2 => ?_)
  · have hf := o_f h2 hf
    refine lv_aload_n hx hb dX12_lot_12 rfl (lv_at hl 0 rfl) ?_
    refine w_get (ci := 12) F hK hP fb_X12 0 rfl rfl 1 (by decide) fl_X12_89 (fun _ h => h) rfl dX12_lot_13 ?_
    refine lv_if_ne (tgt := 24) hx hb dX12_lot_16 (by decide) (fun h3 => ?_) (fun h3 => ?_)
    · have hf := o_f h3 hf
      refine lv_aload_n hx hb dX12_lot_24 rfl (lv_at hl 0 rfl) ?_
      refine lv_iload_n hx hb dX12_lot_25 rfl (lv_at hl 1 rfl) ?_
      obtain ⟨q4, hq4, hf⟩ := o_bind hf
      refine k_dV (wr := []) (ws' := [ob aM 12 (oM rM v_halls v_bidders v_fall v_heard v_asks v_pageLength v_isWhole v_newMany v_seedNow v_isKept v_keptHall v_keptHeard v_h), ia g (rM 7) 5 v_choiceOf, ia g (rM 3) 5 v_kindOf, ia g (rM 17) 5 q4.2, ia g (rM 5) 5 v_sumOf, ia g (rM 8) 5 v_touchedBy, ia g (rM 4) 5 v_windOf]) F (c_X12_lotNow l g aM rM x1 v_halls v_bidders v_fall v_heard v_asks v_pageLength v_isWhole v_newMany v_seedNow v_isKept v_keptHall v_keptHeard v_h v_choiceOf v_kindOf v_stopsAt v_sumOf v_touchedBy v_windOf hq4) qv_X12_lotNow ml_X12_140 hw hA hK [0, 1, 2, 3, 4, 5, 6] [] [0, 1, 2, 3, 4, 5, 6] rfl rfl rfl rfl rfl (by decide) rfl rfl rfl (va_recv hK.1 hP (ci := 12) (q0 := 0) rfl rfl) rfl hl.1 rfl (Nat.le_of_ble_eq_true rfl) dX12_lot_26 ⟨(Nat.le_of_ble_eq_true rfl), (Nat.le_of_ble_eq_true rfl)⟩ ⟨(Nat.le_of_ble_eq_true rfl), (Nat.le_of_ble_eq_true rfl)⟩ (fun H locs hw => ?_)
      have hP := hw.1
      refine W.eq (g2 := F0 m 29 ls (.int q4.1 :: [])) rfl ?_
      cases hf
      exact r_ci F hQ ⟨rfl, rfl⟩ hw dX12_lot_29
    · have hf := o_t h3 hf
      refine lv_bipush (v := (-103)) hx hb dX12_lot_19 (by decide) ?_
      refine lv_goto (tgt := 29) hx hb dX12_lot_21 (by decide) ?_
      cases hf
      exact r_ci F hQ ⟨rfl, rfl⟩ hw dX12_lot_29
  · have hf := o_t h2 hf
    refine lv_bipush (v := (-102)) hx hb dX12_lot_9 (by decide) ?_
    cases hf
    exact r_ci F hQ ⟨rfl, rfl⟩ hw dX12_lot_11
def f_X12_gainBy (x1 : Int32) (x2 : Int32) (v_bidders : Int32) (v_choiceOf : Nat → Int32) (v_fall : Int32) (v_kindOf : Nat → Int32) (v_stopsAt : Nat → Int32) (v_sumOf : Nat → Int32) (v_touchedBy : Nat → Int32) (v_windOf : Nat → Int32) (v_wishOf : Nat → Int32) : Option (Int32 × (Nat → Int32) × (Nat → Int32)) := (if x1 < 0 ∨ 5 ≤ Int32.toNatClampNeg x1 then none else (bnd (v_choiceOf (Int32.toNatClampNeg x1)) fun z2 => ((f_X12_layStops v_bidders (upd v_choiceOf (Int32.toNatClampNeg x1) x2) v_kindOf v_stopsAt v_touchedBy v_windOf).bind fun q3 => ((f_X12_gainOf x1 v_bidders v_fall v_kindOf q3 v_sumOf v_wishOf).bind fun q4 => (some (q4, (upd (upd v_choiceOf (Int32.toNatClampNeg x1) x2) (Int32.toNatClampNeg x1) z2), q3))))))
set_option maxRecDepth 100000 in
set_option maxHeartbeats 4000000 in
theorem c_X12_gainBy (l : Launch) (g : GG) (aM : Nat) (rM : Nat → Nat) (x1 : Int32) (x2 : Int32) (v_halls : Int32) (v_bidders : Int32) (v_fall : Int32) (v_heard : Int32) (v_asks : Int32) (v_pageLength : Int32) (v_isWhole : Int32) (v_newMany : Int32) (v_seedNow : Int64) (v_isKept : Int32) (v_keptHall : Int32) (v_keptHeard : Int32) (v_h : Int64) (v_choiceOf : Nat → Int32) (v_kindOf : Nat → Int32) (v_stopsAt : Nat → Int32) (v_sumOf : Nat → Int32) (v_touchedBy : Nat → Int32) (v_windOf : Nat → Int32) (v_wishOf : Nat → Int32) {r0 : Int32} {r1 : Nat → Int32} {r2 : Nat → Int32} (hf : f_X12_gainBy x1 x2 v_bidders v_choiceOf v_fall v_kindOf v_stopsAt v_sumOf v_touchedBy v_windOf v_wishOf = some (r0, r1, r2)) : MD l g yX12_gainBy cX12_gainBy 5 (some .int) 4 90 [.ref aM, .int x1, .int x2] [ob aM 12 (oM rM v_halls v_bidders v_fall v_heard v_asks v_pageLength v_isWhole v_newMany v_seedNow v_isKept v_keptHall v_keptHeard v_h), ia g (rM 7) 5 v_choiceOf, ia g (rM 3) 5 v_kindOf, ia g (rM 17) 5 v_stopsAt, ia g (rM 5) 5 v_sumOf, ia g (rM 8) 5 v_touchedBy, ia g (rM 4) 5 v_windOf, ia g (rM 6) 5 v_wishOf] (some (.int r0)) [ob aM 12 (oM rM v_halls v_bidders v_fall v_heard v_asks v_pageLength v_isWhole v_newMany v_seedNow v_isKept v_keptHall v_keptHeard v_h), ia g (rM 7) 5 r1, ia g (rM 3) 5 v_kindOf, ia g (rM 17) 5 r2, ia g (rM 5) 5 v_sumOf, ia g (rM 8) 5 v_touchedBy, ia g (rM 4) 5 v_windOf, ia g (rM 6) 5 v_wishOf] := by
  refine MC.mk (by decide) (Nat.le_of_ble_eq_true rfl) ?_
  intro p e s m args below meth c ls Q A F hnm hK hw hA hl hQ
  have hP := hw.1
  have hx := F.1
  have hb := F.2.1
  have hml := F.2.2.2.1
  have hown := F.2.2.2.2.1
  have hts := F.2.2.2.2.2.1
  have hl : lv_has ls 5 [(0, .ref aM), (1, .int x1), (2, .int x2)] := hl
  unfold f_X12_gainBy at hf
  refine lv_aload_n hx hb dX12_gainBy_0 rfl (lv_at hl 0 rfl) ?_
  refine w_get (ci := 12) F hK hP fb_X12 0 rfl rfl 7 (by decide) fl_X12_22 (fun _ h => h) rfl dX12_gainBy_1 ?_
  refine lv_iload_n hx hb dX12_gainBy_4 rfl (lv_at hl 1 rfl) ?_
  obtain ⟨h1, hf⟩ := o_chk hf
  refine w_iald F hK hP 1 rfl h1 dX12_gainBy_5 ?_
  refine lv_topi (fun z2 ez2 => ?_)
  have hf := o_bnd ez2 hf
  refine lv_istore_n (lv' := [(3, .int z2), (0, .ref aM), (1, .int x1), (2, .int x2)]) hx hb dX12_gainBy_6 rfl hl (by decide) rfl (fun ls hl => ?_)
  refine lv_aload_n hx hb dX12_gainBy_7 rfl (lv_at hl 1 rfl) ?_
  refine w_get (ci := 12) F hK hP fb_X12 0 rfl rfl 7 (by decide) fl_X12_22 (fun _ h => h) rfl dX12_gainBy_8 ?_
  refine lv_iload_n hx hb dX12_gainBy_11 rfl (lv_at hl 2 rfl) ?_
  refine lv_iload_n hx hb dX12_gainBy_12 rfl (lv_at hl 3 rfl) ?_
  refine w_iast (ws' := [ob aM 12 (oM rM v_halls v_bidders v_fall v_heard v_asks v_pageLength v_isWhole v_newMany v_seedNow v_isKept v_keptHall v_keptHeard v_h), ia g (rM 7) 5 (upd v_choiceOf (Int32.toNatClampNeg x1) x2), ia g (rM 3) 5 v_kindOf, ia g (rM 17) 5 v_stopsAt, ia g (rM 5) 5 v_sumOf, ia g (rM 8) 5 v_touchedBy, ia g (rM 4) 5 v_windOf, ia g (rM 6) 5 v_wishOf]) F hK hw 1 rfl h1 rfl dX12_gainBy_13 (fun H locs hw => ?_)
  have hP := hw.1
  refine lv_aload_n hx hb dX12_gainBy_14 rfl (lv_at hl 1 rfl) ?_
  obtain ⟨q3, hq3, hf⟩ := o_bind hf
  refine k_dV (wr := [ia g (rM 5) 5 v_sumOf, ia g (rM 6) 5 v_wishOf]) (ws' := [ob aM 12 (oM rM v_halls v_bidders v_fall v_heard v_asks v_pageLength v_isWhole v_newMany v_seedNow v_isKept v_keptHall v_keptHeard v_h), ia g (rM 7) 5 (upd v_choiceOf (Int32.toNatClampNeg x1) x2), ia g (rM 3) 5 v_kindOf, ia g (rM 17) 5 q3, ia g (rM 5) 5 v_sumOf, ia g (rM 8) 5 v_touchedBy, ia g (rM 4) 5 v_windOf, ia g (rM 6) 5 v_wishOf]) F (c_X12_layStops l g aM rM v_halls v_bidders v_fall v_heard v_asks v_pageLength v_isWhole v_newMany v_seedNow v_isKept v_keptHall v_keptHeard v_h (upd v_choiceOf (Int32.toNatClampNeg x1) x2) v_kindOf v_stopsAt v_touchedBy v_windOf hq3) qv_X12_layStops ml_X12_123 hw hA hK [0, 1, 2, 3, 5, 6] [4, 7] [2, 3, 4, 5, 0, 6, 7, 1] rfl rfl rfl rfl rfl (by decide) rfl rfl rfl (va_recv hK.1 hP (ci := 12) (q0 := 0) rfl rfl) rfl hl.1 rfl (Nat.le_of_ble_eq_true rfl) dX12_gainBy_15 ⟨(Nat.le_of_ble_eq_true rfl), (Nat.le_of_ble_eq_true rfl)⟩ ⟨(Nat.le_of_ble_eq_true rfl), (Nat.le_of_ble_eq_true rfl)⟩ (fun H locs hw => ?_)
  have hP := hw.1
  refine W.eq (g2 := F0 m 18 ls ([])) rfl ?_
  refine lv_aload_n hx hb dX12_gainBy_18 rfl (lv_at hl 1 rfl) ?_
  refine lv_iload_n hx hb dX12_gainBy_19 rfl (lv_at hl 2 rfl) ?_
  obtain ⟨q4, hq4, hf⟩ := o_bind hf
  refine k_rV F (c_X12_gainOf l g aM rM x1 v_halls v_bidders v_fall v_heard v_asks v_pageLength v_isWhole v_newMany v_seedNow v_isKept v_keptHall v_keptHeard v_h v_kindOf q3 v_sumOf v_wishOf hq4) qv_X12_gainOf ml_X12_126 (hP.sub [0, 2, 3, 4, 7] rfl) hK (va_recv hK.1 hP (ci := 12) (q0 := 0) rfl rfl) rfl hl.1 rfl (Nat.le_of_ble_eq_true rfl) dX12_gainBy_20 ⟨(Nat.le_of_ble_eq_true rfl), (Nat.le_of_ble_eq_true rfl)⟩ ⟨(Nat.le_of_ble_eq_true rfl), (Nat.le_of_ble_eq_true rfl)⟩ ?_
  refine W.eq (g2 := F0 m 23 ls (.int q4 :: [])) rfl ?_
  refine lv_istore (lv' := [(4, .int q4), (3, .int z2), (0, .ref aM), (1, .int x1), (2, .int x2)]) hx hb dX12_gainBy_23 hl (by decide) rfl (fun ls hl => ?_)
  refine lv_aload_n hx hb dX12_gainBy_25 rfl (lv_at hl 2 rfl) ?_
  refine w_get (ci := 12) F hK hP fb_X12 0 rfl rfl 7 (by decide) fl_X12_22 (fun _ h => h) rfl dX12_gainBy_26 ?_
  refine lv_iload_n hx hb dX12_gainBy_29 rfl (lv_at hl 3 rfl) ?_
  refine lv_iload_n hx hb dX12_gainBy_30 rfl (lv_at hl 1 rfl) ?_
  refine w_iast (ws' := [ob aM 12 (oM rM v_halls v_bidders v_fall v_heard v_asks v_pageLength v_isWhole v_newMany v_seedNow v_isKept v_keptHall v_keptHeard v_h), ia g (rM 7) 5 (upd (upd v_choiceOf (Int32.toNatClampNeg x1) x2) (Int32.toNatClampNeg x1) z2), ia g (rM 3) 5 v_kindOf, ia g (rM 17) 5 q3, ia g (rM 5) 5 v_sumOf, ia g (rM 8) 5 v_touchedBy, ia g (rM 4) 5 v_windOf, ia g (rM 6) 5 v_wishOf]) F hK hw 1 rfl h1 rfl dX12_gainBy_31 (fun H locs hw => ?_)
  have hP := hw.1
  refine lv_iload hx hb dX12_gainBy_32 (lv_at hl 0 rfl) ?_
  cases hf
  exact r_ci F hQ ⟨rfl, rfl⟩ hw dX12_gainBy_34
def f_X12_bestNow_13 (fuel : Nat) (x1 : Int32) (x2 : Int32) (v_bidders : Int32) (v_fall : Int32) (v_kindOf : Nat → Int32) (v_sumOf : Nat → Int32) (v_touchedBy : Nat → Int32) (v_windOf : Nat → Int32) (v_wishOf : Nat → Int32) (y5 : Int32) (y4 : Int32) (y3 : Int32) (w_v_choiceOf : Nat → Int32) (w_v_stopsAt : Nat → Int32) : Option (Int32 × Int32 × Int32 × (Nat → Int32) × (Nat → Int32)) := match fuel with
  | 0 => none
  | k + 1 => (if 30 < y5 then (some (y5, y4, y3, w_v_choiceOf, w_v_stopsAt)) else ((f_X12_gainBy x1 y5 v_bidders w_v_choiceOf v_fall v_kindOf w_v_stopsAt v_sumOf v_touchedBy v_windOf v_wishOf).bind fun q3 => (if q3.1 ≤ y4 then (bnd (y5 + 1 : Int32) fun z6 => (f_X12_bestNow_13 k x1 x2 v_bidders v_fall v_kindOf v_sumOf v_touchedBy v_windOf v_wishOf z6 y4 y3 q3.2.1 q3.2.2)) else (bnd (y5 + 1 : Int32) fun z8 => (f_X12_bestNow_13 k x1 x2 v_bidders v_fall v_kindOf v_sumOf v_touchedBy v_windOf v_wishOf z8 q3.1 y5 q3.2.1 q3.2.2)))))
def f_X12_bestNow (x1 : Int32) (x2 : Int32) (v_bidders : Int32) (v_choiceOf : Nat → Int32) (v_fall : Int32) (v_kindOf : Nat → Int32) (v_stopsAt : Nat → Int32) (v_sumOf : Nat → Int32) (v_touchedBy : Nat → Int32) (v_windOf : Nat → Int32) (v_wishOf : Nat → Int32) : Option (Int32 × (Nat → Int32) × (Nat → Int32)) := ((f_X12_gainBy x1 1 v_bidders v_choiceOf v_fall v_kindOf v_stopsAt v_sumOf v_touchedBy v_windOf v_wishOf).bind fun q1 => ((f_X12_bestNow_13 4096 x1 x2 v_bidders v_fall v_kindOf v_sumOf v_touchedBy v_windOf v_wishOf 2 q1.1 1 q1.2.1 q1.2.2).bind fun q9 => (if x2 = 0 then (some (q9.2.2.1, q9.2.2.2.1, q9.2.2.2.2)) else (some ((q9.2.1 + 100), q9.2.2.2.1, q9.2.2.2.2)))))
set_option maxRecDepth 100000 in
set_option maxHeartbeats 4000000 in
theorem c_X12_bestNow (l : Launch) (g : GG) (aM : Nat) (rM : Nat → Nat) (x1 : Int32) (x2 : Int32) (v_halls : Int32) (v_bidders : Int32) (v_fall : Int32) (v_heard : Int32) (v_asks : Int32) (v_pageLength : Int32) (v_isWhole : Int32) (v_newMany : Int32) (v_seedNow : Int64) (v_isKept : Int32) (v_keptHall : Int32) (v_keptHeard : Int32) (v_h : Int64) (v_choiceOf : Nat → Int32) (v_kindOf : Nat → Int32) (v_stopsAt : Nat → Int32) (v_sumOf : Nat → Int32) (v_touchedBy : Nat → Int32) (v_windOf : Nat → Int32) (v_wishOf : Nat → Int32) {r0 : Int32} {r1 : Nat → Int32} {r2 : Nat → Int32} (hf : f_X12_bestNow x1 x2 v_bidders v_choiceOf v_fall v_kindOf v_stopsAt v_sumOf v_touchedBy v_windOf v_wishOf = some (r0, r1, r2)) : MD l g yX12_bestNow cX12_bestNow 7 (some .int) 5 114 [.ref aM, .int x1, .int x2] [ob aM 12 (oM rM v_halls v_bidders v_fall v_heard v_asks v_pageLength v_isWhole v_newMany v_seedNow v_isKept v_keptHall v_keptHeard v_h), ia g (rM 7) 5 v_choiceOf, ia g (rM 3) 5 v_kindOf, ia g (rM 17) 5 v_stopsAt, ia g (rM 5) 5 v_sumOf, ia g (rM 8) 5 v_touchedBy, ia g (rM 4) 5 v_windOf, ia g (rM 6) 5 v_wishOf] (some (.int r0)) [ob aM 12 (oM rM v_halls v_bidders v_fall v_heard v_asks v_pageLength v_isWhole v_newMany v_seedNow v_isKept v_keptHall v_keptHeard v_h), ia g (rM 7) 5 r1, ia g (rM 3) 5 v_kindOf, ia g (rM 17) 5 r2, ia g (rM 5) 5 v_sumOf, ia g (rM 8) 5 v_touchedBy, ia g (rM 4) 5 v_windOf, ia g (rM 6) 5 v_wishOf] := by
  refine MC.mk (by decide) (Nat.le_of_ble_eq_true rfl) ?_
  intro p e s m args below meth c ls Q A F hnm hK hw hA hl hQ
  have hP := hw.1
  have hx := F.1
  have hb := F.2.1
  have hml := F.2.2.2.1
  have hown := F.2.2.2.2.1
  have hts := F.2.2.2.2.2.1
  have hl : lv_has ls 7 [(0, .ref aM), (1, .int x1), (2, .int x2)] := hl
  have L13 : ∀ (k : Nat) (y5 : Int32) (y4 : Int32) (y3 : Int32) (w_v_choiceOf : Nat → Int32) (w_v_stopsAt : Nat → Int32) (q : Int32 × Int32 × Int32 × (Nat → Int32) × (Nat → Int32)), f_X12_bestNow_13 k x1 x2 v_bidders v_fall v_kindOf v_sumOf v_touchedBy v_windOf v_wishOf y5 y4 y3 w_v_choiceOf w_v_stopsAt = some q → ∀ (H : Heap) (locs : List Loc) (ls : Array Slot), WD g A s.heap [ob aM 12 (oM rM v_halls v_bidders v_fall v_heard v_asks v_pageLength v_isWhole v_newMany v_seedNow v_isKept v_keptHall v_keptHeard v_h), ia g (rM 7) 5 w_v_choiceOf, ia g (rM 3) 5 v_kindOf, ia g (rM 17) 5 w_v_stopsAt, ia g (rM 5) 5 v_sumOf, ia g (rM 8) 5 v_touchedBy, ia g (rM 4) 5 v_windOf, ia g (rM 6) 5 v_wishOf] H locs → lv_has ls 7 [(5, .int y5), (4, .int y4), (3, .int y3), (0, .ref aM), (1, .int x1), (2, .int x2)] → (∀ (H : Heap) (locs : List Loc) (ls : Array Slot), WD g A s.heap [ob aM 12 (oM rM v_halls v_bidders v_fall v_heard v_asks v_pageLength v_isWhole v_newMany v_seedNow v_isKept v_keptHall v_keptHeard v_h), ia g (rM 7) 5 q.2.2.2.1, ia g (rM 3) 5 v_kindOf, ia g (rM 17) 5 q.2.2.2.2, ia g (rM 5) 5 v_sumOf, ia g (rM 8) 5 v_touchedBy, ia g (rM 4) 5 v_windOf, ia g (rM 6) 5 v_wishOf] H locs → lv_has ls 7 [(5, .int q.1), (4, .int q.2.1), (3, .int q.2.2.1), (0, .ref aM), (1, .int x1), (2, .int x2)] → W p l e (rmc 5 0 0 114) s m args below meth c H locs 0 0 Q (F0 m 65 ls [])) → W p l e (rmc 5 0 0 114) s m args below meth c H locs 0 0 Q (F0 m 13 ls []) := by
    intro k
    induction k with
    | zero => intro y5 y4 y3 w_v_choiceOf w_v_stopsAt q hf; rw [f_X12_bestNow_13] at hf; cases hf
    | succ k ih =>
      intro y5 y4 y3 w_v_choiceOf w_v_stopsAt q hf H locs ls hw hl kx
      rw [f_X12_bestNow_13] at hf
      have hP := hw.1
      refine lv_iload hx hb dX12_bestNow_13 (lv_at hl 0 rfl) ?_
      refine lv_bipush (v := 30) hx hb dX12_bestNow_15 (by decide) ?_
      refine lv_icmp_gt (tgt := 65) hx hb dX12_bestNow_17 (by decide) (fun h2 => ?_) (fun h2 => ?_)
      · have hf := o_t h2 hf
        cases hf
        exact kx _ _ ls hw (lv_sub hl [0, 1, 2, 3, 4, 5] rfl)
      · have hf := o_f h2 hf
        refine lv_aload_n hx hb dX12_bestNow_20 rfl (lv_at hl 3 rfl) ?_
        refine lv_iload_n hx hb dX12_bestNow_21 rfl (lv_at hl 4 rfl) ?_
        refine lv_iload hx hb dX12_bestNow_22 (lv_at hl 0 rfl) ?_
        obtain ⟨q3, hq3, hf⟩ := o_bind hf
        refine k_dV (wr := []) (ws' := [ob aM 12 (oM rM v_halls v_bidders v_fall v_heard v_asks v_pageLength v_isWhole v_newMany v_seedNow v_isKept v_keptHall v_keptHeard v_h), ia g (rM 7) 5 q3.2.1, ia g (rM 3) 5 v_kindOf, ia g (rM 17) 5 q3.2.2, ia g (rM 5) 5 v_sumOf, ia g (rM 8) 5 v_touchedBy, ia g (rM 4) 5 v_windOf, ia g (rM 6) 5 v_wishOf]) F (c_X12_gainBy l g aM rM x1 y5 v_halls v_bidders v_fall v_heard v_asks v_pageLength v_isWhole v_newMany v_seedNow v_isKept v_keptHall v_keptHeard v_h w_v_choiceOf v_kindOf w_v_stopsAt v_sumOf v_touchedBy v_windOf v_wishOf hq3) qv_X12_gainBy ml_X12_143 hw hA hK [0, 1, 2, 3, 4, 5, 6, 7] [] [0, 1, 2, 3, 4, 5, 6, 7] rfl rfl rfl rfl rfl (by decide) rfl rfl rfl (va_recv hK.1 hP (ci := 12) (q0 := 0) rfl rfl) rfl hl.1 rfl (Nat.le_of_ble_eq_true rfl) dX12_bestNow_24 ⟨(Nat.le_of_ble_eq_true rfl), (Nat.le_of_ble_eq_true rfl)⟩ ⟨(Nat.le_of_ble_eq_true rfl), (Nat.le_of_ble_eq_true rfl)⟩ (fun H locs hw => ?_)
        have hP := hw.1
        refine W.eq (g2 := F0 m 27 ls (.int q3.1 :: [])) rfl ?_
        refine lv_istore (lv' := [(6, .int q3.1), (5, .int y5), (4, .int y4), (3, .int y3), (0, .ref aM), (1, .int x1), (2, .int x2)]) hx hb dX12_bestNow_27 hl (by decide) rfl (fun ls hl => ?_)
        refine lv_iload hx hb dX12_bestNow_29 (lv_at hl 0 rfl) ?_
        refine lv_iload hx hb dX12_bestNow_31 (lv_at hl 2 rfl) ?_
        refine lv_icmp_le (tgt := 41) hx hb dX12_bestNow_33 (by decide) (fun h4 => ?_) (fun h4 => ?_)
        · have hf := o_t h4 hf
          refine lv_iload_n hx hb dX12_bestNow_41 rfl (lv_at hl 3 rfl) ?_
          refine lv_istore_n (lv' := [(3, .int y3), (6, .int q3.1), (5, .int y5), (4, .int y4), (0, .ref aM), (1, .int x1), (2, .int x2)]) hx hb dX12_bestNow_42 rfl hl (by decide) rfl (fun ls hl => ?_)
          refine lv_iload hx hb dX12_bestNow_43 (lv_at hl 1 rfl) ?_
          refine lv_iload hx hb dX12_bestNow_45 (lv_at hl 3 rfl) ?_
          refine lv_icmp_le (tgt := 55) hx hb dX12_bestNow_47 (by decide) (fun _ => ?_) (fun h => absurd h4 h)
          refine lv_iload hx hb dX12_bestNow_55 (lv_at hl 3 rfl) ?_
          refine lv_istore (lv' := [(4, .int y4), (3, .int y3), (6, .int q3.1), (5, .int y5), (0, .ref aM), (1, .int x1), (2, .int x2)]) hx hb dX12_bestNow_57 hl (by decide) rfl (fun ls hl => ?_)
          obtain ⟨z6, ez6⟩ : ∃ y : Int32, y = y5 + 1 := ⟨_, rfl⟩
          have hf := o_bnd ez6 hf
          refine lv_iinc (v := z6) (lv' := [(5, .int z6), (4, .int y4), (3, .int y3), (6, .int q3.1), (0, .ref aM), (1, .int x1), (2, .int x2)]) hx hb dX12_bestNow_59 hl (k := 3) rfl (by rw [ez6]; rfl) (by decide) rfl (fun ls hl => ?_)
          refine lv_goto (tgt := 13) hx hb dX12_bestNow_62 (by decide) ?_
          exact ih z6 y4 y3 q3.2.1 q3.2.2 _ hf _ _ ls hw (lv_sub hl [0, 1, 2, 4, 5, 6] rfl) kx
        · have hf := o_f h4 hf
          refine lv_iload hx hb dX12_bestNow_36 (lv_at hl 1 rfl) ?_
          refine lv_goto (tgt := 42) hx hb dX12_bestNow_38 (by decide) ?_
          refine lv_istore_n (lv' := [(3, .int y5), (6, .int q3.1), (5, .int y5), (4, .int y4), (0, .ref aM), (1, .int x1), (2, .int x2)]) hx hb dX12_bestNow_42 rfl hl (by decide) rfl (fun ls hl => ?_)
          refine lv_iload hx hb dX12_bestNow_43 (lv_at hl 1 rfl) ?_
          refine lv_iload hx hb dX12_bestNow_45 (lv_at hl 3 rfl) ?_
          refine lv_icmp_le (tgt := 55) hx hb dX12_bestNow_47 (by decide) (fun h => absurd h h4) (fun _ => ?_)
          refine lv_iload hx hb dX12_bestNow_50 (lv_at hl 1 rfl) ?_
          refine lv_goto (tgt := 57) hx hb dX12_bestNow_52 (by decide) ?_
          refine lv_istore (lv' := [(4, .int q3.1), (3, .int y5), (6, .int q3.1), (5, .int y5), (0, .ref aM), (1, .int x1), (2, .int x2)]) hx hb dX12_bestNow_57 hl (by decide) rfl (fun ls hl => ?_)
          obtain ⟨z8, ez8⟩ : ∃ y : Int32, y = y5 + 1 := ⟨_, rfl⟩
          have hf := o_bnd ez8 hf
          refine lv_iinc (v := z8) (lv' := [(5, .int z8), (4, .int q3.1), (3, .int y5), (6, .int q3.1), (0, .ref aM), (1, .int x1), (2, .int x2)]) hx hb dX12_bestNow_59 hl (k := 3) rfl (by rw [ez8]; rfl) (by decide) rfl (fun ls hl => ?_)
          refine lv_goto (tgt := 13) hx hb dX12_bestNow_62 (by decide) ?_
          exact ih z8 q3.1 y5 q3.2.1 q3.2.2 _ hf _ _ ls hw (lv_sub hl [0, 1, 2, 4, 5, 6] rfl) kx
  unfold f_X12_bestNow at hf
  refine lv_iconst (v := 1) hx hb dX12_bestNow_0 (by decide) ?_
  refine lv_istore_n (lv' := [(3, .int 1), (0, .ref aM), (1, .int x1), (2, .int x2)]) hx hb dX12_bestNow_1 rfl hl (by decide) rfl (fun ls hl => ?_)
  refine lv_aload_n hx hb dX12_bestNow_2 rfl (lv_at hl 1 rfl) ?_
  refine lv_iload_n hx hb dX12_bestNow_3 rfl (lv_at hl 2 rfl) ?_
  refine lv_iconst (v := 1) hx hb dX12_bestNow_4 (by decide) ?_
  obtain ⟨q1, hq1, hf⟩ := o_bind hf
  refine k_dV (wr := []) (ws' := [ob aM 12 (oM rM v_halls v_bidders v_fall v_heard v_asks v_pageLength v_isWhole v_newMany v_seedNow v_isKept v_keptHall v_keptHeard v_h), ia g (rM 7) 5 q1.2.1, ia g (rM 3) 5 v_kindOf, ia g (rM 17) 5 q1.2.2, ia g (rM 5) 5 v_sumOf, ia g (rM 8) 5 v_touchedBy, ia g (rM 4) 5 v_windOf, ia g (rM 6) 5 v_wishOf]) F (c_X12_gainBy l g aM rM x1 1 v_halls v_bidders v_fall v_heard v_asks v_pageLength v_isWhole v_newMany v_seedNow v_isKept v_keptHall v_keptHeard v_h v_choiceOf v_kindOf v_stopsAt v_sumOf v_touchedBy v_windOf v_wishOf hq1) qv_X12_gainBy ml_X12_143 hw hA hK [0, 1, 2, 3, 4, 5, 6, 7] [] [0, 1, 2, 3, 4, 5, 6, 7] rfl rfl rfl rfl rfl (by decide) rfl rfl rfl (va_recv hK.1 hP (ci := 12) (q0 := 0) rfl rfl) rfl hl.1 rfl (Nat.le_of_ble_eq_true rfl) dX12_bestNow_5 ⟨(Nat.le_of_ble_eq_true rfl), (Nat.le_of_ble_eq_true rfl)⟩ ⟨(Nat.le_of_ble_eq_true rfl), (Nat.le_of_ble_eq_true rfl)⟩ (fun H locs hw => ?_)
  have hP := hw.1
  refine W.eq (g2 := F0 m 8 ls (.int q1.1 :: [])) rfl ?_
  refine lv_istore (lv' := [(4, .int q1.1), (3, .int 1), (0, .ref aM), (1, .int x1), (2, .int x2)]) hx hb dX12_bestNow_8 hl (by decide) rfl (fun ls hl => ?_)
  refine lv_iconst (v := 2) hx hb dX12_bestNow_10 (by decide) ?_
  refine lv_istore (lv' := [(5, .int 2), (4, .int q1.1), (3, .int 1), (0, .ref aM), (1, .int x1), (2, .int x2)]) hx hb dX12_bestNow_11 hl (by decide) rfl (fun ls hl => ?_)
  obtain ⟨q9, hq9, hf⟩ := o_bind hf
  refine L13 _ 2 q1.1 1 q1.2.1 q1.2.2 _ hq9 _ _ ls hw (lv_sub hl [0, 1, 2, 3, 4, 5] rfl) (fun H locs ls hw hl => ?_)
  have hP := hw.1
  refine lv_iload_n hx hb dX12_bestNow_65 rfl (lv_at hl 5 rfl) ?_
  refine lv_if_ne (tgt := 73) hx hb dX12_bestNow_66 (by decide) (fun h10 => ?_) (fun h10 => ?_)
  · have hf := o_f h10 hf
    refine lv_iload hx hb dX12_bestNow_73 (lv_at hl 1 rfl) ?_
    refine lv_bipush (v := 100) hx hb dX12_bestNow_75 (by decide) ?_
    refine lv_iadd hx hb dX12_bestNow_77 ?_
    cases hf
    exact r_ci F hQ ⟨rfl, rfl⟩ hw dX12_bestNow_78
  · have hf := o_t h10 hf
    refine lv_iload_n hx hb dX12_bestNow_69 rfl (lv_at hl 2 rfl) ?_
    refine lv_goto (tgt := 78) hx hb dX12_bestNow_70 (by decide) ?_
    cases hf
    exact r_ci F hQ ⟨rfl, rfl⟩ hw dX12_bestNow_78
def f_X12_best (x1 : Int32) (x2 : Int32) (v_bidders : Int32) (v_choiceOf : Nat → Int32) (v_fall : Int32) (v_kindOf : Nat → Int32) (v_stopsAt : Nat → Int32) (v_sumOf : Nat → Int32) (v_touchedBy : Nat → Int32) (v_windOf : Nat → Int32) (v_wishOf : Nat → Int32) : Option (Int32 × (Nat → Int32) × (Nat → Int32)) := ((f_X12_isBidder x1 v_bidders).bind fun q1 => (if q1 = 0 then (some ((-101), v_choiceOf, v_stopsAt)) else ((f_X12_within x2 0 1).bind fun q3 => (if q3 = 0 then (some ((-102), v_choiceOf, v_stopsAt)) else ((f_X12_bestNow x1 x2 v_bidders v_choiceOf v_fall v_kindOf v_stopsAt v_sumOf v_touchedBy v_windOf v_wishOf).bind fun q5 => (some (q5.1, q5.2.1, q5.2.2)))))))
set_option maxRecDepth 100000 in
set_option maxHeartbeats 4000000 in
theorem c_X12_best (l : Launch) (g : GG) (aM : Nat) (rM : Nat → Nat) (x1 : Int32) (x2 : Int32) (v_halls : Int32) (v_bidders : Int32) (v_fall : Int32) (v_heard : Int32) (v_asks : Int32) (v_pageLength : Int32) (v_isWhole : Int32) (v_newMany : Int32) (v_seedNow : Int64) (v_isKept : Int32) (v_keptHall : Int32) (v_keptHeard : Int32) (v_h : Int64) (v_choiceOf : Nat → Int32) (v_kindOf : Nat → Int32) (v_stopsAt : Nat → Int32) (v_sumOf : Nat → Int32) (v_touchedBy : Nat → Int32) (v_windOf : Nat → Int32) (v_wishOf : Nat → Int32) {r0 : Int32} {r1 : Nat → Int32} {r2 : Nat → Int32} (hf : f_X12_best x1 x2 v_bidders v_choiceOf v_fall v_kindOf v_stopsAt v_sumOf v_touchedBy v_windOf v_wishOf = some (r0, r1, r2)) : MD l g yX12_best cX12_best 3 (some .int) 6 140 [.ref aM, .int x1, .int x2] [ob aM 12 (oM rM v_halls v_bidders v_fall v_heard v_asks v_pageLength v_isWhole v_newMany v_seedNow v_isKept v_keptHall v_keptHeard v_h), ia g (rM 7) 5 v_choiceOf, ia g (rM 3) 5 v_kindOf, ia g (rM 17) 5 v_stopsAt, ia g (rM 5) 5 v_sumOf, ia g (rM 8) 5 v_touchedBy, ia g (rM 4) 5 v_windOf, ia g (rM 6) 5 v_wishOf] (some (.int r0)) [ob aM 12 (oM rM v_halls v_bidders v_fall v_heard v_asks v_pageLength v_isWhole v_newMany v_seedNow v_isKept v_keptHall v_keptHeard v_h), ia g (rM 7) 5 r1, ia g (rM 3) 5 v_kindOf, ia g (rM 17) 5 r2, ia g (rM 5) 5 v_sumOf, ia g (rM 8) 5 v_touchedBy, ia g (rM 4) 5 v_windOf, ia g (rM 6) 5 v_wishOf] := by
  refine MC.mk (by decide) (Nat.le_of_ble_eq_true rfl) ?_
  intro p e s m args below meth c ls Q A F hnm hK hw hA hl hQ
  have hP := hw.1
  have hx := F.1
  have hb := F.2.1
  have hml := F.2.2.2.1
  have hown := F.2.2.2.2.1
  have hts := F.2.2.2.2.2.1
  have hl : lv_has ls 3 [(0, .ref aM), (1, .int x1), (2, .int x2)] := hl
  unfold f_X12_best at hf
  refine lv_aload_n hx hb dX12_best_0 rfl (lv_at hl 0 rfl) ?_
  refine lv_iload_n hx hb dX12_best_1 rfl (lv_at hl 1 rfl) ?_
  obtain ⟨q1, hq1, hf⟩ := o_bind hf
  refine k_rV F (c_X12_isBidder l g aM rM x1 v_halls v_bidders v_fall v_heard v_asks v_pageLength v_isWhole v_newMany v_seedNow v_isKept v_keptHall v_keptHeard v_h hq1) qv_X12_isBidder ml_X12_129 (hP.sub [0] rfl) hK (va_recv hK.1 hP (ci := 12) (q0 := 0) rfl rfl) rfl hl.1 rfl (Nat.le_of_ble_eq_true rfl) dX12_best_2 ⟨(Nat.le_of_ble_eq_true rfl), (Nat.le_of_ble_eq_true rfl)⟩ ⟨(Nat.le_of_ble_eq_true rfl), (Nat.le_of_ble_eq_true rfl)⟩ ?_
  refine W.eq (g2 := F0 m 5 ls (.int q1 :: [])) rfl ?_
  refine lv_if_ne (tgt := 11) hx hb dX12_best_5 (by decide) (fun h2 => ?_) (fun h2 => ?_)
  · have hf := o_f h2 hf
    refine lv_iload_n hx hb dX12_best_11 rfl (lv_at hl 2 rfl) ?_
    refine lv_iconst (v := 0) hx hb dX12_best_12 (by decide) ?_
    refine lv_iconst (v := 1) hx hb dX12_best_13 (by decide) ?_
    obtain ⟨q3, hq3, hf⟩ := o_bind hf
    refine k_rS F (c_X12_within l g x2 0 1 hq3) qs_X12_within ml_X12_59 (hP.sub [] rfl) hK rfl hl.1 rfl (Nat.le_of_ble_eq_true rfl) dX12_best_14 ⟨(Nat.le_of_ble_eq_true rfl), (Nat.le_of_ble_eq_true rfl)⟩ ⟨(Nat.le_of_ble_eq_true rfl), (Nat.le_of_ble_eq_true rfl)⟩ ?_
    refine W.eq (g2 := F0 m 17 ls (.int q3 :: [])) rfl ?_
    refine lv_if_eq (tgt := 29) hx hb dX12_best_17 (by decide) (fun h4 => ?_) (fun h4 => ?_)
    · have hf := o_t h4 hf
      refine lv_bipush (v := (-102)) hx hb dX12_best_29 (by decide) ?_
      cases hf
      exact r_ci F hQ ⟨rfl, rfl⟩ hw dX12_best_31
    · have hf := o_f h4 hf
      refine lv_aload_n hx hb dX12_best_20 rfl (lv_at hl 0 rfl) ?_
      refine lv_iload_n hx hb dX12_best_21 rfl (lv_at hl 1 rfl) ?_
      refine lv_iload_n hx hb dX12_best_22 rfl (lv_at hl 2 rfl) ?_
      obtain ⟨q5, hq5, hf⟩ := o_bind hf
      refine k_dV (wr := []) (ws' := [ob aM 12 (oM rM v_halls v_bidders v_fall v_heard v_asks v_pageLength v_isWhole v_newMany v_seedNow v_isKept v_keptHall v_keptHeard v_h), ia g (rM 7) 5 q5.2.1, ia g (rM 3) 5 v_kindOf, ia g (rM 17) 5 q5.2.2, ia g (rM 5) 5 v_sumOf, ia g (rM 8) 5 v_touchedBy, ia g (rM 4) 5 v_windOf, ia g (rM 6) 5 v_wishOf]) F (c_X12_bestNow l g aM rM x1 x2 v_halls v_bidders v_fall v_heard v_asks v_pageLength v_isWhole v_newMany v_seedNow v_isKept v_keptHall v_keptHeard v_h v_choiceOf v_kindOf v_stopsAt v_sumOf v_touchedBy v_windOf v_wishOf hq5) qv_X12_bestNow ml_X12_146 hw hA hK [0, 1, 2, 3, 4, 5, 6, 7] [] [0, 1, 2, 3, 4, 5, 6, 7] rfl rfl rfl rfl rfl (by decide) rfl rfl rfl (va_recv hK.1 hP (ci := 12) (q0 := 0) rfl rfl) rfl hl.1 rfl (Nat.le_of_ble_eq_true rfl) dX12_best_23 ⟨(Nat.le_of_ble_eq_true rfl), (Nat.le_of_ble_eq_true rfl)⟩ ⟨(Nat.le_of_ble_eq_true rfl), (Nat.le_of_ble_eq_true rfl)⟩ (fun H locs hw => ?_)
      have hP := hw.1
      refine W.eq (g2 := F0 m 26 ls (.int q5.1 :: [])) rfl ?_
      refine lv_goto (tgt := 31) hx hb dX12_best_26 (by decide) ?_
      cases hf
      exact r_ci F hQ ⟨rfl, rfl⟩ hw dX12_best_31
  · have hf := o_t h2 hf
    refine lv_bipush (v := (-101)) hx hb dX12_best_8 (by decide) ?_
    cases hf
    exact r_ci F hQ ⟨rfl, rfl⟩ hw dX12_best_10
def f_X12_save_2 (fuel : Nat) (v_bidders : Int32) (v_choiceOf : Nat → Int32) (y1 : Int32) (w_v_saved : Nat → Int32) : Option (Int32 × (Nat → Int32)) := match fuel with
  | 0 => none
  | k + 1 => (if v_bidders ≤ y1 then (some (y1, w_v_saved)) else (if y1 < 0 ∨ 5 ≤ Int32.toNatClampNeg y1 then none else (bnd (y1 + 1 : Int32) fun z3 => (f_X12_save_2 k v_bidders v_choiceOf z3 (upd w_v_saved (Int32.toNatClampNeg y1) (v_choiceOf (Int32.toNatClampNeg y1)))))))
def f_X12_save (v_bidders : Int32) (v_choiceOf : Nat → Int32) (v_saved : Nat → Int32) : Option ((Nat → Int32)) := ((f_X12_save_2 4096 v_bidders v_choiceOf 0 v_saved).bind fun q4 => (some q4.2))
set_option maxRecDepth 100000 in
set_option maxHeartbeats 4000000 in
theorem c_X12_save (l : Launch) (g : GG) (aM : Nat) (rM : Nat → Nat) (v_halls : Int32) (v_bidders : Int32) (v_fall : Int32) (v_heard : Int32) (v_asks : Int32) (v_pageLength : Int32) (v_isWhole : Int32) (v_newMany : Int32) (v_seedNow : Int64) (v_isKept : Int32) (v_keptHall : Int32) (v_keptHeard : Int32) (v_h : Int64) (v_choiceOf : Nat → Int32) (v_saved : Nat → Int32) {r0 : Nat → Int32} (hf : f_X12_save v_bidders v_choiceOf v_saved = some r0) : MD l g yX12_save cX12_save 2 none 0 0 [.ref aM] [ob aM 12 (oM rM v_halls v_bidders v_fall v_heard v_asks v_pageLength v_isWhole v_newMany v_seedNow v_isKept v_keptHall v_keptHeard v_h), ia g (rM 7) 5 v_choiceOf, ia g (rM 18) 5 v_saved] none [ob aM 12 (oM rM v_halls v_bidders v_fall v_heard v_asks v_pageLength v_isWhole v_newMany v_seedNow v_isKept v_keptHall v_keptHeard v_h), ia g (rM 7) 5 v_choiceOf, ia g (rM 18) 5 r0] := by
  refine MC.mk (by decide) (Nat.le_of_ble_eq_true rfl) ?_
  intro p e s m args below meth c ls Q A F hnm hK hw hA hl hQ
  have hP := hw.1
  have hx := F.1
  have hb := F.2.1
  have hml := F.2.2.2.1
  have hown := F.2.2.2.2.1
  have hts := F.2.2.2.2.2.1
  have hl : lv_has ls 2 [(0, .ref aM)] := hl
  have L2 : ∀ (k : Nat) (y1 : Int32) (w_v_saved : Nat → Int32) (q : Int32 × (Nat → Int32)), f_X12_save_2 k v_bidders v_choiceOf y1 w_v_saved = some q → ∀ (H : Heap) (locs : List Loc) (ls : Array Slot), WD g A s.heap [ob aM 12 (oM rM v_halls v_bidders v_fall v_heard v_asks v_pageLength v_isWhole v_newMany v_seedNow v_isKept v_keptHall v_keptHeard v_h), ia g (rM 7) 5 v_choiceOf, ia g (rM 18) 5 w_v_saved] H locs → lv_has ls 2 [(1, .int y1), (0, .ref aM)] → (∀ (H : Heap) (locs : List Loc) (ls : Array Slot), WD g A s.heap [ob aM 12 (oM rM v_halls v_bidders v_fall v_heard v_asks v_pageLength v_isWhole v_newMany v_seedNow v_isKept v_keptHall v_keptHeard v_h), ia g (rM 7) 5 v_choiceOf, ia g (rM 18) 5 q.2] H locs → lv_has ls 2 [(1, .int q.1), (0, .ref aM)] → W p l e (rmc 0 0 0 0) s m args below meth c H locs 0 0 Q (F0 m 28 ls [])) → W p l e (rmc 0 0 0 0) s m args below meth c H locs 0 0 Q (F0 m 2 ls []) := by
    intro k
    induction k with
    | zero => intro y1 w_v_saved q hf; rw [f_X12_save_2] at hf; cases hf
    | succ k ih =>
      intro y1 w_v_saved q hf H locs ls hw hl kx
      rw [f_X12_save_2] at hf
      have hP := hw.1
      refine lv_iload_n hx hb dX12_save_2 rfl (lv_at hl 0 rfl) ?_
      refine lv_aload_n hx hb dX12_save_3 rfl (lv_at hl 1 rfl) ?_
      refine w_get (ci := 12) F hK hP fb_X12 0 rfl rfl 1 (by decide) fl_X12_89 (fun _ h => h) rfl dX12_save_4 ?_
      refine lv_icmp_ge (tgt := 28) hx hb dX12_save_7 (by decide) (fun h1 => ?_) (fun h1 => ?_)
      · have hf := o_t h1 hf
        cases hf
        exact kx _ _ ls hw (lv_sub hl [0, 1] rfl)
      · have hf := o_f h1 hf
        refine lv_aload_n hx hb dX12_save_10 rfl (lv_at hl 1 rfl) ?_
        refine w_get (ci := 12) F hK hP fb_X12 0 rfl rfl 18 (by decide) fl_X12_41 (fun _ h => h) rfl dX12_save_11 ?_
        refine lv_iload_n hx hb dX12_save_14 rfl (lv_at hl 0 rfl) ?_
        refine lv_aload_n hx hb dX12_save_15 rfl (lv_at hl 1 rfl) ?_
        refine w_get (ci := 12) F hK hP fb_X12 0 rfl rfl 7 (by decide) fl_X12_22 (fun _ h => h) rfl dX12_save_16 ?_
        refine lv_iload_n hx hb dX12_save_19 rfl (lv_at hl 0 rfl) ?_
        obtain ⟨h2, hf⟩ := o_chk hf
        refine w_iald F hK hP 1 rfl h2 dX12_save_20 ?_
        refine w_iast (ws' := [ob aM 12 (oM rM v_halls v_bidders v_fall v_heard v_asks v_pageLength v_isWhole v_newMany v_seedNow v_isKept v_keptHall v_keptHeard v_h), ia g (rM 7) 5 v_choiceOf, ia g (rM 18) 5 (upd w_v_saved (Int32.toNatClampNeg y1) (v_choiceOf (Int32.toNatClampNeg y1)))]) F hK hw 2 rfl h2 rfl dX12_save_21 (fun H locs hw => ?_)
        have hP := hw.1
        obtain ⟨z3, ez3⟩ : ∃ y : Int32, y = y1 + 1 := ⟨_, rfl⟩
        have hf := o_bnd ez3 hf
        refine lv_iinc (v := z3) (lv' := [(1, .int z3), (0, .ref aM)]) hx hb dX12_save_22 hl (k := 0) rfl (by rw [ez3]; rfl) (by decide) rfl (fun ls hl => ?_)
        refine lv_goto (tgt := 2) hx hb dX12_save_25 (by decide) ?_
        exact ih z3 (upd w_v_saved (Int32.toNatClampNeg y1) (v_choiceOf (Int32.toNatClampNeg y1))) _ hf _ _ ls hw (lv_sub hl [0, 1] rfl) kx
  unfold f_X12_save at hf
  refine lv_iconst (v := 0) hx hb dX12_save_0 (by decide) ?_
  refine lv_istore_n (lv' := [(1, .int 0), (0, .ref aM)]) hx hb dX12_save_1 rfl hl (by decide) rfl (fun ls hl => ?_)
  obtain ⟨q4, hq4, hf⟩ := o_bind hf
  refine L2 _ 0 v_saved _ hq4 _ _ ls hw (lv_sub hl [0, 1] rfl) (fun H locs ls hw hl => ?_)
  have hP := hw.1
  cases hf
  exact r_cv F hQ ⟨rfl, rfl⟩ hw dX12_save_28
def f_X12_load_2 (fuel : Nat) (v_bidders : Int32) (v_saved : Nat → Int32) (y1 : Int32) (w_v_choiceOf : Nat → Int32) : Option (Int32 × (Nat → Int32)) := match fuel with
  | 0 => none
  | k + 1 => (if v_bidders ≤ y1 then (some (y1, w_v_choiceOf)) else (if y1 < 0 ∨ 5 ≤ Int32.toNatClampNeg y1 then none else (bnd (y1 + 1 : Int32) fun z3 => (f_X12_load_2 k v_bidders v_saved z3 (upd w_v_choiceOf (Int32.toNatClampNeg y1) (v_saved (Int32.toNatClampNeg y1)))))))
def f_X12_load (v_bidders : Int32) (v_choiceOf : Nat → Int32) (v_saved : Nat → Int32) : Option ((Nat → Int32)) := ((f_X12_load_2 4096 v_bidders v_saved 0 v_choiceOf).bind fun q4 => (some q4.2))
set_option maxRecDepth 100000 in
set_option maxHeartbeats 4000000 in
theorem c_X12_load (l : Launch) (g : GG) (aM : Nat) (rM : Nat → Nat) (v_halls : Int32) (v_bidders : Int32) (v_fall : Int32) (v_heard : Int32) (v_asks : Int32) (v_pageLength : Int32) (v_isWhole : Int32) (v_newMany : Int32) (v_seedNow : Int64) (v_isKept : Int32) (v_keptHall : Int32) (v_keptHeard : Int32) (v_h : Int64) (v_choiceOf : Nat → Int32) (v_saved : Nat → Int32) {r0 : Nat → Int32} (hf : f_X12_load v_bidders v_choiceOf v_saved = some r0) : MD l g yX12_load cX12_load 2 none 0 0 [.ref aM] [ob aM 12 (oM rM v_halls v_bidders v_fall v_heard v_asks v_pageLength v_isWhole v_newMany v_seedNow v_isKept v_keptHall v_keptHeard v_h), ia g (rM 7) 5 v_choiceOf, ia g (rM 18) 5 v_saved] none [ob aM 12 (oM rM v_halls v_bidders v_fall v_heard v_asks v_pageLength v_isWhole v_newMany v_seedNow v_isKept v_keptHall v_keptHeard v_h), ia g (rM 7) 5 r0, ia g (rM 18) 5 v_saved] := by
  refine MC.mk (by decide) (Nat.le_of_ble_eq_true rfl) ?_
  intro p e s m args below meth c ls Q A F hnm hK hw hA hl hQ
  have hP := hw.1
  have hx := F.1
  have hb := F.2.1
  have hml := F.2.2.2.1
  have hown := F.2.2.2.2.1
  have hts := F.2.2.2.2.2.1
  have hl : lv_has ls 2 [(0, .ref aM)] := hl
  have L2 : ∀ (k : Nat) (y1 : Int32) (w_v_choiceOf : Nat → Int32) (q : Int32 × (Nat → Int32)), f_X12_load_2 k v_bidders v_saved y1 w_v_choiceOf = some q → ∀ (H : Heap) (locs : List Loc) (ls : Array Slot), WD g A s.heap [ob aM 12 (oM rM v_halls v_bidders v_fall v_heard v_asks v_pageLength v_isWhole v_newMany v_seedNow v_isKept v_keptHall v_keptHeard v_h), ia g (rM 7) 5 w_v_choiceOf, ia g (rM 18) 5 v_saved] H locs → lv_has ls 2 [(1, .int y1), (0, .ref aM)] → (∀ (H : Heap) (locs : List Loc) (ls : Array Slot), WD g A s.heap [ob aM 12 (oM rM v_halls v_bidders v_fall v_heard v_asks v_pageLength v_isWhole v_newMany v_seedNow v_isKept v_keptHall v_keptHeard v_h), ia g (rM 7) 5 q.2, ia g (rM 18) 5 v_saved] H locs → lv_has ls 2 [(1, .int q.1), (0, .ref aM)] → W p l e (rmc 0 0 0 0) s m args below meth c H locs 0 0 Q (F0 m 28 ls [])) → W p l e (rmc 0 0 0 0) s m args below meth c H locs 0 0 Q (F0 m 2 ls []) := by
    intro k
    induction k with
    | zero => intro y1 w_v_choiceOf q hf; rw [f_X12_load_2] at hf; cases hf
    | succ k ih =>
      intro y1 w_v_choiceOf q hf H locs ls hw hl kx
      rw [f_X12_load_2] at hf
      have hP := hw.1
      refine lv_iload_n hx hb dX12_load_2 rfl (lv_at hl 0 rfl) ?_
      refine lv_aload_n hx hb dX12_load_3 rfl (lv_at hl 1 rfl) ?_
      refine w_get (ci := 12) F hK hP fb_X12 0 rfl rfl 1 (by decide) fl_X12_89 (fun _ h => h) rfl dX12_load_4 ?_
      refine lv_icmp_ge (tgt := 28) hx hb dX12_load_7 (by decide) (fun h1 => ?_) (fun h1 => ?_)
      · have hf := o_t h1 hf
        cases hf
        exact kx _ _ ls hw (lv_sub hl [0, 1] rfl)
      · have hf := o_f h1 hf
        refine lv_aload_n hx hb dX12_load_10 rfl (lv_at hl 1 rfl) ?_
        refine w_get (ci := 12) F hK hP fb_X12 0 rfl rfl 7 (by decide) fl_X12_22 (fun _ h => h) rfl dX12_load_11 ?_
        refine lv_iload_n hx hb dX12_load_14 rfl (lv_at hl 0 rfl) ?_
        refine lv_aload_n hx hb dX12_load_15 rfl (lv_at hl 1 rfl) ?_
        refine w_get (ci := 12) F hK hP fb_X12 0 rfl rfl 18 (by decide) fl_X12_41 (fun _ h => h) rfl dX12_load_16 ?_
        refine lv_iload_n hx hb dX12_load_19 rfl (lv_at hl 0 rfl) ?_
        obtain ⟨h2, hf⟩ := o_chk hf
        refine w_iald F hK hP 2 rfl h2 dX12_load_20 ?_
        refine w_iast (ws' := [ob aM 12 (oM rM v_halls v_bidders v_fall v_heard v_asks v_pageLength v_isWhole v_newMany v_seedNow v_isKept v_keptHall v_keptHeard v_h), ia g (rM 7) 5 (upd w_v_choiceOf (Int32.toNatClampNeg y1) (v_saved (Int32.toNatClampNeg y1))), ia g (rM 18) 5 v_saved]) F hK hw 1 rfl h2 rfl dX12_load_21 (fun H locs hw => ?_)
        have hP := hw.1
        obtain ⟨z3, ez3⟩ : ∃ y : Int32, y = y1 + 1 := ⟨_, rfl⟩
        have hf := o_bnd ez3 hf
        refine lv_iinc (v := z3) (lv' := [(1, .int z3), (0, .ref aM)]) hx hb dX12_load_22 hl (k := 0) rfl (by rw [ez3]; rfl) (by decide) rfl (fun ls hl => ?_)
        refine lv_goto (tgt := 2) hx hb dX12_load_25 (by decide) ?_
        exact ih z3 (upd w_v_choiceOf (Int32.toNatClampNeg y1) (v_saved (Int32.toNatClampNeg y1))) _ hf _ _ ls hw (lv_sub hl [0, 1] rfl) kx
  unfold f_X12_load at hf
  refine lv_iconst (v := 0) hx hb dX12_load_0 (by decide) ?_
  refine lv_istore_n (lv' := [(1, .int 0), (0, .ref aM)]) hx hb dX12_load_1 rfl hl (by decide) rfl (fun ls hl => ?_)
  obtain ⟨q4, hq4, hf⟩ := o_bind hf
  refine L2 _ 0 v_choiceOf _ hq4 _ _ ls hw (lv_sub hl [0, 1] rfl) (fun H locs ls hw hl => ?_)
  have hP := hw.1
  cases hf
  exact r_cv F hQ ⟨rfl, rfl⟩ hw dX12_load_28
def f_X12_chooseBy_10 (fuel : Nat) (x1 : Int32) (x2 : Int32) (v_bidders : Int32) (y4 : Int32) (y3 : Int32) (w_v_choiceOf : Nat → Int32) : Option (Int32 × Int32 × (Nat → Int32)) := match fuel with
  | 0 => none
  | k + 1 => (if y4 < 0 then (some (y4, y3, w_v_choiceOf)) else (if x2 = 0 then none else (if y4 < 0 ∨ 5 ≤ Int32.toNatClampNeg y4 then none else (bnd (y3 / x2) fun z5 => (bnd (y4 + (-1) : Int32) fun z6 => (f_X12_chooseBy_10 k x1 x2 v_bidders z6 z5 (upd w_v_choiceOf (Int32.toNatClampNeg y4) ((y3 - y3 / x2 * x2) + 1))))))))
def f_X12_chooseBy (x1 : Int32) (x2 : Int32) (v_bidders : Int32) (v_choiceOf : Nat → Int32) : Option ((Nat → Int32)) := (bnd (v_bidders - 1) fun z1 => ((f_X12_chooseBy_10 4096 x1 x2 v_bidders z1 x1 v_choiceOf).bind fun q7 => (some q7.2.2)))
set_option maxRecDepth 100000 in
set_option maxHeartbeats 4000000 in
theorem c_X12_chooseBy (l : Launch) (g : GG) (aM : Nat) (rM : Nat → Nat) (x1 : Int32) (x2 : Int32) (v_halls : Int32) (v_bidders : Int32) (v_fall : Int32) (v_heard : Int32) (v_asks : Int32) (v_pageLength : Int32) (v_isWhole : Int32) (v_newMany : Int32) (v_seedNow : Int64) (v_isKept : Int32) (v_keptHall : Int32) (v_keptHeard : Int32) (v_h : Int64) (v_choiceOf : Nat → Int32) {r0 : Nat → Int32} (hf : f_X12_chooseBy x1 x2 v_bidders v_choiceOf = some r0) : MD l g yX12_chooseBy cX12_chooseBy 5 none 0 0 [.ref aM, .int x1, .int x2] [ob aM 12 (oM rM v_halls v_bidders v_fall v_heard v_asks v_pageLength v_isWhole v_newMany v_seedNow v_isKept v_keptHall v_keptHeard v_h), ia g (rM 7) 5 v_choiceOf] none [ob aM 12 (oM rM v_halls v_bidders v_fall v_heard v_asks v_pageLength v_isWhole v_newMany v_seedNow v_isKept v_keptHall v_keptHeard v_h), ia g (rM 7) 5 r0] := by
  refine MC.mk (by decide) (Nat.le_of_ble_eq_true rfl) ?_
  intro p e s m args below meth c ls Q A F hnm hK hw hA hl hQ
  have hP := hw.1
  have hx := F.1
  have hb := F.2.1
  have hml := F.2.2.2.1
  have hown := F.2.2.2.2.1
  have hts := F.2.2.2.2.2.1
  have hl : lv_has ls 5 [(0, .ref aM), (1, .int x1), (2, .int x2)] := hl
  have L10 : ∀ (k : Nat) (y4 : Int32) (y3 : Int32) (w_v_choiceOf : Nat → Int32) (q : Int32 × Int32 × (Nat → Int32)), f_X12_chooseBy_10 k x1 x2 v_bidders y4 y3 w_v_choiceOf = some q → ∀ (H : Heap) (locs : List Loc) (ls : Array Slot), WD g A s.heap [ob aM 12 (oM rM v_halls v_bidders v_fall v_heard v_asks v_pageLength v_isWhole v_newMany v_seedNow v_isKept v_keptHall v_keptHeard v_h), ia g (rM 7) 5 w_v_choiceOf] H locs → lv_has ls 5 [(4, .int y4), (3, .int y3), (0, .ref aM), (2, .int x2)] → (∀ (H : Heap) (locs : List Loc) (ls : Array Slot), WD g A s.heap [ob aM 12 (oM rM v_halls v_bidders v_fall v_heard v_asks v_pageLength v_isWhole v_newMany v_seedNow v_isKept v_keptHall v_keptHeard v_h), ia g (rM 7) 5 q.2.2] H locs → lv_has ls 5 [(4, .int q.1), (3, .int q.2.1), (0, .ref aM), (2, .int x2)] → W p l e (rmc 0 0 0 0) s m args below meth c H locs 0 0 Q (F0 m 37 ls [])) → W p l e (rmc 0 0 0 0) s m args below meth c H locs 0 0 Q (F0 m 10 ls []) := by
    intro k
    induction k with
    | zero => intro y4 y3 w_v_choiceOf q hf; rw [f_X12_chooseBy_10] at hf; cases hf
    | succ k ih =>
      intro y4 y3 w_v_choiceOf q hf H locs ls hw hl kx
      rw [f_X12_chooseBy_10] at hf
      have hP := hw.1
      refine lv_iload hx hb dX12_chooseBy_10 (lv_at hl 0 rfl) ?_
      refine lv_if_lt (tgt := 37) hx hb dX12_chooseBy_12 (by decide) (fun h2 => ?_) (fun h2 => ?_)
      · have hf := o_t h2 hf
        cases hf
        exact kx _ _ ls hw (lv_sub hl [0, 1, 2, 3] rfl)
      · have hf := o_f h2 hf
        refine lv_aload_n hx hb dX12_chooseBy_15 rfl (lv_at hl 2 rfl) ?_
        refine w_get (ci := 12) F hK hP fb_X12 0 rfl rfl 7 (by decide) fl_X12_22 (fun _ h => h) rfl dX12_chooseBy_16 ?_
        refine lv_iload hx hb dX12_chooseBy_19 (lv_at hl 0 rfl) ?_
        refine lv_iload_n hx hb dX12_chooseBy_21 rfl (lv_at hl 1 rfl) ?_
        refine lv_iload_n hx hb dX12_chooseBy_22 rfl (lv_at hl 3 rfl) ?_
        obtain ⟨h3, hf⟩ := o_chk hf
        refine lv_irem hx hb dX12_chooseBy_23 h3 ?_
        refine lv_iconst (v := 1) hx hb dX12_chooseBy_24 (by decide) ?_
        refine lv_iadd hx hb dX12_chooseBy_25 ?_
        obtain ⟨h4, hf⟩ := o_chk hf
        refine w_iast (ws' := [ob aM 12 (oM rM v_halls v_bidders v_fall v_heard v_asks v_pageLength v_isWhole v_newMany v_seedNow v_isKept v_keptHall v_keptHeard v_h), ia g (rM 7) 5 (upd w_v_choiceOf (Int32.toNatClampNeg y4) ((y3 - y3 / x2 * x2) + 1))]) F hK hw 1 rfl h4 rfl dX12_chooseBy_26 (fun H locs hw => ?_)
        have hP := hw.1
        refine lv_iload_n hx hb dX12_chooseBy_27 rfl (lv_at hl 1 rfl) ?_
        refine lv_iload_n hx hb dX12_chooseBy_28 rfl (lv_at hl 3 rfl) ?_
        refine lv_idiv hx hb dX12_chooseBy_29 h3 ?_
        refine lv_topi (fun z5 ez5 => ?_)
        have hf := o_bnd ez5 hf
        refine lv_istore_n (lv' := [(3, .int z5), (4, .int y4), (0, .ref aM), (2, .int x2)]) hx hb dX12_chooseBy_30 rfl hl (by decide) rfl (fun ls hl => ?_)
        obtain ⟨z6, ez6⟩ : ∃ y : Int32, y = y4 + (-1) := ⟨_, rfl⟩
        have hf := o_bnd ez6 hf
        refine lv_iinc (v := z6) (lv' := [(4, .int z6), (3, .int z5), (0, .ref aM), (2, .int x2)]) hx hb dX12_chooseBy_31 hl (k := 1) rfl (by rw [ez6]; rfl) (by decide) rfl (fun ls hl => ?_)
        refine lv_goto (tgt := 10) hx hb dX12_chooseBy_34 (by decide) ?_
        exact ih z6 z5 (upd w_v_choiceOf (Int32.toNatClampNeg y4) ((y3 - y3 / x2 * x2) + 1)) _ hf _ _ ls hw (lv_sub hl [0, 1, 2, 3] rfl) kx
  unfold f_X12_chooseBy at hf
  refine lv_iload_n hx hb dX12_chooseBy_0 rfl (lv_at hl 1 rfl) ?_
  refine lv_istore_n (lv' := [(3, .int x1), (0, .ref aM), (1, .int x1), (2, .int x2)]) hx hb dX12_chooseBy_1 rfl hl (by decide) rfl (fun ls hl => ?_)
  refine lv_aload_n hx hb dX12_chooseBy_2 rfl (lv_at hl 1 rfl) ?_
  refine w_get (ci := 12) F hK hP fb_X12 0 rfl rfl 1 (by decide) fl_X12_89 (fun _ h => h) rfl dX12_chooseBy_3 ?_
  refine lv_iconst (v := 1) hx hb dX12_chooseBy_6 (by decide) ?_
  refine lv_isub hx hb dX12_chooseBy_7 ?_
  refine lv_topi (fun z1 ez1 => ?_)
  have hf := o_bnd ez1 hf
  refine lv_istore (lv' := [(4, .int z1), (3, .int x1), (0, .ref aM), (1, .int x1), (2, .int x2)]) hx hb dX12_chooseBy_8 hl (by decide) rfl (fun ls hl => ?_)
  obtain ⟨q7, hq7, hf⟩ := o_bind hf
  refine L10 _ z1 x1 v_choiceOf _ hq7 _ _ ls hw (lv_sub hl [0, 1, 2, 4] rfl) (fun H locs ls hw hl => ?_)
  have hP := hw.1
  cases hf
  exact r_cv F hQ ⟨rfl, rfl⟩ hw dX12_chooseBy_37
def f_X12_isRest_32 (fuel : Nat) (x1 : Int32) (v_bidders : Int32) (v_fall : Int32) (v_kindOf : Nat → Int32) (v_sumOf : Nat → Int32) (v_touchedBy : Nat → Int32) (v_windOf : Nat → Int32) (v_wishOf : Nat → Int32) (y5 : Int32) (y4 : Int32) (y3 : Int32) (y2 : Int32) (w_v_choiceOf : Nat → Int32) (w_v_stopsAt : Nat → Int32) : Option (Int32 × Int32 × Int32 × Int32 × (Nat → Int32) × (Nat → Int32)) := match fuel with
  | 0 => none
  | k + 1 => (if x1 < y5 then (some (y5, y4, y3, y2, w_v_choiceOf, w_v_stopsAt)) else (if y2 = 0 then (bnd (y5 + 1 : Int32) fun z7 => (f_X12_isRest_32 k x1 v_bidders v_fall v_kindOf v_sumOf v_touchedBy v_windOf v_wishOf z7 y4 y3 0 w_v_choiceOf w_v_stopsAt)) else ((f_X12_gainBy y3 y5 v_bidders w_v_choiceOf v_fall v_kindOf w_v_stopsAt v_sumOf v_touchedBy v_windOf v_wishOf).bind fun q8 => (if y4 < q8.1 then (bnd (y5 + 1 : Int32) fun z10 => (f_X12_isRest_32 k x1 v_bidders v_fall v_kindOf v_sumOf v_touchedBy v_windOf v_wishOf z10 y4 y3 0 q8.2.1 q8.2.2)) else (bnd (y5 + 1 : Int32) fun z11 => (f_X12_isRest_32 k x1 v_bidders v_fall v_kindOf v_sumOf v_touchedBy v_windOf v_wishOf z11 y4 y3 1 q8.2.1 q8.2.2))))))
def f_X12_isRest_4 (fuel : Nat) (x1 : Int32) (v_bidders : Int32) (v_fall : Int32) (v_kindOf : Nat → Int32) (v_sumOf : Nat → Int32) (v_touchedBy : Nat → Int32) (v_windOf : Nat → Int32) (v_wishOf : Nat → Int32) (y3 : Int32) (y2 : Int32) (w_v_choiceOf : Nat → Int32) (w_v_stopsAt : Nat → Int32) : Option (Int32 × Int32 × (Nat → Int32) × (Nat → Int32)) := match fuel with
  | 0 => none
  | k + 1 => (if v_bidders ≤ y3 then (some (y3, y2, w_v_choiceOf, w_v_stopsAt)) else (if y2 = 0 then (some (y3, y2, w_v_choiceOf, w_v_stopsAt)) else (if y3 < 0 ∨ 5 ≤ Int32.toNatClampNeg y3 then none else ((f_X12_gainBy y3 (w_v_choiceOf (Int32.toNatClampNeg y3)) v_bidders w_v_choiceOf v_fall v_kindOf w_v_stopsAt v_sumOf v_touchedBy v_windOf v_wishOf).bind fun q4 => ((f_X12_isRest_32 4096 x1 v_bidders v_fall v_kindOf v_sumOf v_touchedBy v_windOf v_wishOf 1 q4.1 y3 y2 q4.2.1 q4.2.2).bind fun q12 => (bnd (q12.2.2.1 + 1 : Int32) fun z13 => (f_X12_isRest_4 k x1 v_bidders v_fall v_kindOf v_sumOf v_touchedBy v_windOf v_wishOf z13 q12.2.2.2.1 q12.2.2.2.2.1 q12.2.2.2.2.2)))))))
def f_X12_isRest (x1 : Int32) (v_bidders : Int32) (v_choiceOf : Nat → Int32) (v_fall : Int32) (v_kindOf : Nat → Int32) (v_stopsAt : Nat → Int32) (v_sumOf : Nat → Int32) (v_touchedBy : Nat → Int32) (v_windOf : Nat → Int32) (v_wishOf : Nat → Int32) : Option (Int32 × (Nat → Int32) × (Nat → Int32)) := ((f_X12_isRest_4 4096 x1 v_bidders v_fall v_kindOf v_sumOf v_touchedBy v_windOf v_wishOf 0 1 v_choiceOf v_stopsAt).bind fun q14 => (if ¬ (q14.2.1 = 0 ∨ q14.2.1 = 1) then none else (some (q14.2.1, q14.2.2.1, q14.2.2.2))))
set_option maxRecDepth 100000 in
set_option maxHeartbeats 4000000 in
theorem c_X12_isRest (l : Launch) (g : GG) (aM : Nat) (rM : Nat → Nat) (x1 : Int32) (v_halls : Int32) (v_bidders : Int32) (v_fall : Int32) (v_heard : Int32) (v_asks : Int32) (v_pageLength : Int32) (v_isWhole : Int32) (v_newMany : Int32) (v_seedNow : Int64) (v_isKept : Int32) (v_keptHall : Int32) (v_keptHeard : Int32) (v_h : Int64) (v_choiceOf : Nat → Int32) (v_kindOf : Nat → Int32) (v_stopsAt : Nat → Int32) (v_sumOf : Nat → Int32) (v_touchedBy : Nat → Int32) (v_windOf : Nat → Int32) (v_wishOf : Nat → Int32) {r0 : Int32} {r1 : Nat → Int32} {r2 : Nat → Int32} (hf : f_X12_isRest x1 v_bidders v_choiceOf v_fall v_kindOf v_stopsAt v_sumOf v_touchedBy v_windOf v_wishOf = some (r0, r1, r2)) : MD l g yX12_isRest cX12_isRest 6 (some .boolean) 5 114 [.ref aM, .int x1] [ob aM 12 (oM rM v_halls v_bidders v_fall v_heard v_asks v_pageLength v_isWhole v_newMany v_seedNow v_isKept v_keptHall v_keptHeard v_h), ia g (rM 7) 5 v_choiceOf, ia g (rM 3) 5 v_kindOf, ia g (rM 17) 5 v_stopsAt, ia g (rM 5) 5 v_sumOf, ia g (rM 8) 5 v_touchedBy, ia g (rM 4) 5 v_windOf, ia g (rM 6) 5 v_wishOf] (some (.int r0)) [ob aM 12 (oM rM v_halls v_bidders v_fall v_heard v_asks v_pageLength v_isWhole v_newMany v_seedNow v_isKept v_keptHall v_keptHeard v_h), ia g (rM 7) 5 r1, ia g (rM 3) 5 v_kindOf, ia g (rM 17) 5 r2, ia g (rM 5) 5 v_sumOf, ia g (rM 8) 5 v_touchedBy, ia g (rM 4) 5 v_windOf, ia g (rM 6) 5 v_wishOf] := by
  refine MC.mk (by decide) (Nat.le_of_ble_eq_true rfl) ?_
  intro p e s m args below meth c ls Q A F hnm hK hw hA hl hQ
  have hP := hw.1
  have hx := F.1
  have hb := F.2.1
  have hml := F.2.2.2.1
  have hown := F.2.2.2.2.1
  have hts := F.2.2.2.2.2.1
  have hl : lv_has ls 6 [(0, .ref aM), (1, .int x1)] := hl
  have L32 : ∀ (k : Nat) (y5 : Int32) (y4 : Int32) (y3 : Int32) (y2 : Int32) (w_v_choiceOf : Nat → Int32) (w_v_stopsAt : Nat → Int32) (q : Int32 × Int32 × Int32 × Int32 × (Nat → Int32) × (Nat → Int32)), f_X12_isRest_32 k x1 v_bidders v_fall v_kindOf v_sumOf v_touchedBy v_windOf v_wishOf y5 y4 y3 y2 w_v_choiceOf w_v_stopsAt = some q → ∀ (H : Heap) (locs : List Loc) (ls : Array Slot), WD g A s.heap [ob aM 12 (oM rM v_halls v_bidders v_fall v_heard v_asks v_pageLength v_isWhole v_newMany v_seedNow v_isKept v_keptHall v_keptHeard v_h), ia g (rM 7) 5 w_v_choiceOf, ia g (rM 3) 5 v_kindOf, ia g (rM 17) 5 w_v_stopsAt, ia g (rM 5) 5 v_sumOf, ia g (rM 8) 5 v_touchedBy, ia g (rM 4) 5 v_windOf, ia g (rM 6) 5 v_wishOf] H locs → lv_has ls 6 [(5, .int y5), (4, .int y4), (3, .int y3), (2, .int y2), (0, .ref aM), (1, .int x1)] → (∀ (H : Heap) (locs : List Loc) (ls : Array Slot), WD g A s.heap [ob aM 12 (oM rM v_halls v_bidders v_fall v_heard v_asks v_pageLength v_isWhole v_newMany v_seedNow v_isKept v_keptHall v_keptHeard v_h), ia g (rM 7) 5 q.2.2.2.2.1, ia g (rM 3) 5 v_kindOf, ia g (rM 17) 5 q.2.2.2.2.2, ia g (rM 5) 5 v_sumOf, ia g (rM 8) 5 v_touchedBy, ia g (rM 4) 5 v_windOf, ia g (rM 6) 5 v_wishOf] H locs → lv_has ls 6 [(5, .int q.1), (4, .int q.2.1), (3, .int q.2.2.1), (2, .int q.2.2.2.1), (0, .ref aM), (1, .int x1)] → W p l e (rmc 5 0 0 114) s m args below meth c H locs 0 0 Q (F0 m 66 ls [])) → W p l e (rmc 5 0 0 114) s m args below meth c H locs 0 0 Q (F0 m 32 ls []) := by
    intro k
    induction k with
    | zero => intro y5 y4 y3 y2 w_v_choiceOf w_v_stopsAt q hf; rw [f_X12_isRest_32] at hf; cases hf
    | succ k ih =>
      intro y5 y4 y3 y2 w_v_choiceOf w_v_stopsAt q hf H locs ls hw hl kx
      rw [f_X12_isRest_32] at hf
      have hP := hw.1
      refine lv_iload hx hb dX12_isRest_32 (lv_at hl 0 rfl) ?_
      refine lv_iload_n hx hb dX12_isRest_34 rfl (lv_at hl 5 rfl) ?_
      refine lv_icmp_gt (tgt := 66) hx hb dX12_isRest_35 (by decide) (fun h5 => ?_) (fun h5 => ?_)
      · have hf := o_t h5 hf
        cases hf
        exact kx _ _ ls hw (lv_sub hl [0, 1, 2, 3, 4, 5] rfl)
      · have hf := o_f h5 hf
        refine lv_iload_n hx hb dX12_isRest_38 rfl (lv_at hl 3 rfl) ?_
        refine lv_if_eq (tgt := 58) hx hb dX12_isRest_39 (by decide) (fun h6 => ?_) (fun h6 => ?_)
        · have hf := o_t h6 hf
          refine lv_iconst (v := 0) hx hb dX12_isRest_58 (by decide) ?_
          refine lv_istore_n (lv' := [(2, .int 0), (5, .int y5), (4, .int y4), (3, .int y3), (0, .ref aM), (1, .int x1)]) hx hb dX12_isRest_59 rfl hl (by decide) rfl (fun ls hl => ?_)
          obtain ⟨z7, ez7⟩ : ∃ y : Int32, y = y5 + 1 := ⟨_, rfl⟩
          have hf := o_bnd ez7 hf
          refine lv_iinc (v := z7) (lv' := [(5, .int z7), (2, .int 0), (4, .int y4), (3, .int y3), (0, .ref aM), (1, .int x1)]) hx hb dX12_isRest_60 hl (k := 1) rfl (by rw [ez7]; rfl) (by decide) rfl (fun ls hl => ?_)
          refine lv_goto (tgt := 32) hx hb dX12_isRest_63 (by decide) ?_
          exact ih z7 y4 y3 0 w_v_choiceOf w_v_stopsAt _ hf _ _ ls hw (lv_sub hl [0, 2, 3, 1, 4, 5] rfl) kx
        · have hf := o_f h6 hf
          refine lv_aload_n hx hb dX12_isRest_42 rfl (lv_at hl 4 rfl) ?_
          refine lv_iload_n hx hb dX12_isRest_43 rfl (lv_at hl 2 rfl) ?_
          refine lv_iload hx hb dX12_isRest_44 (lv_at hl 0 rfl) ?_
          obtain ⟨q8, hq8, hf⟩ := o_bind hf
          refine k_dV (wr := []) (ws' := [ob aM 12 (oM rM v_halls v_bidders v_fall v_heard v_asks v_pageLength v_isWhole v_newMany v_seedNow v_isKept v_keptHall v_keptHeard v_h), ia g (rM 7) 5 q8.2.1, ia g (rM 3) 5 v_kindOf, ia g (rM 17) 5 q8.2.2, ia g (rM 5) 5 v_sumOf, ia g (rM 8) 5 v_touchedBy, ia g (rM 4) 5 v_windOf, ia g (rM 6) 5 v_wishOf]) F (c_X12_gainBy l g aM rM y3 y5 v_halls v_bidders v_fall v_heard v_asks v_pageLength v_isWhole v_newMany v_seedNow v_isKept v_keptHall v_keptHeard v_h w_v_choiceOf v_kindOf w_v_stopsAt v_sumOf v_touchedBy v_windOf v_wishOf hq8) qv_X12_gainBy ml_X12_143 hw hA hK [0, 1, 2, 3, 4, 5, 6, 7] [] [0, 1, 2, 3, 4, 5, 6, 7] rfl rfl rfl rfl rfl (by decide) rfl rfl rfl (va_recv hK.1 hP (ci := 12) (q0 := 0) rfl rfl) rfl hl.1 rfl (Nat.le_of_ble_eq_true rfl) dX12_isRest_46 ⟨(Nat.le_of_ble_eq_true rfl), (Nat.le_of_ble_eq_true rfl)⟩ ⟨(Nat.le_of_ble_eq_true rfl), (Nat.le_of_ble_eq_true rfl)⟩ (fun H locs hw => ?_)
          have hP := hw.1
          refine W.eq (g2 := F0 m 49 ls (.int q8.1 :: [])) rfl ?_
          refine lv_iload hx hb dX12_isRest_49 (lv_at hl 1 rfl) ?_
          refine lv_icmp_gt (tgt := 58) hx hb dX12_isRest_51 (by decide) (fun h9 => ?_) (fun h9 => ?_)
          · have hf := o_t h9 hf
            refine lv_iconst (v := 0) hx hb dX12_isRest_58 (by decide) ?_
            refine lv_istore_n (lv' := [(2, .int 0), (5, .int y5), (4, .int y4), (3, .int y3), (0, .ref aM), (1, .int x1)]) hx hb dX12_isRest_59 rfl hl (by decide) rfl (fun ls hl => ?_)
            obtain ⟨z10, ez10⟩ : ∃ y : Int32, y = y5 + 1 := ⟨_, rfl⟩
            have hf := o_bnd ez10 hf
            refine lv_iinc (v := z10) (lv' := [(5, .int z10), (2, .int 0), (4, .int y4), (3, .int y3), (0, .ref aM), (1, .int x1)]) hx hb dX12_isRest_60 hl (k := 1) rfl (by rw [ez10]; rfl) (by decide) rfl (fun ls hl => ?_)
            refine lv_goto (tgt := 32) hx hb dX12_isRest_63 (by decide) ?_
            exact ih z10 y4 y3 0 q8.2.1 q8.2.2 _ hf _ _ ls hw (lv_sub hl [0, 2, 3, 1, 4, 5] rfl) kx
          · have hf := o_f h9 hf
            refine lv_iconst (v := 1) hx hb dX12_isRest_54 (by decide) ?_
            refine lv_goto (tgt := 59) hx hb dX12_isRest_55 (by decide) ?_
            refine lv_istore_n (lv' := [(2, .int 1), (5, .int y5), (4, .int y4), (3, .int y3), (0, .ref aM), (1, .int x1)]) hx hb dX12_isRest_59 rfl hl (by decide) rfl (fun ls hl => ?_)
            obtain ⟨z11, ez11⟩ : ∃ y : Int32, y = y5 + 1 := ⟨_, rfl⟩
            have hf := o_bnd ez11 hf
            refine lv_iinc (v := z11) (lv' := [(5, .int z11), (2, .int 1), (4, .int y4), (3, .int y3), (0, .ref aM), (1, .int x1)]) hx hb dX12_isRest_60 hl (k := 1) rfl (by rw [ez11]; rfl) (by decide) rfl (fun ls hl => ?_)
            refine lv_goto (tgt := 32) hx hb dX12_isRest_63 (by decide) ?_
            exact ih z11 y4 y3 1 q8.2.1 q8.2.2 _ hf _ _ ls hw (lv_sub hl [0, 2, 3, 1, 4, 5] rfl) kx
  have L4 : ∀ (k : Nat) (y3 : Int32) (y2 : Int32) (w_v_choiceOf : Nat → Int32) (w_v_stopsAt : Nat → Int32) (q : Int32 × Int32 × (Nat → Int32) × (Nat → Int32)), f_X12_isRest_4 k x1 v_bidders v_fall v_kindOf v_sumOf v_touchedBy v_windOf v_wishOf y3 y2 w_v_choiceOf w_v_stopsAt = some q → ∀ (H : Heap) (locs : List Loc) (ls : Array Slot), WD g A s.heap [ob aM 12 (oM rM v_halls v_bidders v_fall v_heard v_asks v_pageLength v_isWhole v_newMany v_seedNow v_isKept v_keptHall v_keptHeard v_h), ia g (rM 7) 5 w_v_choiceOf, ia g (rM 3) 5 v_kindOf, ia g (rM 17) 5 w_v_stopsAt, ia g (rM 5) 5 v_sumOf, ia g (rM 8) 5 v_touchedBy, ia g (rM 4) 5 v_windOf, ia g (rM 6) 5 v_wishOf] H locs → lv_has ls 6 [(3, .int y3), (2, .int y2), (0, .ref aM), (1, .int x1)] → (∀ (H : Heap) (locs : List Loc) (ls : Array Slot), WD g A s.heap [ob aM 12 (oM rM v_halls v_bidders v_fall v_heard v_asks v_pageLength v_isWhole v_newMany v_seedNow v_isKept v_keptHall v_keptHeard v_h), ia g (rM 7) 5 q.2.2.1, ia g (rM 3) 5 v_kindOf, ia g (rM 17) 5 q.2.2.2, ia g (rM 5) 5 v_sumOf, ia g (rM 8) 5 v_touchedBy, ia g (rM 4) 5 v_windOf, ia g (rM 6) 5 v_wishOf] H locs → lv_has ls 6 [(3, .int q.1), (2, .int q.2.1), (0, .ref aM), (1, .int x1)] → W p l e (rmc 5 0 0 114) s m args below meth c H locs 0 0 Q (F0 m 72 ls [])) → W p l e (rmc 5 0 0 114) s m args below meth c H locs 0 0 Q (F0 m 4 ls []) := by
    intro k
    induction k with
    | zero => intro y3 y2 w_v_choiceOf w_v_stopsAt q hf; rw [f_X12_isRest_4] at hf; cases hf
    | succ k ih =>
      intro y3 y2 w_v_choiceOf w_v_stopsAt q hf H locs ls hw hl kx
      rw [f_X12_isRest_4] at hf
      have hP := hw.1
      refine lv_iload_n hx hb dX12_isRest_4 rfl (lv_at hl 0 rfl) ?_
      refine lv_aload_n hx hb dX12_isRest_5 rfl (lv_at hl 2 rfl) ?_
      refine w_get (ci := 12) F hK hP fb_X12 0 rfl rfl 1 (by decide) fl_X12_89 (fun _ h => h) rfl dX12_isRest_6 ?_
      refine lv_icmp_ge (tgt := 72) hx hb dX12_isRest_9 (by decide) (fun h1 => ?_) (fun h1 => ?_)
      · have hf := o_t h1 hf
        cases hf
        exact kx _ _ ls hw (lv_sub hl [0, 1, 2, 3] rfl)
      · have hf := o_f h1 hf
        refine lv_iload_n hx hb dX12_isRest_12 rfl (lv_at hl 1 rfl) ?_
        refine lv_if_eq (tgt := 72) hx hb dX12_isRest_13 (by decide) (fun h2 => ?_) (fun h2 => ?_)
        · have hf := o_t h2 hf
          cases hf
          exact kx _ _ ls hw (lv_sub hl [0, 1, 2, 3] rfl)
        · have hf := o_f h2 hf
          refine lv_aload_n hx hb dX12_isRest_16 rfl (lv_at hl 2 rfl) ?_
          refine lv_iload_n hx hb dX12_isRest_17 rfl (lv_at hl 0 rfl) ?_
          refine lv_aload_n hx hb dX12_isRest_18 rfl (lv_at hl 2 rfl) ?_
          refine w_get (ci := 12) F hK hP fb_X12 0 rfl rfl 7 (by decide) fl_X12_22 (fun _ h => h) rfl dX12_isRest_19 ?_
          refine lv_iload_n hx hb dX12_isRest_22 rfl (lv_at hl 0 rfl) ?_
          obtain ⟨h3, hf⟩ := o_chk hf
          refine w_iald F hK hP 1 rfl h3 dX12_isRest_23 ?_
          obtain ⟨q4, hq4, hf⟩ := o_bind hf
          refine k_dV (wr := []) (ws' := [ob aM 12 (oM rM v_halls v_bidders v_fall v_heard v_asks v_pageLength v_isWhole v_newMany v_seedNow v_isKept v_keptHall v_keptHeard v_h), ia g (rM 7) 5 q4.2.1, ia g (rM 3) 5 v_kindOf, ia g (rM 17) 5 q4.2.2, ia g (rM 5) 5 v_sumOf, ia g (rM 8) 5 v_touchedBy, ia g (rM 4) 5 v_windOf, ia g (rM 6) 5 v_wishOf]) F (c_X12_gainBy l g aM rM y3 (w_v_choiceOf (Int32.toNatClampNeg y3)) v_halls v_bidders v_fall v_heard v_asks v_pageLength v_isWhole v_newMany v_seedNow v_isKept v_keptHall v_keptHeard v_h w_v_choiceOf v_kindOf w_v_stopsAt v_sumOf v_touchedBy v_windOf v_wishOf hq4) qv_X12_gainBy ml_X12_143 hw hA hK [0, 1, 2, 3, 4, 5, 6, 7] [] [0, 1, 2, 3, 4, 5, 6, 7] rfl rfl rfl rfl rfl (by decide) rfl rfl rfl (va_recv hK.1 hP (ci := 12) (q0 := 0) rfl rfl) rfl hl.1 rfl (Nat.le_of_ble_eq_true rfl) dX12_isRest_24 ⟨(Nat.le_of_ble_eq_true rfl), (Nat.le_of_ble_eq_true rfl)⟩ ⟨(Nat.le_of_ble_eq_true rfl), (Nat.le_of_ble_eq_true rfl)⟩ (fun H locs hw => ?_)
          have hP := hw.1
          refine W.eq (g2 := F0 m 27 ls (.int q4.1 :: [])) rfl ?_
          refine lv_istore (lv' := [(4, .int q4.1), (3, .int y3), (2, .int y2), (0, .ref aM), (1, .int x1)]) hx hb dX12_isRest_27 hl (by decide) rfl (fun ls hl => ?_)
          refine lv_iconst (v := 1) hx hb dX12_isRest_29 (by decide) ?_
          refine lv_istore (lv' := [(5, .int 1), (4, .int q4.1), (3, .int y3), (2, .int y2), (0, .ref aM), (1, .int x1)]) hx hb dX12_isRest_30 hl (by decide) rfl (fun ls hl => ?_)
          obtain ⟨q12, hq12, hf⟩ := o_bind hf
          refine L32 _ 1 q4.1 y3 y2 q4.2.1 q4.2.2 _ hq12 _ _ ls hw (lv_sub hl [0, 1, 2, 3, 4, 5] rfl) (fun H locs ls hw hl => ?_)
          have hP := hw.1
          obtain ⟨z13, ez13⟩ : ∃ y : Int32, y = q12.2.2.1 + 1 := ⟨_, rfl⟩
          have hf := o_bnd ez13 hf
          refine lv_iinc (v := z13) (lv' := [(3, .int z13), (5, .int q12.1), (4, .int q12.2.1), (2, .int q12.2.2.2.1), (0, .ref aM), (1, .int x1)]) hx hb dX12_isRest_66 hl (k := 2) rfl (by rw [ez13]; rfl) (by decide) rfl (fun ls hl => ?_)
          refine lv_goto (tgt := 4) hx hb dX12_isRest_69 (by decide) ?_
          exact ih z13 q12.2.2.2.1 q12.2.2.2.2.1 q12.2.2.2.2.2 _ hf _ _ ls hw (lv_sub hl [0, 3, 4, 5] rfl) kx
  unfold f_X12_isRest at hf
  refine lv_iconst (v := 1) hx hb dX12_isRest_0 (by decide) ?_
  refine lv_istore_n (lv' := [(2, .int 1), (0, .ref aM), (1, .int x1)]) hx hb dX12_isRest_1 rfl hl (by decide) rfl (fun ls hl => ?_)
  refine lv_iconst (v := 0) hx hb dX12_isRest_2 (by decide) ?_
  refine lv_istore_n (lv' := [(3, .int 0), (2, .int 1), (0, .ref aM), (1, .int x1)]) hx hb dX12_isRest_3 rfl hl (by decide) rfl (fun ls hl => ?_)
  obtain ⟨q14, hq14, hf⟩ := o_bind hf
  refine L4 _ 0 1 v_choiceOf v_stopsAt _ hq14 _ _ ls hw (lv_sub hl [0, 1, 2, 3] rfl) (fun H locs ls hw hl => ?_)
  have hP := hw.1
  refine lv_iload_n hx hb dX12_isRest_72 rfl (lv_at hl 1 rfl) ?_
  obtain ⟨h15, hf⟩ := o_chk hf
  cases hf
  exact r_cz F hQ (Decidable.not_not.mp h15) ⟨rfl, rfl⟩ hw dX12_isRest_73
