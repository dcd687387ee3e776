def f_X12_within (x0 : Int32) (x1 : Int32) (x2 : Int32) : Option (Int32) := (if x0 < x1 then (some 0) else (if x2 < x0 then (some 0) else (some 1)))
set_option maxRecDepth 100000 in
set_option maxHeartbeats 4000000 in
theorem c_X12_within (l : Launch) (g : GG) (x0 : Int32) (x1 : Int32) (x2 : Int32) {r0 : Int32} (hf : f_X12_within x0 x1 x2 = some r0) : MR l g yX12_within cX12_within 3 (some .boolean) 0 0 [.int x0, .int x1, .int x2] [] (some (.int r0)) := by
  refine MR.mk (by decide) (Nat.le_of_ble_eq_true rfl) ?_
  intro p e s m args below meth c ls Q F hK hP hl hQ
  have hx := F.1
  have hb := F.2.1
  have hml := F.2.2.2.1
  have hown := F.2.2.2.2.1
  have hts := F.2.2.2.2.2.1
  have hl : lv_has ls 3 [(0, .int x0), (1, .int x1), (2, .int x2)] := hl
  unfold f_X12_within at hf
  refine lv_iload_n hx hb dX12_within_0 rfl (lv_at hl 0 rfl) ?_
  refine lv_iload_n hx hb dX12_within_1 rfl (lv_at hl 1 rfl) ?_
  refine lv_icmp_lt (tgt := 14) hx hb dX12_within_2 (by decide) (fun h1 => ?_) (fun h1 => ?_)
  · have hf := o_t h1 hf
    refine lv_iconst (v := 0) hx hb dX12_within_14 (by decide) ?_
    exact r_rz F hQ (by decide) (Option.some.inj hf) dX12_within_15
  · have hf := o_f h1 hf
    refine lv_iload_n hx hb dX12_within_5 rfl (lv_at hl 0 rfl) ?_
    refine lv_iload_n hx hb dX12_within_6 rfl (lv_at hl 2 rfl) ?_
    refine lv_icmp_gt (tgt := 14) hx hb dX12_within_7 (by decide) (fun h2 => ?_) (fun h2 => ?_)
    · have hf := o_t h2 hf
      refine lv_iconst (v := 0) hx hb dX12_within_14 (by decide) ?_
      exact r_rz F hQ (by decide) (Option.some.inj hf) dX12_within_15
    · have hf := o_f h2 hf
      refine lv_iconst (v := 1) hx hb dX12_within_10 (by decide) ?_
      refine lv_goto (tgt := 15) hx hb dX12_within_11 (by decide) ?_
      exact r_rz F hQ (by decide) (Option.some.inj hf) dX12_within_15
def f_X12_has (x0 : Int32) (x1 : Int32) : Option (Int32) := (if ((x0 >>> (x1 &&& 31)) &&& 1) = 1 then (some 1) else (some 0))
set_option maxRecDepth 100000 in
set_option maxHeartbeats 4000000 in
theorem c_X12_has (l : Launch) (g : GG) (x0 : Int32) (x1 : Int32) {r0 : Int32} (hf : f_X12_has x0 x1 = some r0) : MR l g yX12_has cX12_has 2 (some .boolean) 0 0 [.int x0, .int x1] [] (some (.int r0)) := by
  refine MR.mk (by decide) (Nat.le_of_ble_eq_true rfl) ?_
  intro p e s m args below meth c ls Q F hK hP hl hQ
  have hx := F.1
  have hb := F.2.1
  have hml := F.2.2.2.1
  have hown := F.2.2.2.2.1
  have hts := F.2.2.2.2.2.1
  have hl : lv_has ls 2 [(0, .int x0), (1, .int x1)] := hl
  unfold f_X12_has at hf
  refine lv_iload_n hx hb dX12_has_0 rfl (lv_at hl 0 rfl) ?_
  refine lv_iload_n hx hb dX12_has_1 rfl (lv_at hl 1 rfl) ?_
  refine lv_ishr hx hb dX12_has_2 ?_
  refine lv_iconst (v := 1) hx hb dX12_has_3 (by decide) ?_
  refine lv_iand hx hb dX12_has_4 ?_
  refine lv_iconst (v := 1) hx hb dX12_has_5 (by decide) ?_
  refine lv_icmp_ne (tgt := 13) hx hb dX12_has_6 (by decide) (fun h1 => ?_) (fun h1 => ?_)
  · have hf := o_f h1 hf
    refine lv_iconst (v := 0) hx hb dX12_has_13 (by decide) ?_
    exact r_rz F hQ (by decide) (Option.some.inj hf) dX12_has_14
  · have hf := o_t h1 hf
    refine lv_iconst (v := 1) hx hb dX12_has_9 (by decide) ?_
    refine lv_goto (tgt := 14) hx hb dX12_has_10 (by decide) ?_
    exact r_rz F hQ (by decide) (Option.some.inj hf) dX12_has_14
def f_X12_letter (x1 : Int32) (v_page : Nat → Int32) (v_pageLength : Int32) : Option (Int32 × (Nat → Int32) × Int32) := ((f_X12_within x1 32 126).bind fun q1 => (if q1 = 0 then (some ((-102), v_page, v_pageLength)) else (if v_pageLength = 28 then (some ((-104), v_page, v_pageLength)) else (if v_pageLength < 0 ∨ 28 ≤ Int32.toNatClampNeg v_pageLength then none else (bnd (v_pageLength + 1) fun z5 => (some (z5, (upd v_page (Int32.toNatClampNeg v_pageLength) (vp_nar .byte (Int8.toInt32 (Int32.toInt8 x1)))), z5)))))))
set_option maxRecDepth 100000 in
set_option maxHeartbeats 4000000 in
theorem c_X12_letter (l : Launch) (g : GG) (aM : Nat) (rM : Nat → Nat) (x1 : Int32) (v_halls : Int32) (v_bidders : Int32) (v_fall : Int32) (v_heard : Int32) (v_asks : Int32) (v_pageLength : Int32) (v_isWhole : Int32) (v_newMany : Int32) (v_seedNow : Int64) (v_isKept : Int32) (v_keptHall : Int32) (v_keptHeard : Int32) (v_h : Int64) (v_page : Nat → Int32) {r0 : Int32} {r1 : Nat → Int32} {r2 : Int32} (hf : f_X12_letter x1 v_page v_pageLength = some (r0, r1, r2)) : MD l g yX12_letter cX12_letter 2 (some .int) 1 22 [.ref aM, .int x1] [ob aM 12 (oM rM v_halls v_bidders v_fall v_heard v_asks v_pageLength v_isWhole v_newMany v_seedNow v_isKept v_keptHall v_keptHeard v_h), ba g (rM 14) 28 v_page] (some (.int r0)) [ob aM 12 (oM rM v_halls v_bidders v_fall v_heard v_asks r2 v_isWhole v_newMany v_seedNow v_isKept v_keptHall v_keptHeard v_h), ba g (rM 14) 28 r1] := by
  refine MC.mk (by decide) (Nat.le_of_ble_eq_true rfl) ?_
  intro p e s m args below meth c ls Q A F hnm hK hw hA hl hQ
  have hP := hw.1
  have hx := F.1
  have hb := F.2.1
  have hml := F.2.2.2.1
  have hown := F.2.2.2.2.1
  have hts := F.2.2.2.2.2.1
  have hl : lv_has ls 2 [(0, .ref aM), (1, .int x1)] := hl
  unfold f_X12_letter at hf
  refine lv_iload_n hx hb dX12_letter_0 rfl (lv_at hl 1 rfl) ?_
  refine lv_bipush (v := 32) hx hb dX12_letter_1 (by decide) ?_
  refine lv_bipush (v := 126) hx hb dX12_letter_3 (by decide) ?_
  obtain ⟨q1, hq1, hf⟩ := o_bind hf
  refine k_rS F (c_X12_within l g x1 32 126 hq1) qs_X12_within ml_X12_59 (hP.sub [] rfl) hK rfl hl.1 rfl (Nat.le_of_ble_eq_true rfl) dX12_letter_5 ⟨(Nat.le_of_ble_eq_true rfl), (Nat.le_of_ble_eq_true rfl)⟩ ⟨(Nat.le_of_ble_eq_true rfl), (Nat.le_of_ble_eq_true rfl)⟩ ?_
  refine W.eq (g2 := F0 m 8 ls (.int q1 :: [])) rfl ?_
  refine lv_if_ne (tgt := 14) hx hb dX12_letter_8 (by decide) (fun h2 => ?_) (fun h2 => ?_)
  · have hf := o_f h2 hf
    refine lv_aload_n hx hb dX12_letter_14 rfl (lv_at hl 0 rfl) ?_
    refine w_get (ci := 12) F hK hP fb_X12 0 rfl rfl 13 (by decide) fl_X12_63 (fun _ h => h) rfl dX12_letter_15 ?_
    refine lv_bipush (v := 28) hx hb dX12_letter_18 (by decide) ?_
    refine lv_icmp_ne (tgt := 26) hx hb dX12_letter_20 (by decide) (fun h3 => ?_) (fun h3 => ?_)
    · have hf := o_f h3 hf
      refine lv_aload_n hx hb dX12_letter_26 rfl (lv_at hl 0 rfl) ?_
      refine w_get (ci := 12) F hK hP fb_X12 0 rfl rfl 14 (by decide) fl_X12_34 (fun _ h => h) rfl dX12_letter_27 ?_
      refine lv_aload_n hx hb dX12_letter_30 rfl (lv_at hl 0 rfl) ?_
      refine w_get (ci := 12) F hK hP fb_X12 0 rfl rfl 13 (by decide) fl_X12_63 (fun _ h => h) rfl dX12_letter_31 ?_
      refine lv_iload_n hx hb dX12_letter_34 rfl (lv_at hl 1 rfl) ?_
      refine lv_i2b hx hb dX12_letter_35 rfl ?_
      obtain ⟨h4, hf⟩ := o_chk hf
      refine w_bast (ws' := [ob aM 12 (oM rM v_halls v_bidders v_fall v_heard v_asks v_pageLength v_isWhole v_newMany v_seedNow v_isKept v_keptHall v_keptHeard v_h), ba g (rM 14) 28 (upd v_page (Int32.toNatClampNeg v_pageLength) (vp_nar .byte (Int8.toInt32 (Int32.toInt8 x1))))]) F hK hw 1 rfl h4 rfl dX12_letter_36 (fun H locs hw => ?_)
      have hP := hw.1
      refine lv_aload_n hx hb dX12_letter_37 rfl (lv_at hl 0 rfl) ?_
      refine lv_dup hx hb dX12_letter_38 rfl ?_
      refine w_get (ci := 12) F hK hP fb_X12 0 rfl rfl 13 (by decide) fl_X12_63 (fun _ h => h) rfl dX12_letter_39 ?_
      refine lv_iconst (v := 1) hx hb dX12_letter_42 (by decide) ?_
      refine lv_iadd hx hb dX12_letter_43 ?_
      refine lv_topi (fun z5 ez5 => ?_)
      have hf := o_bnd ez5 hf
      refine w_put (ci := 12) (ws' := [ob aM 12 (oM rM v_halls v_bidders v_fall v_heard v_asks z5 v_isWhole v_newMany v_seedNow v_isKept v_keptHall v_keptHeard v_h), ba g (rM 14) 28 (upd v_page (Int32.toNatClampNeg v_pageLength) (vp_nar .byte (Int8.toInt32 (Int32.toInt8 x1))))]) F hK hw fb_X12 0 rfl rfl 13 (by decide) fl_X12_63 (fun _ h => h) rfl rfl rfl rfl (Nat.le_of_ble_eq_true rfl) rfl dX12_letter_44 (fun H locs hw => ?_)
      have hP := hw.1
      refine lv_aload_n hx hb dX12_letter_47 rfl (lv_at hl 0 rfl) ?_
      refine w_get (ci := 12) F hK hP fb_X12 0 rfl rfl 13 (by decide) fl_X12_63 (fun _ h => h) rfl dX12_letter_48 ?_
      cases hf
      exact r_ci F hQ ⟨rfl, rfl⟩ hw dX12_letter_51
    · have hf := o_t h3 hf
      refine lv_bipush (v := (-104)) hx hb dX12_letter_23 (by decide) ?_
      cases hf
      exact r_ci F hQ ⟨rfl, rfl⟩ hw dX12_letter_25
  · have hf := o_t h2 hf
    refine lv_bipush (v := (-102)) hx hb dX12_letter_11 (by decide) ?_
    cases hf
    exact r_ci F hQ ⟨rfl, rfl⟩ hw dX12_letter_13
def f_X12_blank (v_pageLength : Int32) : Option (Int32 × Int32) := (some (v_pageLength, 0))
set_option maxRecDepth 100000 in
set_option maxHeartbeats 4000000 in
theorem c_X12_blank (l : Launch) (g : GG) (aM : Nat) (rM : Nat → Nat) (v_halls : Int32) (v_bidders : Int32) (v_fall : Int32) (v_heard : Int32) (v_asks : Int32) (v_pageLength : Int32) (v_isWhole : Int32) (v_newMany : Int32) (v_seedNow : Int64) (v_isKept : Int32) (v_keptHall : Int32) (v_keptHeard : Int32) (v_h : Int64) {r0 : Int32} {r1 : Int32} (hf : f_X12_blank v_pageLength = some (r0, r1)) : MD l g yX12_blank cX12_blank 2 (some .int) 0 0 [.ref aM] [ob aM 12 (oM rM v_halls v_bidders v_fall v_heard v_asks v_pageLength v_isWhole v_newMany v_seedNow v_isKept v_keptHall v_keptHeard v_h)] (some (.int r0)) [ob aM 12 (oM rM v_halls v_bidders v_fall v_heard v_asks r1 v_isWhole v_newMany v_seedNow v_isKept v_keptHall v_keptHeard v_h)] := by
  refine MC.mk (by decide) (Nat.le_of_ble_eq_true rfl) ?_
  intro p e s m args below meth c ls Q A F hnm hK hw hA hl hQ
  have hP := hw.1
  have hx := F.1
  have hb := F.2.1
  have hml := F.2.2.2.1
  have hown := F.2.2.2.2.1
  have hts := F.2.2.2.2.2.1
  have hl : lv_has ls 2 [(0, .ref aM)] := hl
  unfold f_X12_blank at hf
  refine lv_aload_n hx hb dX12_blank_0 rfl (lv_at hl 0 rfl) ?_
  refine w_get (ci := 12) F hK hP fb_X12 0 rfl rfl 13 (by decide) fl_X12_63 (fun _ h => h) rfl dX12_blank_1 ?_
  refine lv_istore_n (lv' := [(1, .int v_pageLength), (0, .ref aM)]) hx hb dX12_blank_4 rfl hl (by decide) rfl (fun ls hl => ?_)
  refine lv_aload_n hx hb dX12_blank_5 rfl (lv_at hl 1 rfl) ?_
  refine lv_iconst (v := 0) hx hb dX12_blank_6 (by decide) ?_
  refine w_put (ci := 12) (ws' := [ob aM 12 (oM rM v_halls v_bidders v_fall v_heard v_asks 0 v_isWhole v_newMany v_seedNow v_isKept v_keptHall v_keptHeard v_h)]) F hK hw fb_X12 0 rfl rfl 13 (by decide) fl_X12_63 (fun _ h => h) rfl rfl rfl rfl (Nat.le_of_ble_eq_true rfl) rfl dX12_blank_7 (fun H locs hw => ?_)
  have hP := hw.1
  refine lv_iload_n hx hb dX12_blank_10 rfl (lv_at hl 0 rfl) ?_
  cases hf
  exact r_ci F hQ ⟨rfl, rfl⟩ hw dX12_blank_11
def f_X12_kindBy (x0 : Int32) : Option (Int32) := (if x0 = 98 then (some 0) else (if x0 = 99 then (some 4) else (if x0 = 101 then (some 3) else (if x0 = 115 then (some 2) else (if x0 = 116 then (some 1) else (some (-1)))))))
set_option maxRecDepth 100000 in
set_option maxHeartbeats 4000000 in
theorem c_X12_kindBy (l : Launch) (g : GG) (x0 : Int32) {r0 : Int32} (hf : f_X12_kindBy x0 = some r0) : MR l g yX12_kindBy cX12_kindBy 1 (some .int) 0 0 [.int x0] [] (some (.int r0)) := by
  refine MR.mk (by decide) (Nat.le_of_ble_eq_true rfl) ?_
  intro p e s m args below meth c ls Q F hK hP hl hQ
  have hx := F.1
  have hb := F.2.1
  have hml := F.2.2.2.1
  have hown := F.2.2.2.2.1
  have hts := F.2.2.2.2.2.1
  have hl : lv_has ls 1 [(0, .int x0)] := hl
  unfold f_X12_kindBy at hf
  refine lv_iload_n hx hb dX12_kindBy_0 rfl (lv_at hl 0 rfl) ?_
  by_cases h1 : x0 = 98
  · have hf := o_t h1 hf
    refine lv_lookup (off := 51) (tgt := 52) hx hb dX12_kindBy_1 (by decide) (by rw [h1]; decide) (by decide) ?_
    refine lv_iconst (v := 0) hx hb dX12_kindBy_52 (by decide) ?_
    exact r_ri F hQ (Option.some.inj hf) dX12_kindBy_53
  · have hf := o_f h1 hf
    by_cases h2 : x0 = 99
    · have hf := o_t h2 hf
      refine lv_lookup (off := 59) (tgt := 60) hx hb dX12_kindBy_1 (by decide) (by rw [h2]; decide) (by decide) ?_
      refine lv_iconst (v := 4) hx hb dX12_kindBy_60 (by decide) ?_
      exact r_ri F hQ (Option.some.inj hf) dX12_kindBy_61
    · have hf := o_f h2 hf
      by_cases h3 : x0 = 101
      · have hf := o_t h3 hf
        refine lv_lookup (off := 57) (tgt := 58) hx hb dX12_kindBy_1 (by decide) (by rw [h3]; decide) (by decide) ?_
        refine lv_iconst (v := 3) hx hb dX12_kindBy_58 (by decide) ?_
        exact r_ri F hQ (Option.some.inj hf) dX12_kindBy_59
      · have hf := o_f h3 hf
        by_cases h4 : x0 = 115
        · have hf := o_t h4 hf
          refine lv_lookup (off := 55) (tgt := 56) hx hb dX12_kindBy_1 (by decide) (by rw [h4]; decide) (by decide) ?_
          refine lv_iconst (v := 2) hx hb dX12_kindBy_56 (by decide) ?_
          exact r_ri F hQ (Option.some.inj hf) dX12_kindBy_57
        · have hf := o_f h4 hf
          by_cases h5 : x0 = 116
          · have hf := o_t h5 hf
            refine lv_lookup (off := 53) (tgt := 54) hx hb dX12_kindBy_1 (by decide) (by rw [h5]; decide) (by decide) ?_
            refine lv_iconst (v := 1) hx hb dX12_kindBy_54 (by decide) ?_
            exact r_ri F hQ (Option.some.inj hf) dX12_kindBy_55
          · have hf := o_f h5 hf
            refine lv_lookup (off := 61) (tgt := 62) hx hb dX12_kindBy_1 (by decide) ((lv_osw h1 rfl).trans ((lv_osw h2 rfl).trans ((lv_osw h3 rfl).trans ((lv_osw h4 rfl).trans ((lv_osw h5 rfl).trans (rfl)))))) (by decide) ?_
            refine lv_iconst (v := (-1)) hx hb dX12_kindBy_62 (by decide) ?_
            exact r_ri F hQ (Option.some.inj hf) dX12_kindBy_63
def f_X12_isFigure (x1 : Int32) (x2 : Int32) (v_page : Nat → Int32) (v_pageLength : Int32) : Option (Int32) := (if v_pageLength ≤ x1 then (some 0) else (if x1 < 0 ∨ 28 ≤ Int32.toNatClampNeg x1 then none else ((f_X12_within ((v_page (Int32.toNatClampNeg x1)) - 48) x2 9).bind fun q3 => (if q3 = 0 then (some 0) else (some 1)))))
set_option maxRecDepth 100000 in
set_option maxHeartbeats 4000000 in
theorem c_X12_isFigure (l : Launch) (g : GG) (aM : Nat) (rM : Nat → Nat) (x1 : Int32) (x2 : Int32) (v_halls : Int32) (v_bidders : Int32) (v_fall : Int32) (v_heard : Int32) (v_asks : Int32) (v_pageLength : Int32) (v_isWhole : Int32) (v_newMany : Int32) (v_seedNow : Int64) (v_isKept : Int32) (v_keptHall : Int32) (v_keptHeard : Int32) (v_h : Int64) (v_page : Nat → Int32) {r0 : Int32} (hf : f_X12_isFigure x1 x2 v_page v_pageLength = some r0) : MR l g yX12_isFigure cX12_isFigure 3 (some .boolean) 1 22 [.ref aM, .int x1, .int x2] [ob aM 12 (oM rM v_halls v_bidders v_fall v_heard v_asks v_pageLength v_isWhole v_newMany v_seedNow v_isKept v_keptHall v_keptHeard v_h), ba g (rM 14) 28 v_page] (some (.int r0)) := by
  refine MR.mk (by decide) (Nat.le_of_ble_eq_true rfl) ?_
  intro p e s m args below meth c ls Q F hK hP hl hQ
  have hx := F.1
  have hb := F.2.1
  have hml := F.2.2.2.1
  have hown := F.2.2.2.2.1
  have hts := F.2.2.2.2.2.1
  have hl : lv_has ls 3 [(0, .ref aM), (1, .int x1), (2, .int x2)] := hl
  unfold f_X12_isFigure at hf
  refine lv_iload_n hx hb dX12_isFigure_0 rfl (lv_at hl 1 rfl) ?_
  refine lv_aload_n hx hb dX12_isFigure_1 rfl (lv_at hl 0 rfl) ?_
  refine w_get (ci := 12) F hK hP fb_X12 0 rfl rfl 13 (by decide) fl_X12_63 (fun _ h => h) rfl dX12_isFigure_2 ?_
  refine lv_icmp_ge (tgt := 30) hx hb dX12_isFigure_5 (by decide) (fun h1 => ?_) (fun h1 => ?_)
  · have hf := o_t h1 hf
    refine lv_iconst (v := 0) hx hb dX12_isFigure_30 (by decide) ?_
    exact r_rz F hQ (by decide) (Option.some.inj hf) dX12_isFigure_31
  · have hf := o_f h1 hf
    refine lv_aload_n hx hb dX12_isFigure_8 rfl (lv_at hl 0 rfl) ?_
    refine w_get (ci := 12) F hK hP fb_X12 0 rfl rfl 14 (by decide) fl_X12_34 (fun _ h => h) rfl dX12_isFigure_9 ?_
    refine lv_iload_n hx hb dX12_isFigure_12 rfl (lv_at hl 1 rfl) ?_
    obtain ⟨h2, hf⟩ := o_chk hf
    refine w_bald F hK hP 1 rfl h2 dX12_isFigure_13 ?_
    refine lv_bipush (v := 48) hx hb dX12_isFigure_14 (by decide) ?_
    refine lv_isub hx hb dX12_isFigure_16 ?_
    refine lv_iload_n hx hb dX12_isFigure_17 rfl (lv_at hl 2 rfl) ?_
    refine lv_bipush (v := 9) hx hb dX12_isFigure_18 (by decide) ?_
    obtain ⟨q3, hq3, hf⟩ := o_bind hf
    refine k_rS F (c_X12_within l g ((v_page (Int32.toNatClampNeg x1)) - 48) x2 9 hq3) qs_X12_within ml_X12_59 (hP.sub [] rfl) hK rfl hl.1 rfl (Nat.le_of_ble_eq_true rfl) dX12_isFigure_20 ⟨(Nat.le_of_ble_eq_true rfl), (Nat.le_of_ble_eq_true rfl)⟩ ⟨(Nat.le_of_ble_eq_true rfl), (Nat.le_of_ble_eq_true rfl)⟩ ?_
    refine W.eq (g2 := F0 m 23 ls (.int q3 :: [])) rfl ?_
    refine lv_if_eq (tgt := 30) hx hb dX12_isFigure_23 (by decide) (fun h4 => ?_) (fun h4 => ?_)
    · have hf := o_t h4 hf
      refine lv_iconst (v := 0) hx hb dX12_isFigure_30 (by decide) ?_
      exact r_rz F hQ (by decide) (Option.some.inj hf) dX12_isFigure_31
    · have hf := o_f h4 hf
      refine lv_iconst (v := 1) hx hb dX12_isFigure_26 (by decide) ?_
      refine lv_goto (tgt := 31) hx hb dX12_isFigure_27 (by decide) ?_
      exact r_rz F hQ (by decide) (Option.some.inj hf) dX12_isFigure_31
def f_X12_readOne (x1 : Int32) (v_page : Nat → Int32) (v_pageLength : Int32) : Option (Int32) := (if x1 = v_pageLength then (some x1) else (if x1 < 0 ∨ 28 ≤ Int32.toNatClampNeg x1 then none else ((f_X12_kindBy (v_page (Int32.toNatClampNeg x1))).bind fun q3 => (if q3 = (-1) then (some x1) else ((f_X12_isFigure (x1 + 1) 1 v_page v_pageLength).bind fun q5 => (if q5 = 0 then (some (x1 + 1)) else ((f_X12_isFigure (x1 + 2) 0 v_page v_pageLength).bind fun q7 => (if q7 = 0 then (some (x1 + 2)) else ((f_X12_isFigure (x1 + 3) 0 v_page v_pageLength).bind fun q9 => (if q9 = 0 then (some (x1 + 3)) else (some (x1 + 4))))))))))))
set_option maxRecDepth 100000 in
set_option maxHeartbeats 4000000 in
theorem c_X12_readOne (l : Launch) (g : GG) (aM : Nat) (rM : Nat → Nat) (x1 : Int32) (v_halls : Int32) (v_bidders : Int32) (v_fall : Int32) (v_heard : Int32) (v_asks : Int32) (v_pageLength : Int32) (v_isWhole : Int32) (v_newMany : Int32) (v_seedNow : Int64) (v_isKept : Int32) (v_keptHall : Int32) (v_keptHeard : Int32) (v_h : Int64) (v_page : Nat → Int32) {r0 : Int32} (hf : f_X12_readOne x1 v_page v_pageLength = some r0) : MR l g yX12_readOne cX12_readOne 2 (some .int) 2 44 [.ref aM, .int x1] [ob aM 12 (oM rM v_halls v_bidders v_fall v_heard v_asks v_pageLength v_isWhole v_newMany v_seedNow v_isKept v_keptHall v_keptHeard v_h), ba g (rM 14) 28 v_page] (some (.int r0)) := by
  refine MR.mk (by decide) (Nat.le_of_ble_eq_true rfl) ?_
  intro p e s m args below meth c ls Q F hK hP hl hQ
  have hx := F.1
  have hb := F.2.1
  have hml := F.2.2.2.1
  have hown := F.2.2.2.2.1
  have hts := F.2.2.2.2.2.1
  have hl : lv_has ls 2 [(0, .ref aM), (1, .int x1)] := hl
  unfold f_X12_readOne at hf
  refine lv_iload_n hx hb dX12_readOne_0 rfl (lv_at hl 1 rfl) ?_
  refine lv_aload_n hx hb dX12_readOne_1 rfl (lv_at hl 0 rfl) ?_
  refine w_get (ci := 12) F hK hP fb_X12 0 rfl rfl 13 (by decide) fl_X12_63 (fun _ h => h) rfl dX12_readOne_2 ?_
  refine lv_icmp_eq (tgt := 21) hx hb dX12_readOne_5 (by decide) (fun h1 => ?_) (fun h1 => ?_)
  · have hf := o_t h1 hf
    refine lv_iload_n hx hb dX12_readOne_21 rfl (lv_at hl 1 rfl) ?_
    exact r_ri F hQ (Option.some.inj hf) dX12_readOne_22
  · have hf := o_f h1 hf
    refine lv_aload_n hx hb dX12_readOne_8 rfl (lv_at hl 0 rfl) ?_
    refine w_get (ci := 12) F hK hP fb_X12 0 rfl rfl 14 (by decide) fl_X12_34 (fun _ h => h) rfl dX12_readOne_9 ?_
    refine lv_iload_n hx hb dX12_readOne_12 rfl (lv_at hl 1 rfl) ?_
    obtain ⟨h2, hf⟩ := o_chk hf
    refine w_bald F hK hP 1 rfl h2 dX12_readOne_13 ?_
    obtain ⟨q3, hq3, hf⟩ := o_bind hf
    refine k_rS F (c_X12_kindBy l g (v_page (Int32.toNatClampNeg x1)) hq3) qs_X12_kindBy ml_X12_67 (hP.sub [] rfl) hK rfl hl.1 rfl (Nat.le_of_ble_eq_true rfl) dX12_readOne_14 ⟨(Nat.le_of_ble_eq_true rfl), (Nat.le_of_ble_eq_true rfl)⟩ ⟨(Nat.le_of_ble_eq_true rfl), (Nat.le_of_ble_eq_true rfl)⟩ ?_
    refine W.eq (g2 := F0 m 17 ls (.int q3 :: [])) rfl ?_
    refine lv_iconst (v := (-1)) hx hb dX12_readOne_17 (by decide) ?_
    refine lv_icmp_ne (tgt := 23) hx hb dX12_readOne_18 (by decide) (fun h4 => ?_) (fun h4 => ?_)
    · have hf := o_f h4 hf
      refine lv_aload_n hx hb dX12_readOne_23 rfl (lv_at hl 0 rfl) ?_
      refine lv_iload_n hx hb dX12_readOne_24 rfl (lv_at hl 1 rfl) ?_
      refine lv_iconst (v := 1) hx hb dX12_readOne_25 (by decide) ?_
      refine lv_iadd hx hb dX12_readOne_26 ?_
      refine lv_iconst (v := 1) hx hb dX12_readOne_27 (by decide) ?_
      obtain ⟨q5, hq5, hf⟩ := o_bind hf
      refine k_rV F (c_X12_isFigure l g aM rM (x1 + 1) 1 v_halls v_bidders v_fall v_heard v_asks v_pageLength v_isWhole v_newMany v_seedNow v_isKept v_keptHall v_keptHeard v_h v_page hq5) qv_X12_isFigure ml_X12_71 (hP.sub [0, 1] rfl) hK (va_recv hK.1 hP (ci := 12) (q0 := 0) rfl rfl) rfl hl.1 rfl (Nat.le_of_ble_eq_true rfl) dX12_readOne_28 ⟨(Nat.le_of_ble_eq_true rfl), (Nat.le_of_ble_eq_true rfl)⟩ ⟨(Nat.le_of_ble_eq_true rfl), (Nat.le_of_ble_eq_true rfl)⟩ ?_
      refine W.eq (g2 := F0 m 31 ls (.int q5 :: [])) rfl ?_
      refine lv_if_ne (tgt := 40) hx hb dX12_readOne_31 (by decide) (fun h6 => ?_) (fun h6 => ?_)
      · have hf := o_f h6 hf
        refine lv_aload_n hx hb dX12_readOne_40 rfl (lv_at hl 0 rfl) ?_
        refine lv_iload_n hx hb dX12_readOne_41 rfl (lv_at hl 1 rfl) ?_
        refine lv_iconst (v := 2) hx hb dX12_readOne_42 (by decide) ?_
        refine lv_iadd hx hb dX12_readOne_43 ?_
        refine lv_iconst (v := 0) hx hb dX12_readOne_44 (by decide) ?_
        obtain ⟨q7, hq7, hf⟩ := o_bind hf
        refine k_rV F (c_X12_isFigure l g aM rM (x1 + 2) 0 v_halls v_bidders v_fall v_heard v_asks v_pageLength v_isWhole v_newMany v_seedNow v_isKept v_keptHall v_keptHeard v_h v_page hq7) qv_X12_isFigure ml_X12_71 (hP.sub [0, 1] rfl) hK (va_recv hK.1 hP (ci := 12) (q0 := 0) rfl rfl) rfl hl.1 rfl (Nat.le_of_ble_eq_true rfl) dX12_readOne_45 ⟨(Nat.le_of_ble_eq_true rfl), (Nat.le_of_ble_eq_true rfl)⟩ ⟨(Nat.le_of_ble_eq_true rfl), (Nat.le_of_ble_eq_true rfl)⟩ ?_
        refine W.eq (g2 := F0 m 48 ls (.int q7 :: [])) rfl ?_
        refine lv_if_ne (tgt := 57) hx hb dX12_readOne_48 (by decide) (fun h8 => ?_) (fun h8 => ?_)
        · have hf := o_f h8 hf
          refine lv_aload_n hx hb dX12_readOne_57 rfl (lv_at hl 0 rfl) ?_
          refine lv_iload_n hx hb dX12_readOne_58 rfl (lv_at hl 1 rfl) ?_
          refine lv_iconst (v := 3) hx hb dX12_readOne_59 (by decide) ?_
          refine lv_iadd hx hb dX12_readOne_60 ?_
          refine lv_iconst (v := 0) hx hb dX12_readOne_61 (by decide) ?_
          obtain ⟨q9, hq9, hf⟩ := o_bind hf
          refine k_rV F (c_X12_isFigure l g aM rM (x1 + 3) 0 v_halls v_bidders v_fall v_heard v_asks v_pageLength v_isWhole v_newMany v_seedNow v_isKept v_keptHall v_keptHeard v_h v_page hq9) qv_X12_isFigure ml_X12_71 (hP.sub [0, 1] rfl) hK (va_recv hK.1 hP (ci := 12) (q0 := 0) rfl rfl) rfl hl.1 rfl (Nat.le_of_ble_eq_true rfl) dX12_readOne_62 ⟨(Nat.le_of_ble_eq_true rfl), (Nat.le_of_ble_eq_true rfl)⟩ ⟨(Nat.le_of_ble_eq_true rfl), (Nat.le_of_ble_eq_true rfl)⟩ ?_
          refine W.eq (g2 := F0 m 65 ls (.int q9 :: [])) rfl ?_
          refine lv_if_ne (tgt := 74) hx hb dX12_readOne_65 (by decide) (fun h10 => ?_) (fun h10 => ?_)
          · have hf := o_f h10 hf
            refine lv_iload_n hx hb dX12_readOne_74 rfl (lv_at hl 1 rfl) ?_
            refine lv_iconst (v := 4) hx hb dX12_readOne_75 (by decide) ?_
            refine lv_iadd hx hb dX12_readOne_76 ?_
            exact r_ri F hQ (Option.some.inj hf) dX12_readOne_77
          · have hf := o_t h10 hf
            refine lv_iload_n hx hb dX12_readOne_68 rfl (lv_at hl 1 rfl) ?_
            refine lv_iconst (v := 3) hx hb dX12_readOne_69 (by decide) ?_
            refine lv_iadd hx hb dX12_readOne_70 ?_
            refine lv_goto (tgt := 77) hx hb dX12_readOne_71 (by decide) ?_
            exact r_ri F hQ (Option.some.inj hf) dX12_readOne_77
        · have hf := o_t h8 hf
          refine lv_iload_n hx hb dX12_readOne_51 rfl (lv_at hl 1 rfl) ?_
          refine lv_iconst (v := 2) hx hb dX12_readOne_52 (by decide) ?_
          refine lv_iadd hx hb dX12_readOne_53 ?_
          refine lv_goto (tgt := 77) hx hb dX12_readOne_54 (by decide) ?_
          exact r_ri F hQ (Option.some.inj hf) dX12_readOne_77
      · have hf := o_t h6 hf
        refine lv_iload_n hx hb dX12_readOne_34 rfl (lv_at hl 1 rfl) ?_
        refine lv_iconst (v := 1) hx hb dX12_readOne_35 (by decide) ?_
        refine lv_iadd hx hb dX12_readOne_36 ?_
        refine lv_goto (tgt := 77) hx hb dX12_readOne_37 (by decide) ?_
        exact r_ri F hQ (Option.some.inj hf) dX12_readOne_77
    · have hf := o_t h4 hf
      refine lv_iload_n hx hb dX12_readOne_21 rfl (lv_at hl 1 rfl) ?_
      exact r_ri F hQ (Option.some.inj hf) dX12_readOne_22
def f_X12_read_12 (fuel : Nat) (v_page : Nat → Int32) (v_pageLength : Int32) (y1 : Int32) (w_v_isWhole : Int32) (w_v_newMany : Int32) : Option (Int32 × Int32 × Int32) := match fuel with
  | 0 => none
  | k + 1 => (if 5 ≤ w_v_newMany then (some (y1, w_v_isWhole, w_v_newMany)) else ((f_X12_readOne y1 v_page v_pageLength).bind fun q2 => (if q2 = (y1 + 4) then (bnd (w_v_newMany + 1) fun z4 => (if v_pageLength ≤ q2 then (if q2 = v_pageLength then (some (q2, w_v_isWhole, z4)) else (if z4 = 5 then (some (q2, w_v_isWhole, z4)) else (if q2 < 0 ∨ 28 ≤ Int32.toNatClampNeg q2 then none else (if (v_page (Int32.toNatClampNeg q2)) = 44 then (bnd (q2 + 1 : Int32) fun z10 => (f_X12_read_12 k v_page v_pageLength z10 w_v_isWhole z4)) else (some (q2, w_v_isWhole, z4)))))) else (if q2 < 0 ∨ 28 ≤ Int32.toNatClampNeg q2 then none else (if (v_page (Int32.toNatClampNeg q2)) = 59 then (if z4 ≤ 1 then (if q2 = v_pageLength then (some (q2, w_v_isWhole, z4)) else (if z4 = 5 then (some (q2, w_v_isWhole, z4)) else (if (v_page (Int32.toNatClampNeg q2)) = 44 then (bnd (q2 + 1 : Int32) fun z21 => (f_X12_read_12 k v_page v_pageLength z21 w_v_isWhole z4)) else (some (q2, w_v_isWhole, z4))))) else ((f_X12_isFigure (q2 + 1) 0 v_page v_pageLength).bind fun q22 => (if q22 = 0 then ((f_X12_isFigure (q2 + 1) 0 v_page v_pageLength).bind fun q24 => (if q24 = 0 then (some ((q2 + 1), 0, z4)) else (some ((q2 + 2), 0, z4)))) else (if (q2 + 2) = v_pageLength then ((f_X12_isFigure (q2 + 1) 0 v_page v_pageLength).bind fun q29 => (if q29 = 0 then (some ((q2 + 1), 1, z4)) else (some ((q2 + 2), 1, z4)))) else ((f_X12_isFigure (q2 + 1) 0 v_page v_pageLength).bind fun q27 => (if q27 = 0 then (some ((q2 + 1), 0, z4)) else (some ((q2 + 2), 0, z4)))))))) else (if q2 = v_pageLength then (some (q2, w_v_isWhole, z4)) else (if z4 = 5 then (some (q2, w_v_isWhole, z4)) else (if (v_page (Int32.toNatClampNeg q2)) = 44 then (bnd (q2 + 1 : Int32) fun z16 => (f_X12_read_12 k v_page v_pageLength z16 w_v_isWhole z4)) else (some (q2, w_v_isWhole, z4))))))))) else (some (q2, w_v_isWhole, w_v_newMany)))))
def f_X12_read (v_isWhole : Int32) (v_newMany : Int32) (v_page : Nat → Int32) (v_pageLength : Int32) : Option (Int32 × Int32 × Int32) := (f_X12_read_12 4096 v_page v_pageLength 0 0 0)
set_option maxRecDepth 100000 in
set_option maxHeartbeats 4000000 in
theorem c_X12_read (l : Launch) (g : GG) (aM : Nat) (rM : Nat → Nat) (v_halls : Int32) (v_bidders : Int32) (v_fall : Int32) (v_heard : Int32) (v_asks : Int32) (v_pageLength : Int32) (v_isWhole : Int32) (v_newMany : Int32) (v_seedNow : Int64) (v_isKept : Int32) (v_keptHall : Int32) (v_keptHeard : Int32) (v_h : Int64) (v_page : Nat → Int32) {r0 : Int32} {r1 : Int32} {r2 : Int32} (hf : f_X12_read v_isWhole v_newMany v_page v_pageLength = some (r0, r1, r2)) : MD l g yX12_read cX12_read 4 (some .int) 3 65 [.ref aM] [ob aM 12 (oM rM v_halls v_bidders v_fall v_heard v_asks v_pageLength v_isWhole v_newMany v_seedNow v_isKept v_keptHall v_keptHeard v_h), ba g (rM 14) 28 v_page] (some (.int r0)) [ob aM 12 (oM rM v_halls v_bidders v_fall v_heard v_asks v_pageLength r1 r2 v_seedNow v_isKept v_keptHall v_keptHeard v_h), ba g (rM 14) 28 v_page] := by
  refine MC.mk (by decide) (Nat.le_of_ble_eq_true rfl) ?_
  intro p e s m args below meth c ls Q A F hnm hK hw hA hl hQ
  have hP := hw.1
  have hx := F.1
  have hb := F.2.1
  have hml := F.2.2.2.1
  have hown := F.2.2.2.2.1
  have hts := F.2.2.2.2.2.1
  have hl : lv_has ls 4 [(0, .ref aM)] := hl
  have L12 : ∀ (k : Nat) (y1 : Int32) (w_v_isWhole : Int32) (w_v_newMany : Int32) (_q : Unit), f_X12_read_12 k v_page v_pageLength y1 w_v_isWhole w_v_newMany = some (r0, r1, r2) → ∀ (H : Heap) (locs : List Loc) (ls : Array Slot), WD g A s.heap [ob aM 12 (oM rM v_halls v_bidders v_fall v_heard v_asks v_pageLength w_v_isWhole w_v_newMany v_seedNow v_isKept v_keptHall v_keptHeard v_h), ba g (rM 14) 28 v_page] H locs → lv_has ls 4 [(1, .int y1), (0, .ref aM)] → W p l e (rmc 3 0 0 65) s m args below meth c H locs 0 0 Q (F0 m 12 ls []) := by
    intro k
    induction k with
    | zero => intro y1 w_v_isWhole w_v_newMany q hf; rw [f_X12_read_12] at hf; cases hf
    | succ k ih =>
      intro y1 w_v_isWhole w_v_newMany q hf H locs ls hw hl
      rw [f_X12_read_12] at hf
      have hP := hw.1
      refine lv_aload_n hx hb dX12_read_12 rfl (lv_at hl 1 rfl) ?_
      refine w_get (ci := 12) F hK hP fb_X12 0 rfl rfl 16 (by decide) fl_X12_79 (fun _ h => h) rfl dX12_read_13 ?_
      refine lv_iconst (v := 5) hx hb dX12_read_16 (by decide) ?_
      refine lv_icmp_ge (tgt := 170) hx hb dX12_read_17 (by decide) (fun h1 => ?_) (fun h1 => ?_)
      · have hf := o_t h1 hf
        refine lv_iload_n hx hb dX12_read_170 rfl (lv_at hl 0 rfl) ?_
        cases hf
        exact r_ci F hQ ⟨rfl, rfl⟩ hw dX12_read_171
      · have hf := o_f h1 hf
        refine lv_aload_n hx hb dX12_read_20 rfl (lv_at hl 1 rfl) ?_
        refine lv_iload_n hx hb dX12_read_21 rfl (lv_at hl 0 rfl) ?_
        obtain ⟨q2, hq2, hf⟩ := o_bind hf
        refine k_rV F (c_X12_readOne l g aM rM y1 v_halls v_bidders v_fall v_heard v_asks v_pageLength w_v_isWhole w_v_newMany v_seedNow v_isKept v_keptHall v_keptHeard v_h v_page hq2) qv_X12_readOne ml_X12_82 (hP.sub [0, 1] rfl) hK (va_recv hK.1 hP (ci := 12) (q0 := 0) rfl rfl) rfl hl.1 rfl (Nat.le_of_ble_eq_true rfl) dX12_read_22 ⟨(Nat.le_of_ble_eq_true rfl), (Nat.le_of_ble_eq_true rfl)⟩ ⟨(Nat.le_of_ble_eq_true rfl), (Nat.le_of_ble_eq_true rfl)⟩ ?_
        refine W.eq (g2 := F0 m 25 ls (.int q2 :: [])) rfl ?_
        refine lv_istore_n (lv' := [(2, .int q2), (1, .int y1), (0, .ref aM)]) hx hb dX12_read_25 rfl hl (by decide) rfl (fun ls hl => ?_)
        refine lv_iload_n hx hb dX12_read_26 rfl (lv_at hl 0 rfl) ?_
        refine lv_iload_n hx hb dX12_read_27 rfl (lv_at hl 1 rfl) ?_
        refine lv_iconst (v := 4) hx hb dX12_read_28 (by decide) ?_
        refine lv_iadd hx hb dX12_read_29 ?_
        refine lv_icmp_eq (tgt := 35) hx hb dX12_read_30 (by decide) (fun h3 => ?_) (fun h3 => ?_)
        · have hf := o_t h3 hf
          refine lv_aload_n hx hb dX12_read_35 rfl (lv_at hl 2 rfl) ?_
          refine lv_dup hx hb dX12_read_36 rfl ?_
          refine w_get (ci := 12) F hK hP fb_X12 0 rfl rfl 16 (by decide) fl_X12_79 (fun _ h => h) rfl dX12_read_37 ?_
          refine lv_iconst (v := 1) hx hb dX12_read_40 (by decide) ?_
          refine lv_iadd hx hb dX12_read_41 ?_
          refine lv_topi (fun z4 ez4 => ?_)
          have hf := o_bnd ez4 hf
          refine w_put (ci := 12) (ws' := [ob aM 12 (oM rM v_halls v_bidders v_fall v_heard v_asks v_pageLength w_v_isWhole z4 v_seedNow v_isKept v_keptHall v_keptHeard v_h), ba g (rM 14) 28 v_page]) F hK hw fb_X12 0 rfl rfl 16 (by decide) fl_X12_79 (fun _ h => h) rfl rfl rfl rfl (Nat.le_of_ble_eq_true rfl) rfl dX12_read_42 (fun H locs hw => ?_)
          have hP := hw.1
          refine lv_iload_n hx hb dX12_read_45 rfl (lv_at hl 0 rfl) ?_
          refine lv_istore_n (lv' := [(1, .int q2), (2, .int q2), (0, .ref aM)]) hx hb dX12_read_46 rfl hl (by decide) rfl (fun ls hl => ?_)
          refine lv_iload_n hx hb dX12_read_47 rfl (lv_at hl 0 rfl) ?_
          refine lv_aload_n hx hb dX12_read_48 rfl (lv_at hl 2 rfl) ?_
          refine w_get (ci := 12) F hK hP fb_X12 0 rfl rfl 13 (by decide) fl_X12_63 (fun _ h => h) rfl dX12_read_49 ?_
          refine lv_icmp_ge (tgt := 78) hx hb dX12_read_52 (by decide) (fun h5 => ?_) (fun h5 => ?_)
          · have hf := o_t h5 hf
            refine lv_iconst (v := 0) hx hb dX12_read_78 (by decide) ?_
            refine lv_istore_n (lv' := [(3, .int 0), (1, .int q2), (2, .int q2), (0, .ref aM)]) hx hb dX12_read_79 rfl hl (by decide) rfl (fun ls hl => ?_)
            refine lv_iload_n hx hb dX12_read_80 rfl (lv_at hl 0 rfl) ?_
            refine lv_if_eq (tgt := 135) hx hb dX12_read_81 (by decide) (fun _ => ?_) (fun h => absurd h (by decide))
            refine lv_iload_n hx hb dX12_read_135 rfl (lv_at hl 1 rfl) ?_
            refine lv_aload_n hx hb dX12_read_136 rfl (lv_at hl 3 rfl) ?_
            refine w_get (ci := 12) F hK hP fb_X12 0 rfl rfl 13 (by decide) fl_X12_63 (fun _ h => h) rfl dX12_read_137 ?_
            refine lv_icmp_eq (tgt := 162) hx hb dX12_read_140 (by decide) (fun h6 => ?_) (fun h6 => ?_)
            · have hf := o_t h6 hf
              refine lv_iload_n hx hb dX12_read_162 rfl (lv_at hl 1 rfl) ?_
              cases hf
              exact r_ci F hQ ⟨rfl, rfl⟩ hw dX12_read_163
            · have hf := o_f h6 hf
              refine lv_aload_n hx hb dX12_read_143 rfl (lv_at hl 3 rfl) ?_
              refine w_get (ci := 12) F hK hP fb_X12 0 rfl rfl 16 (by decide) fl_X12_79 (fun _ h => h) rfl dX12_read_144 ?_
              refine lv_iconst (v := 5) hx hb dX12_read_147 (by decide) ?_
              refine lv_icmp_eq (tgt := 162) hx hb dX12_read_148 (by decide) (fun h7 => ?_) (fun h7 => ?_)
              · have hf := o_t h7 hf
                refine lv_iload_n hx hb dX12_read_162 rfl (lv_at hl 1 rfl) ?_
                cases hf
                exact r_ci F hQ ⟨rfl, rfl⟩ hw dX12_read_163
              · have hf := o_f h7 hf
                refine lv_aload_n hx hb dX12_read_151 rfl (lv_at hl 3 rfl) ?_
                refine w_get (ci := 12) F hK hP fb_X12 0 rfl rfl 14 (by decide) fl_X12_34 (fun _ h => h) rfl dX12_read_152 ?_
                refine lv_iload_n hx hb dX12_read_155 rfl (lv_at hl 1 rfl) ?_
                obtain ⟨h8, hf⟩ := o_chk hf
                refine w_bald F hK hP 1 rfl h8 dX12_read_156 ?_
                refine lv_bipush (v := 44) hx hb dX12_read_157 (by decide) ?_
                refine lv_icmp_eq (tgt := 164) hx hb dX12_read_159 (by decide) (fun h9 => ?_) (fun h9 => ?_)
                · have hf := o_t h9 hf
                  obtain ⟨z10, ez10⟩ : ∃ y : Int32, y = q2 + 1 := ⟨_, rfl⟩
                  have hf := o_bnd ez10 hf
                  refine lv_iinc (v := z10) (lv' := [(1, .int z10), (3, .int 0), (2, .int q2), (0, .ref aM)]) hx hb dX12_read_164 hl (k := 1) rfl (by rw [ez10]; rfl) (by decide) rfl (fun ls hl => ?_)
                  refine lv_goto (tgt := 12) hx hb dX12_read_167 (by decide) ?_
                  exact ih z10 w_v_isWhole z4 () hf _ _ ls hw (lv_sub hl [0, 3] rfl)
                · have hf := o_f h9 hf
                  refine lv_iload_n hx hb dX12_read_162 rfl (lv_at hl 1 rfl) ?_
                  cases hf
                  exact r_ci F hQ ⟨rfl, rfl⟩ hw dX12_read_163
          · have hf := o_f h5 hf
            refine lv_aload_n hx hb dX12_read_55 rfl (lv_at hl 2 rfl) ?_
            refine w_get (ci := 12) F hK hP fb_X12 0 rfl rfl 14 (by decide) fl_X12_34 (fun _ h => h) rfl dX12_read_56 ?_
            refine lv_iload_n hx hb dX12_read_59 rfl (lv_at hl 0 rfl) ?_
            obtain ⟨h11, hf⟩ := o_chk hf
            refine w_bald F hK hP 1 rfl h11 dX12_read_60 ?_
            refine lv_bipush (v := 59) hx hb dX12_read_61 (by decide) ?_
            refine lv_icmp_ne (tgt := 78) hx hb dX12_read_63 (by decide) (fun h12 => ?_) (fun h12 => ?_)
            · have hf := o_f h12 hf
              refine lv_iconst (v := 0) hx hb dX12_read_78 (by decide) ?_
              refine lv_istore_n (lv' := [(3, .int 0), (1, .int q2), (2, .int q2), (0, .ref aM)]) hx hb dX12_read_79 rfl hl (by decide) rfl (fun ls hl => ?_)
              refine lv_iload_n hx hb dX12_read_80 rfl (lv_at hl 0 rfl) ?_
              refine lv_if_eq (tgt := 135) hx hb dX12_read_81 (by decide) (fun _ => ?_) (fun h => absurd h (by decide))
              refine lv_iload_n hx hb dX12_read_135 rfl (lv_at hl 1 rfl) ?_
              refine lv_aload_n hx hb dX12_read_136 rfl (lv_at hl 3 rfl) ?_
              refine w_get (ci := 12) F hK hP fb_X12 0 rfl rfl 13 (by decide) fl_X12_63 (fun _ h => h) rfl dX12_read_137 ?_
              refine lv_icmp_eq (tgt := 162) hx hb dX12_read_140 (by decide) (fun h13 => ?_) (fun h13 => ?_)
              · have hf := o_t h13 hf
                refine lv_iload_n hx hb dX12_read_162 rfl (lv_at hl 1 rfl) ?_
                cases hf
                exact r_ci F hQ ⟨rfl, rfl⟩ hw dX12_read_163
              · have hf := o_f h13 hf
                refine lv_aload_n hx hb dX12_read_143 rfl (lv_at hl 3 rfl) ?_
                refine w_get (ci := 12) F hK hP fb_X12 0 rfl rfl 16 (by decide) fl_X12_79 (fun _ h => h) rfl dX12_read_144 ?_
                refine lv_iconst (v := 5) hx hb dX12_read_147 (by decide) ?_
                refine lv_icmp_eq (tgt := 162) hx hb dX12_read_148 (by decide) (fun h14 => ?_) (fun h14 => ?_)
                · have hf := o_t h14 hf
                  refine lv_iload_n hx hb dX12_read_162 rfl (lv_at hl 1 rfl) ?_
                  cases hf
                  exact r_ci F hQ ⟨rfl, rfl⟩ hw dX12_read_163
                · have hf := o_f h14 hf
                  refine lv_aload_n hx hb dX12_read_151 rfl (lv_at hl 3 rfl) ?_
                  refine w_get (ci := 12) F hK hP fb_X12 0 rfl rfl 14 (by decide) fl_X12_34 (fun _ h => h) rfl dX12_read_152 ?_
                  refine lv_iload_n hx hb dX12_read_155 rfl (lv_at hl 1 rfl) ?_
                  refine w_bald F hK hP 1 rfl h11 dX12_read_156 ?_
                  refine lv_bipush (v := 44) hx hb dX12_read_157 (by decide) ?_
                  refine lv_icmp_eq (tgt := 164) hx hb dX12_read_159 (by decide) (fun h15 => ?_) (fun h15 => ?_)
                  · have hf := o_t h15 hf
                    obtain ⟨z16, ez16⟩ : ∃ y : Int32, y = q2 + 1 := ⟨_, rfl⟩
                    have hf := o_bnd ez16 hf
                    refine lv_iinc (v := z16) (lv' := [(1, .int z16), (3, .int 0), (2, .int q2), (0, .ref aM)]) hx hb dX12_read_164 hl (k := 1) rfl (by rw [ez16]; rfl) (by decide) rfl (fun ls hl => ?_)
                    refine lv_goto (tgt := 12) hx hb dX12_read_167 (by decide) ?_
                    exact ih z16 w_v_isWhole z4 () hf _ _ ls hw (lv_sub hl [0, 3] rfl)
                  · have hf := o_f h15 hf
                    refine lv_iload_n hx hb dX12_read_162 rfl (lv_at hl 1 rfl) ?_
                    cases hf
                    exact r_ci F hQ ⟨rfl, rfl⟩ hw dX12_read_163
            · have hf := o_t h12 hf
              refine lv_aload_n hx hb dX12_read_66 rfl (lv_at hl 2 rfl) ?_
              refine w_get (ci := 12) F hK hP fb_X12 0 rfl rfl 16 (by decide) fl_X12_79 (fun _ h => h) rfl dX12_read_67 ?_
              refine lv_iconst (v := 1) hx hb dX12_read_70 (by decide) ?_
              refine lv_icmp_le (tgt := 78) hx hb dX12_read_71 (by decide) (fun h17 => ?_) (fun h17 => ?_)
              · have hf := o_t h17 hf
                refine lv_iconst (v := 0) hx hb dX12_read_78 (by decide) ?_
                refine lv_istore_n (lv' := [(3, .int 0), (1, .int q2), (2, .int q2), (0, .ref aM)]) hx hb dX12_read_79 rfl hl (by decide) rfl (fun ls hl => ?_)
                refine lv_iload_n hx hb dX12_read_80 rfl (lv_at hl 0 rfl) ?_
                refine lv_if_eq (tgt := 135) hx hb dX12_read_81 (by decide) (fun _ => ?_) (fun h => absurd h (by decide))
                refine lv_iload_n hx hb dX12_read_135 rfl (lv_at hl 1 rfl) ?_
                refine lv_aload_n hx hb dX12_read_136 rfl (lv_at hl 3 rfl) ?_
                refine w_get (ci := 12) F hK hP fb_X12 0 rfl rfl 13 (by decide) fl_X12_63 (fun _ h => h) rfl dX12_read_137 ?_
                refine lv_icmp_eq (tgt := 162) hx hb dX12_read_140 (by decide) (fun h18 => ?_) (fun h18 => ?_)
                · have hf := o_t h18 hf
                  refine lv_iload_n hx hb dX12_read_162 rfl (lv_at hl 1 rfl) ?_
                  cases hf
                  exact r_ci F hQ ⟨rfl, rfl⟩ hw dX12_read_163
                · have hf := o_f h18 hf
                  refine lv_aload_n hx hb dX12_read_143 rfl (lv_at hl 3 rfl) ?_
                  refine w_get (ci := 12) F hK hP fb_X12 0 rfl rfl 16 (by decide) fl_X12_79 (fun _ h => h) rfl dX12_read_144 ?_
                  refine lv_iconst (v := 5) hx hb dX12_read_147 (by decide) ?_
                  refine lv_icmp_eq (tgt := 162) hx hb dX12_read_148 (by decide) (fun h19 => ?_) (fun h19 => ?_)
                  · have hf := o_t h19 hf
                    refine lv_iload_n hx hb dX12_read_162 rfl (lv_at hl 1 rfl) ?_
                    cases hf
                    exact r_ci F hQ ⟨rfl, rfl⟩ hw dX12_read_163
                  · have hf := o_f h19 hf
                    refine lv_aload_n hx hb dX12_read_151 rfl (lv_at hl 3 rfl) ?_
                    refine w_get (ci := 12) F hK hP fb_X12 0 rfl rfl 14 (by decide) fl_X12_34 (fun _ h => h) rfl dX12_read_152 ?_
                    refine lv_iload_n hx hb dX12_read_155 rfl (lv_at hl 1 rfl) ?_
                    refine w_bald F hK hP 1 rfl h11 dX12_read_156 ?_
                    refine lv_bipush (v := 44) hx hb dX12_read_157 (by decide) ?_
                    refine lv_icmp_eq (tgt := 164) hx hb dX12_read_159 (by decide) (fun h20 => ?_) (fun h20 => ?_)
                    · have hf := o_t h20 hf
                      obtain ⟨z21, ez21⟩ : ∃ y : Int32, y = q2 + 1 := ⟨_, rfl⟩
                      have hf := o_bnd ez21 hf
                      refine lv_iinc (v := z21) (lv' := [(1, .int z21), (3, .int 0), (2, .int q2), (0, .ref aM)]) hx hb dX12_read_164 hl (k := 1) rfl (by rw [ez21]; rfl) (by decide) rfl (fun ls hl => ?_)
                      refine lv_goto (tgt := 12) hx hb dX12_read_167 (by decide) ?_
                      exact ih z21 w_v_isWhole z4 () hf _ _ ls hw (lv_sub hl [0, 3] rfl)
                    · have hf := o_f h20 hf
                      refine lv_iload_n hx hb dX12_read_162 rfl (lv_at hl 1 rfl) ?_
                      cases hf
                      exact r_ci F hQ ⟨rfl, rfl⟩ hw dX12_read_163
              · have hf := o_f h17 hf
                refine lv_iconst (v := 1) hx hb dX12_read_74 (by decide) ?_
                refine lv_goto (tgt := 79) hx hb dX12_read_75 (by decide) ?_
                refine lv_istore_n (lv' := [(3, .int 1), (1, .int q2), (2, .int q2), (0, .ref aM)]) hx hb dX12_read_79 rfl hl (by decide) rfl (fun ls hl => ?_)
                refine lv_iload_n hx hb dX12_read_80 rfl (lv_at hl 0 rfl) ?_
                refine lv_if_eq (tgt := 135) hx hb dX12_read_81 (by decide) (fun h => absurd h (by decide)) (fun _ => ?_)
                refine lv_aload_n hx hb dX12_read_84 rfl (lv_at hl 3 rfl) ?_
                refine lv_aload_n hx hb dX12_read_85 rfl (lv_at hl 3 rfl) ?_
                refine lv_iload_n hx hb dX12_read_86 rfl (lv_at hl 1 rfl) ?_
                refine lv_iconst (v := 1) hx hb dX12_read_87 (by decide) ?_
                refine lv_iadd hx hb dX12_read_88 ?_
                refine lv_iconst (v := 0) hx hb dX12_read_89 (by decide) ?_
                obtain ⟨q22, hq22, hf⟩ := o_bind hf
                refine k_rV F (c_X12_isFigure l g aM rM (q2 + 1) 0 v_halls v_bidders v_fall v_heard v_asks v_pageLength w_v_isWhole z4 v_seedNow v_isKept v_keptHall v_keptHeard v_h v_page hq22) qv_X12_isFigure ml_X12_71 (hP.sub [0, 1] rfl) hK (va_recv hK.1 hP (ci := 12) (q0 := 0) rfl rfl) rfl hl.1 rfl (Nat.le_of_ble_eq_true rfl) dX12_read_90 ⟨(Nat.le_of_ble_eq_true rfl), (Nat.le_of_ble_eq_true rfl)⟩ ⟨(Nat.le_of_ble_eq_true rfl), (Nat.le_of_ble_eq_true rfl)⟩ ?_
                refine W.eq (g2 := F0 m 93 ls (.int q22 :: [.ref aM])) rfl ?_
                refine lv_if_eq (tgt := 110) hx hb dX12_read_93 (by decide) (fun h23 => ?_) (fun h23 => ?_)
                · have hf := o_t h23 hf
                  refine lv_iconst (v := 0) hx hb dX12_read_110 (by decide) ?_
                  refine w_put (ci := 12) (ws' := [ob aM 12 (oM rM v_halls v_bidders v_fall v_heard v_asks v_pageLength 0 z4 v_seedNow v_isKept v_keptHall v_keptHeard v_h), ba g (rM 14) 28 v_page]) F hK hw fb_X12 0 rfl rfl 15 (by decide) fl_X12_75 (fun _ h => h) rfl rfl rfl rfl (Nat.le_of_ble_eq_true rfl) rfl dX12_read_111 (fun H locs hw => ?_)
                  have hP := hw.1
                  refine lv_aload_n hx hb dX12_read_114 rfl (lv_at hl 3 rfl) ?_
                  refine lv_iload_n hx hb dX12_read_115 rfl (lv_at hl 1 rfl) ?_
                  refine lv_iconst (v := 1) hx hb dX12_read_116 (by decide) ?_
                  refine lv_iadd hx hb dX12_read_117 ?_
                  refine lv_iconst (v := 0) hx hb dX12_read_118 (by decide) ?_
                  obtain ⟨q24, hq24, hf⟩ := o_bind hf
                  refine k_rV F (c_X12_isFigure l g aM rM (q2 + 1) 0 v_halls v_bidders v_fall v_heard v_asks v_pageLength 0 z4 v_seedNow v_isKept v_keptHall v_keptHeard v_h v_page hq24) qv_X12_isFigure ml_X12_71 (hP.sub [0, 1] rfl) hK (va_recv hK.1 hP (ci := 12) (q0 := 0) rfl rfl) rfl hl.1 rfl (Nat.le_of_ble_eq_true rfl) dX12_read_119 ⟨(Nat.le_of_ble_eq_true rfl), (Nat.le_of_ble_eq_true rfl)⟩ ⟨(Nat.le_of_ble_eq_true rfl), (Nat.le_of_ble_eq_true rfl)⟩ ?_
                  refine W.eq (g2 := F0 m 122 ls (.int q24 :: [])) rfl ?_
                  refine lv_if_eq (tgt := 131) hx hb dX12_read_122 (by decide) (fun h25 => ?_) (fun h25 => ?_)
                  · have hf := o_t h25 hf
                    refine lv_iload_n hx hb dX12_read_131 rfl (lv_at hl 1 rfl) ?_
                    refine lv_iconst (v := 1) hx hb dX12_read_132 (by decide) ?_
                    refine lv_iadd hx hb dX12_read_133 ?_
                    cases hf
                    exact r_ci F hQ ⟨rfl, rfl⟩ hw dX12_read_134
                  · have hf := o_f h25 hf
                    refine lv_iload_n hx hb dX12_read_125 rfl (lv_at hl 1 rfl) ?_
                    refine lv_iconst (v := 2) hx hb dX12_read_126 (by decide) ?_
                    refine lv_iadd hx hb dX12_read_127 ?_
                    refine lv_goto (tgt := 134) hx hb dX12_read_128 (by decide) ?_
                    cases hf
                    exact r_ci F hQ ⟨rfl, rfl⟩ hw dX12_read_134
                · have hf := o_f h23 hf
                  refine lv_iload_n hx hb dX12_read_96 rfl (lv_at hl 1 rfl) ?_
                  refine lv_iconst (v := 2) hx hb dX12_read_97 (by decide) ?_
                  refine lv_iadd hx hb dX12_read_98 ?_
                  refine lv_aload_n hx hb dX12_read_99 rfl (lv_at hl 3 rfl) ?_
                  refine w_get (ci := 12) F hK hP fb_X12 0 rfl rfl 13 (by decide) fl_X12_63 (fun _ h => h) rfl dX12_read_100 ?_
                  refine lv_icmp_ne (tgt := 110) hx hb dX12_read_103 (by decide) (fun h26 => ?_) (fun h26 => ?_)
                  · have hf := o_f h26 hf
                    refine lv_iconst (v := 0) hx hb dX12_read_110 (by decide) ?_
                    refine w_put (ci := 12) (ws' := [ob aM 12 (oM rM v_halls v_bidders v_fall v_heard v_asks v_pageLength 0 z4 v_seedNow v_isKept v_keptHall v_keptHeard v_h), ba g (rM 14) 28 v_page]) F hK hw fb_X12 0 rfl rfl 15 (by decide) fl_X12_75 (fun _ h => h) rfl rfl rfl rfl (Nat.le_of_ble_eq_true rfl) rfl dX12_read_111 (fun H locs hw => ?_)
                    have hP := hw.1
                    refine lv_aload_n hx hb dX12_read_114 rfl (lv_at hl 3 rfl) ?_
                    refine lv_iload_n hx hb dX12_read_115 rfl (lv_at hl 1 rfl) ?_
                    refine lv_iconst (v := 1) hx hb dX12_read_116 (by decide) ?_
                    refine lv_iadd hx hb dX12_read_117 ?_
                    refine lv_iconst (v := 0) hx hb dX12_read_118 (by decide) ?_
                    obtain ⟨q27, hq27, hf⟩ := o_bind hf
                    refine k_rV F (c_X12_isFigure l g aM rM (q2 + 1) 0 v_halls v_bidders v_fall v_heard v_asks v_pageLength 0 z4 v_seedNow v_isKept v_keptHall v_keptHeard v_h v_page hq27) qv_X12_isFigure ml_X12_71 (hP.sub [0, 1] rfl) hK (va_recv hK.1 hP (ci := 12) (q0 := 0) rfl rfl) rfl hl.1 rfl (Nat.le_of_ble_eq_true rfl) dX12_read_119 ⟨(Nat.le_of_ble_eq_true rfl), (Nat.le_of_ble_eq_true rfl)⟩ ⟨(Nat.le_of_ble_eq_true rfl), (Nat.le_of_ble_eq_true rfl)⟩ ?_
                    refine W.eq (g2 := F0 m 122 ls (.int q27 :: [])) rfl ?_
                    refine lv_if_eq (tgt := 131) hx hb dX12_read_122 (by decide) (fun h28 => ?_) (fun h28 => ?_)
                    · have hf := o_t h28 hf
                      refine lv_iload_n hx hb dX12_read_131 rfl (lv_at hl 1 rfl) ?_
                      refine lv_iconst (v := 1) hx hb dX12_read_132 (by decide) ?_
                      refine lv_iadd hx hb dX12_read_133 ?_
                      cases hf
                      exact r_ci F hQ ⟨rfl, rfl⟩ hw dX12_read_134
                    · have hf := o_f h28 hf
                      refine lv_iload_n hx hb dX12_read_125 rfl (lv_at hl 1 rfl) ?_
                      refine lv_iconst (v := 2) hx hb dX12_read_126 (by decide) ?_
                      refine lv_iadd hx hb dX12_read_127 ?_
                      refine lv_goto (tgt := 134) hx hb dX12_read_128 (by decide) ?_
                      cases hf
                      exact r_ci F hQ ⟨rfl, rfl⟩ hw dX12_read_134
                  · have hf := o_t h26 hf
                    refine lv_iconst (v := 1) hx hb dX12_read_106 (by decide) ?_
                    refine lv_goto (tgt := 111) hx hb dX12_read_107 (by decide) ?_
                    refine w_put (ci := 12) (ws' := [ob aM 12 (oM rM v_halls v_bidders v_fall v_heard v_asks v_pageLength 1 z4 v_seedNow v_isKept v_keptHall v_keptHeard v_h), ba g (rM 14) 28 v_page]) F hK hw fb_X12 0 rfl rfl 15 (by decide) fl_X12_75 (fun _ h => h) rfl rfl rfl rfl (Nat.le_of_ble_eq_true rfl) rfl dX12_read_111 (fun H locs hw => ?_)
                    have hP := hw.1
                    refine lv_aload_n hx hb dX12_read_114 rfl (lv_at hl 3 rfl) ?_
                    refine lv_iload_n hx hb dX12_read_115 rfl (lv_at hl 1 rfl) ?_
                    refine lv_iconst (v := 1) hx hb dX12_read_116 (by decide) ?_
                    refine lv_iadd hx hb dX12_read_117 ?_
                    refine lv_iconst (v := 0) hx hb dX12_read_118 (by decide) ?_
                    obtain ⟨q29, hq29, hf⟩ := o_bind hf
                    refine k_rV F (c_X12_isFigure l g aM rM (q2 + 1) 0 v_halls v_bidders v_fall v_heard v_asks v_pageLength 1 z4 v_seedNow v_isKept v_keptHall v_keptHeard v_h v_page hq29) qv_X12_isFigure ml_X12_71 (hP.sub [0, 1] rfl) hK (va_recv hK.1 hP (ci := 12) (q0 := 0) rfl rfl) rfl hl.1 rfl (Nat.le_of_ble_eq_true rfl) dX12_read_119 ⟨(Nat.le_of_ble_eq_true rfl), (Nat.le_of_ble_eq_true rfl)⟩ ⟨(Nat.le_of_ble_eq_true rfl), (Nat.le_of_ble_eq_true rfl)⟩ ?_
                    refine W.eq (g2 := F0 m 122 ls (.int q29 :: [])) rfl ?_
                    refine lv_if_eq (tgt := 131) hx hb dX12_read_122 (by decide) (fun h30 => ?_) (fun h30 => ?_)
                    · have hf := o_t h30 hf
                      refine lv_iload_n hx hb dX12_read_131 rfl (lv_at hl 1 rfl) ?_
                      refine lv_iconst (v := 1) hx hb dX12_read_132 (by decide) ?_
                      refine lv_iadd hx hb dX12_read_133 ?_
                      cases hf
                      exact r_ci F hQ ⟨rfl, rfl⟩ hw dX12_read_134
                    · have hf := o_f h30 hf
                      refine lv_iload_n hx hb dX12_read_125 rfl (lv_at hl 1 rfl) ?_
                      refine lv_iconst (v := 2) hx hb dX12_read_126 (by decide) ?_
                      refine lv_iadd hx hb dX12_read_127 ?_
                      refine lv_goto (tgt := 134) hx hb dX12_read_128 (by decide) ?_
                      cases hf
                      exact r_ci F hQ ⟨rfl, rfl⟩ hw dX12_read_134
        · have hf := o_f h3 hf
          refine lv_iload_n hx hb dX12_read_33 rfl (lv_at hl 0 rfl) ?_
          cases hf
          exact r_ci F hQ ⟨rfl, rfl⟩ hw dX12_read_34
  unfold f_X12_read at hf
  refine lv_aload_n hx hb dX12_read_0 rfl (lv_at hl 0 rfl) ?_
  refine lv_iconst (v := 0) hx hb dX12_read_1 (by decide) ?_
  refine w_put (ci := 12) (ws' := [ob aM 12 (oM rM v_halls v_bidders v_fall v_heard v_asks v_pageLength 0 v_newMany v_seedNow v_isKept v_keptHall v_keptHeard v_h), ba g (rM 14) 28 v_page]) F hK hw fb_X12 0 rfl rfl 15 (by decide) fl_X12_75 (fun _ h => h) rfl rfl rfl rfl (Nat.le_of_ble_eq_true rfl) rfl dX12_read_2 (fun H locs hw => ?_)
  have hP := hw.1
  refine lv_aload_n hx hb dX12_read_5 rfl (lv_at hl 0 rfl) ?_
  refine lv_iconst (v := 0) hx hb dX12_read_6 (by decide) ?_
  refine w_put (ci := 12) (ws' := [ob aM 12 (oM rM v_halls v_bidders v_fall v_heard v_asks v_pageLength 0 0 v_seedNow v_isKept v_keptHall v_keptHeard v_h), ba g (rM 14) 28 v_page]) F hK hw fb_X12 0 rfl rfl 16 (by decide) fl_X12_79 (fun _ h => h) rfl rfl rfl rfl (Nat.le_of_ble_eq_true rfl) rfl dX12_read_7 (fun H locs hw => ?_)
  have hP := hw.1
  refine lv_iconst (v := 0) hx hb dX12_read_10 (by decide) ?_
  refine lv_istore_n (lv' := [(1, .int 0), (0, .ref aM)]) hx hb dX12_read_11 rfl hl (by decide) rfl (fun ls hl => ?_)
  exact L12 _ 0 0 0 () hf _ _ ls hw (lv_sub hl [0, 1] rfl)
def f_X12_fault (v_isWhole : Int32) (v_newMany : Int32) (v_page : Nat → Int32) (v_pageLength : Int32) : Option (Int32 × Int32 × Int32) := ((f_X12_read v_isWhole v_newMany v_page v_pageLength).bind fun q1 => (some (q1.1, q1.2.1, q1.2.2)))
set_option maxRecDepth 100000 in
set_option maxHeartbeats 4000000 in
theorem c_X12_fault (l : Launch) (g : GG) (aM : Nat) (rM : Nat → Nat) (v_halls : Int32) (v_bidders : Int32) (v_fall : Int32) (v_heard : Int32) (v_asks : Int32) (v_pageLength : Int32) (v_isWhole : Int32) (v_newMany : Int32) (v_seedNow : Int64) (v_isKept : Int32) (v_keptHall : Int32) (v_keptHeard : Int32) (v_h : Int64) (v_page : Nat → Int32) {r0 : Int32} {r1 : Int32} {r2 : Int32} (hf : f_X12_fault v_isWhole v_newMany v_page v_pageLength = some (r0, r1, r2)) : MD l g yX12_fault cX12_fault 1 (some .int) 4 88 [.ref aM] [ob aM 12 (oM rM v_halls v_bidders v_fall v_heard v_asks v_pageLength v_isWhole v_newMany v_seedNow v_isKept v_keptHall v_keptHeard v_h), ba g (rM 14) 28 v_page] (some (.int r0)) [ob aM 12 (oM rM v_halls v_bidders v_fall v_heard v_asks v_pageLength r1 r2 v_seedNow v_isKept v_keptHall v_keptHeard v_h), ba g (rM 14) 28 v_page] := by
  refine MC.mk (by decide) (Nat.le_of_ble_eq_true rfl) ?_
  intro p e s m args below meth c ls Q A F hnm hK hw hA hl hQ
  have hP := hw.1
  have hx := F.1
  have hb := F.2.1
  have hml := F.2.2.2.1
  have hown := F.2.2.2.2.1
  have hts := F.2.2.2.2.2.1
  have hl : lv_has ls 1 [(0, .ref aM)] := hl
  unfold f_X12_fault at hf
  refine lv_aload_n hx hb dX12_fault_0 rfl (lv_at hl 0 rfl) ?_
  obtain ⟨q1, hq1, hf⟩ := o_bind hf
  refine k_dV (wr := []) (ws' := [ob aM 12 (oM rM v_halls v_bidders v_fall v_heard v_asks v_pageLength q1.2.1 q1.2.2 v_seedNow v_isKept v_keptHall v_keptHeard v_h), ba g (rM 14) 28 v_page]) F (c_X12_read l g aM rM v_halls v_bidders v_fall v_heard v_asks v_pageLength v_isWhole v_newMany v_seedNow v_isKept v_keptHall v_keptHeard v_h v_page hq1) qv_X12_read ml_X12_85 hw hA hK [0, 1] [] [0, 1] rfl rfl rfl rfl rfl (by decide) rfl rfl rfl (va_recv hK.1 hP (ci := 12) (q0 := 0) rfl rfl) rfl hl.1 rfl (Nat.le_of_ble_eq_true rfl) dX12_fault_1 ⟨(Nat.le_of_ble_eq_true rfl), (Nat.le_of_ble_eq_true rfl)⟩ ⟨(Nat.le_of_ble_eq_true rfl), (Nat.le_of_ble_eq_true rfl)⟩ (fun H locs hw => ?_)
  have hP := hw.1
  refine W.eq (g2 := F0 m 4 ls (.int q1.1 :: [])) rfl ?_
  cases hf
  exact r_ci F hQ ⟨rfl, rfl⟩ hw dX12_fault_4
def f_X12_hall_40 (fuel : Nat) (v_page : Nat → Int32) (y2 : Int32) (w_v_bidders : Int32) (w_v_choiceOf : Nat → Int32) (w_v_fall : Int32) (w_v_halls : Int32) (w_v_heard : Int32) (w_v_isWhole : Int32) (w_v_kindOf : Nat → Int32) (w_v_newMany : Int32) (w_v_pageLength : Int32) (w_v_sumOf : Nat → Int32) (w_v_touchedBy : Nat → Int32) (w_v_windOf : Nat → Int32) (w_v_wishOf : Nat → Int32) : Option (Int32 × Int32 × (Nat → Int32) × Int32 × Int32 × Int32 × Int32 × (Nat → Int32) × Int32 × Int32 × (Nat → Int32) × (Nat → Int32) × (Nat → Int32) × (Nat → Int32)) := match fuel with
  | 0 => none
  | k + 1 => (if w_v_bidders ≤ y2 then (some (y2, w_v_bidders, w_v_choiceOf, w_v_fall, w_v_halls, w_v_heard, w_v_isWhole, w_v_kindOf, w_v_newMany, w_v_pageLength, w_v_sumOf, w_v_touchedBy, w_v_windOf, w_v_wishOf)) else (if (5 * y2) < 0 ∨ 28 ≤ Int32.toNatClampNeg (5 * y2) then none else ((f_X12_kindBy (v_page (Int32.toNatClampNeg (5 * y2)))).bind fun q7 => (if y2 < 0 ∨ 5 ≤ Int32.toNatClampNeg y2 then none else (if ((5 * y2) + 1) < 0 ∨ 28 ≤ Int32.toNatClampNeg ((5 * y2) + 1) then none else (if ((5 * y2) + 2) < 0 ∨ 28 ≤ Int32.toNatClampNeg ((5 * y2) + 2) then none else (if ((5 * y2) + 3) < 0 ∨ 28 ≤ Int32.toNatClampNeg ((5 * y2) + 3) then none else (bnd (y2 + 1 : Int32) fun z12 => (f_X12_hall_40 k v_page z12 w_v_bidders (upd w_v_choiceOf (Int32.toNatClampNeg y2) (-1)) w_v_fall w_v_halls w_v_heard w_v_isWhole (upd w_v_kindOf (Int32.toNatClampNeg y2) q7) w_v_newMany w_v_pageLength (upd w_v_sumOf (Int32.toNatClampNeg y2) ((v_page (Int32.toNatClampNeg ((5 * y2) + 2))) - 48)) (upd w_v_touchedBy (Int32.toNatClampNeg y2) 0) (upd w_v_windOf (Int32.toNatClampNeg y2) ((v_page (Int32.toNatClampNeg ((5 * y2) + 1))) - 48)) (upd w_v_wishOf (Int32.toNatClampNeg y2) ((v_page (Int32.toNatClampNeg ((5 * y2) + 3))) - 48)))))))))))
def f_X12_hall (v_bidders : Int32) (v_choiceOf : Nat → Int32) (v_fall : Int32) (v_halls : Int32) (v_heard : Int32) (v_isWhole : Int32) (v_kindOf : Nat → Int32) (v_newMany : Int32) (v_page : Nat → Int32) (v_pageLength : Int32) (v_sumOf : Nat → Int32) (v_touchedBy : Nat → Int32) (v_windOf : Nat → Int32) (v_wishOf : Nat → Int32) : Option (Int32 × Int32 × (Nat → Int32) × Int32 × Int32 × Int32 × Int32 × (Nat → Int32) × Int32 × Int32 × (Nat → Int32) × (Nat → Int32) × (Nat → Int32) × (Nat → Int32)) := ((f_X12_read v_isWhole v_newMany v_page v_pageLength).bind fun q1 => (if q1.2.1 = 0 then (some ((-103), v_bidders, v_choiceOf, v_fall, v_halls, v_heard, q1.2.1, v_kindOf, q1.2.2, v_pageLength, v_sumOf, v_touchedBy, v_windOf, v_wishOf)) else (if (q1.1 - 1) < 0 ∨ 28 ≤ Int32.toNatClampNeg (q1.1 - 1) then none else (bnd ((v_page (Int32.toNatClampNeg (q1.1 - 1))) - 48) fun z4 => ((f_X12_hall_40 4096 v_page 0 q1.2.2 v_choiceOf z4 v_halls v_heard q1.2.1 v_kindOf q1.2.2 v_pageLength v_sumOf v_touchedBy v_windOf v_wishOf).bind fun q13 => (bnd (q13.2.2.2.2.1 + 1) fun z14 => (some (q13.2.1, q13.2.1, q13.2.2.1, q13.2.2.2.1, z14, 0, q13.2.2.2.2.2.2.1, q13.2.2.2.2.2.2.2.1, q13.2.2.2.2.2.2.2.2.1, 0, q13.2.2.2.2.2.2.2.2.2.2.1, q13.2.2.2.2.2.2.2.2.2.2.2.1, q13.2.2.2.2.2.2.2.2.2.2.2.2.1, q13.2.2.2.2.2.2.2.2.2.2.2.2.2))))))))
set_option maxRecDepth 100000 in
set_option maxHeartbeats 4000000 in
theorem c_X12_hall (l : Launch) (g : GG) (aM : Nat) (rM : Nat → Nat) (v_halls : Int32) (v_bidders : Int32) (v_fall : Int32) (v_heard : Int32) (v_asks : Int32) (v_pageLength : Int32) (v_isWhole : Int32) (v_newMany : Int32) (v_seedNow : Int64) (v_isKept : Int32) (v_keptHall : Int32) (v_keptHeard : Int32) (v_h : Int64) (v_choiceOf : Nat → Int32) (v_kindOf : Nat → Int32) (v_page : Nat → Int32) (v_sumOf : Nat → Int32) (v_touchedBy : Nat → Int32) (v_windOf : Nat → Int32) (v_wishOf : Nat → Int32) {r0 : Int32} {r1 : Int32} {r2 : Nat → Int32} {r3 : Int32} {r4 : Int32} {r5 : Int32} {r6 : Int32} {r7 : Nat → Int32} {r8 : Int32} {r9 : Int32} {r10 : Nat → Int32} {r11 : Nat → Int32} {r12 : Nat → Int32} {r13 : Nat → Int32} (hf : f_X12_hall v_bidders v_choiceOf v_fall v_halls v_heard v_isWhole v_kindOf v_newMany v_page v_pageLength v_sumOf v_touchedBy v_windOf v_wishOf = some (r0, r1, r2, r3, r4, r5, r6, r7, r8, r9, r10, r11, r12, r13)) : MD l g yX12_hall cX12_hall 3 (some .int) 4 88 [.ref aM] [ob aM 12 (oM rM v_halls v_bidders v_fall v_heard v_asks v_pageLength v_isWhole v_newMany v_seedNow v_isKept v_keptHall v_keptHeard v_h), ia g (rM 7) 5 v_choiceOf, ia g (rM 3) 5 v_kindOf, ba g (rM 14) 28 v_page, ia g (rM 5) 5 v_sumOf, ia g (rM 8) 5 v_touchedBy, ia g (rM 4) 5 v_windOf, ia g (rM 6) 5 v_wishOf] (some (.int r0)) [ob aM 12 (oM rM r4 r1 r3 r5 v_asks r9 r6 r8 v_seedNow v_isKept v_keptHall v_keptHeard v_h), ia g (rM 7) 5 r2, ia g (rM 3) 5 r7, ba g (rM 14) 28 v_page, ia g (rM 5) 5 r10, ia g (rM 8) 5 r11, ia g (rM 4) 5 r12, ia g (rM 6) 5 r13] := by
  refine MC.mk (by decide) (Nat.le_of_ble_eq_true rfl) ?_
  intro p e s m args below meth c ls Q A F hnm hK hw hA hl hQ
  have hP := hw.1
  have hx := F.1
  have hb := F.2.1
  have hml := F.2.2.2.1
  have hown := F.2.2.2.2.1
  have hts := F.2.2.2.2.2.1
  have hl : lv_has ls 3 [(0, .ref aM)] := hl
  have L40 : ∀ (k : Nat) (y2 : Int32) (w_v_bidders : Int32) (w_v_choiceOf : Nat → Int32) (w_v_fall : Int32) (w_v_halls : Int32) (w_v_heard : Int32) (w_v_isWhole : Int32) (w_v_kindOf : Nat → Int32) (w_v_newMany : Int32) (w_v_pageLength : Int32) (w_v_sumOf : Nat → Int32) (w_v_touchedBy : Nat → Int32) (w_v_windOf : Nat → Int32) (w_v_wishOf : Nat → Int32) (q : Int32 × Int32 × (Nat → Int32) × Int32 × Int32 × Int32 × Int32 × (Nat → Int32) × Int32 × Int32 × (Nat → Int32) × (Nat → Int32) × (Nat → Int32) × (Nat → Int32)), f_X12_hall_40 k v_page y2 w_v_bidders w_v_choiceOf w_v_fall w_v_halls w_v_heard w_v_isWhole w_v_kindOf w_v_newMany w_v_pageLength w_v_sumOf w_v_touchedBy w_v_windOf w_v_wishOf = some q → ∀ (H : Heap) (locs : List Loc) (ls : Array Slot), WD g A s.heap [ob aM 12 (oM rM w_v_halls w_v_bidders w_v_fall w_v_heard v_asks w_v_pageLength w_v_isWhole w_v_newMany v_seedNow v_isKept v_keptHall v_keptHeard v_h), ia g (rM 7) 5 w_v_choiceOf, ia g (rM 3) 5 w_v_kindOf, ba g (rM 14) 28 v_page, ia g (rM 5) 5 w_v_sumOf, ia g (rM 8) 5 w_v_touchedBy, ia g (rM 4) 5 w_v_windOf, ia g (rM 6) 5 w_v_wishOf] H locs → lv_has ls 3 [(2, .int y2), (0, .ref aM)] → (∀ (H : Heap) (locs : List Loc) (ls : Array Slot), WD g A s.heap [ob aM 12 (oM rM q.2.2.2.2.1 q.2.1 q.2.2.2.1 q.2.2.2.2.2.1 v_asks q.2.2.2.2.2.2.2.2.2.1 q.2.2.2.2.2.2.1 q.2.2.2.2.2.2.2.2.1 v_seedNow v_isKept v_keptHall v_keptHeard v_h), ia g (rM 7) 5 q.2.2.1, ia g (rM 3) 5 q.2.2.2.2.2.2.2.1, ba g (rM 14) 28 v_page, ia g (rM 5) 5 q.2.2.2.2.2.2.2.2.2.2.1, ia g (rM 8) 5 q.2.2.2.2.2.2.2.2.2.2.2.1, ia g (rM 4) 5 q.2.2.2.2.2.2.2.2.2.2.2.2.1, ia g (rM 6) 5 q.2.2.2.2.2.2.2.2.2.2.2.2.2] H locs → lv_has ls 3 [(2, .int q.1), (0, .ref aM)] → W p l e (rmc 4 0 0 88) s m args below meth c H locs 0 0 Q (F0 m 142 ls [])) → W p l e (rmc 4 0 0 88) s m args below meth c H locs 0 0 Q (F0 m 40 ls []) := by
    intro k
    induction k with
    | zero => intro y2 w_v_bidders w_v_choiceOf w_v_fall w_v_halls w_v_heard w_v_isWhole w_v_kindOf w_v_newMany w_v_pageLength w_v_sumOf w_v_touchedBy w_v_windOf w_v_wishOf q hf; rw [f_X12_hall_40] at hf; cases hf
    | succ k ih =>
      intro y2 w_v_bidders w_v_choiceOf w_v_fall w_v_halls w_v_heard w_v_isWhole w_v_kindOf w_v_newMany w_v_pageLength w_v_sumOf w_v_touchedBy w_v_windOf w_v_wishOf q hf H locs ls hw hl kx
      rw [f_X12_hall_40] at hf
      have hP := hw.1
      refine lv_iload_n hx hb dX12_hall_40 rfl (lv_at hl 0 rfl) ?_
      refine lv_aload_n hx hb dX12_hall_41 rfl (lv_at hl 1 rfl) ?_
      refine w_get (ci := 12) F hK hP fb_X12 0 rfl rfl 1 (by decide) fl_X12_89 (fun _ h => h) rfl dX12_hall_42 ?_
      refine lv_icmp_ge (tgt := 142) hx hb dX12_hall_45 (by decide) (fun h5 => ?_) (fun h5 => ?_)
      · have hf := o_t h5 hf
        cases hf
        exact kx _ _ ls hw (lv_sub hl [0, 1] rfl)
      · have hf := o_f h5 hf
        refine lv_aload_n hx hb dX12_hall_48 rfl (lv_at hl 1 rfl) ?_
        refine w_get (ci := 12) F hK hP fb_X12 0 rfl rfl 3 (by decide) fl_X12_7 (fun _ h => h) rfl dX12_hall_49 ?_
        refine lv_iload_n hx hb dX12_hall_52 rfl (lv_at hl 0 rfl) ?_
        refine lv_aload_n hx hb dX12_hall_53 rfl (lv_at hl 1 rfl) ?_
        refine w_get (ci := 12) F hK hP fb_X12 0 rfl rfl 14 (by decide) fl_X12_34 (fun _ h => h) rfl dX12_hall_54 ?_
        refine lv_iconst (v := 5) hx hb dX12_hall_57 (by decide) ?_
        refine lv_iload_n hx hb dX12_hall_58 rfl (lv_at hl 0 rfl) ?_
        refine lv_imul hx hb dX12_hall_59 ?_
        obtain ⟨h6, hf⟩ := o_chk hf
        refine w_bald F hK hP 3 rfl h6 dX12_hall_60 ?_
        obtain ⟨q7, hq7, hf⟩ := o_bind hf
        refine k_rS F (c_X12_kindBy l g (v_page (Int32.toNatClampNeg (5 * y2))) hq7) qs_X12_kindBy ml_X12_67 (hP.sub [] rfl) hK rfl hl.1 rfl (Nat.le_of_ble_eq_true rfl) dX12_hall_61 ⟨(Nat.le_of_ble_eq_true rfl), (Nat.le_of_ble_eq_true rfl)⟩ ⟨(Nat.le_of_ble_eq_true rfl), (Nat.le_of_ble_eq_true rfl)⟩ ?_
        refine W.eq (g2 := F0 m 64 ls (.int q7 :: [.int y2, .ref (rM 3)])) rfl ?_
        obtain ⟨h8, hf⟩ := o_chk hf
        refine w_iast (ws' := [ob aM 12 (oM rM w_v_halls w_v_bidders w_v_fall w_v_heard v_asks w_v_pageLength w_v_isWhole w_v_newMany v_seedNow v_isKept v_keptHall v_keptHeard v_h), ia g (rM 7) 5 w_v_choiceOf, ia g (rM 3) 5 (upd w_v_kindOf (Int32.toNatClampNeg y2) q7), ba g (rM 14) 28 v_page, ia g (rM 5) 5 w_v_sumOf, ia g (rM 8) 5 w_v_touchedBy, ia g (rM 4) 5 w_v_windOf, ia g (rM 6) 5 w_v_wishOf]) F hK hw 2 rfl h8 rfl dX12_hall_64 (fun H locs hw => ?_)
        have hP := hw.1
        refine lv_aload_n hx hb dX12_hall_65 rfl (lv_at hl 1 rfl) ?_
        refine w_get (ci := 12) F hK hP fb_X12 0 rfl rfl 4 (by decide) fl_X12_13 (fun _ h => h) rfl dX12_hall_66 ?_
        refine lv_iload_n hx hb dX12_hall_69 rfl (lv_at hl 0 rfl) ?_
        refine lv_aload_n hx hb dX12_hall_70 rfl (lv_at hl 1 rfl) ?_
        refine w_get (ci := 12) F hK hP fb_X12 0 rfl rfl 14 (by decide) fl_X12_34 (fun _ h => h) rfl dX12_hall_71 ?_
        refine lv_iconst (v := 5) hx hb dX12_hall_74 (by decide) ?_
        refine lv_iload_n hx hb dX12_hall_75 rfl (lv_at hl 0 rfl) ?_
        refine lv_imul hx hb dX12_hall_76 ?_
        refine lv_iconst (v := 1) hx hb dX12_hall_77 (by decide) ?_
        refine lv_iadd hx hb dX12_hall_78 ?_
        obtain ⟨h9, hf⟩ := o_chk hf
        refine w_bald F hK hP 3 rfl h9 dX12_hall_79 ?_
        refine lv_bipush (v := 48) hx hb dX12_hall_80 (by decide) ?_
        refine lv_isub hx hb dX12_hall_82 ?_
        refine w_iast (ws' := [ob aM 12 (oM rM w_v_halls w_v_bidders w_v_fall w_v_heard v_asks w_v_pageLength w_v_isWhole w_v_newMany v_seedNow v_isKept v_keptHall v_keptHeard v_h), ia g (rM 7) 5 w_v_choiceOf, ia g (rM 3) 5 (upd w_v_kindOf (Int32.toNatClampNeg y2) q7), ba g (rM 14) 28 v_page, ia g (rM 5) 5 w_v_sumOf, ia g (rM 8) 5 w_v_touchedBy, ia g (rM 4) 5 (upd w_v_windOf (Int32.toNatClampNeg y2) ((v_page (Int32.toNatClampNeg ((5 * y2) + 1))) - 48)), ia g (rM 6) 5 w_v_wishOf]) F hK hw 6 rfl h8 rfl dX12_hall_83 (fun H locs hw => ?_)
        have hP := hw.1
        refine lv_aload_n hx hb dX12_hall_84 rfl (lv_at hl 1 rfl) ?_
        refine w_get (ci := 12) F hK hP fb_X12 0 rfl rfl 5 (by decide) fl_X12_16 (fun _ h => h) rfl dX12_hall_85 ?_
        refine lv_iload_n hx hb dX12_hall_88 rfl (lv_at hl 0 rfl) ?_
        refine lv_aload_n hx hb dX12_hall_89 rfl (lv_at hl 1 rfl) ?_
        refine w_get (ci := 12) F hK hP fb_X12 0 rfl rfl 14 (by decide) fl_X12_34 (fun _ h => h) rfl dX12_hall_90 ?_
        refine lv_iconst (v := 5) hx hb dX12_hall_93 (by decide) ?_
        refine lv_iload_n hx hb dX12_hall_94 rfl (lv_at hl 0 rfl) ?_
        refine lv_imul hx hb dX12_hall_95 ?_
        refine lv_iconst (v := 2) hx hb dX12_hall_96 (by decide) ?_
        refine lv_iadd hx hb dX12_hall_97 ?_
        obtain ⟨h10, hf⟩ := o_chk hf
        refine w_bald F hK hP 3 rfl h10 dX12_hall_98 ?_
        refine lv_bipush (v := 48) hx hb dX12_hall_99 (by decide) ?_
        refine lv_isub hx hb dX12_hall_101 ?_
        refine w_iast (ws' := [ob aM 12 (oM rM w_v_halls w_v_bidders w_v_fall w_v_heard v_asks w_v_pageLength w_v_isWhole w_v_newMany v_seedNow v_isKept v_keptHall v_keptHeard v_h), ia g (rM 7) 5 w_v_choiceOf, ia g (rM 3) 5 (upd w_v_kindOf (Int32.toNatClampNeg y2) q7), ba g (rM 14) 28 v_page, ia g (rM 5) 5 (upd w_v_sumOf (Int32.toNatClampNeg y2) ((v_page (Int32.toNatClampNeg ((5 * y2) + 2))) - 48)), ia g (rM 8) 5 w_v_touchedBy, ia g (rM 4) 5 (upd w_v_windOf (Int32.toNatClampNeg y2) ((v_page (Int32.toNatClampNeg ((5 * y2) + 1))) - 48)), ia g (rM 6) 5 w_v_wishOf]) F hK hw 4 rfl h8 rfl dX12_hall_102 (fun H locs hw => ?_)
        have hP := hw.1
        refine lv_aload_n hx hb dX12_hall_103 rfl (lv_at hl 1 rfl) ?_
        refine w_get (ci := 12) F hK hP fb_X12 0 rfl rfl 6 (by decide) fl_X12_19 (fun _ h => h) rfl dX12_hall_104 ?_
        refine lv_iload_n hx hb dX12_hall_107 rfl (lv_at hl 0 rfl) ?_
        refine lv_aload_n hx hb dX12_hall_108 rfl (lv_at hl 1 rfl) ?_
        refine w_get (ci := 12) F hK hP fb_X12 0 rfl rfl 14 (by decide) fl_X12_34 (fun _ h => h) rfl dX12_hall_109 ?_
        refine lv_iconst (v := 5) hx hb dX12_hall_112 (by decide) ?_
        refine lv_iload_n hx hb dX12_hall_113 rfl (lv_at hl 0 rfl) ?_
        refine lv_imul hx hb dX12_hall_114 ?_
        refine lv_iconst (v := 3) hx hb dX12_hall_115 (by decide) ?_
        refine lv_iadd hx hb dX12_hall_116 ?_
        obtain ⟨h11, hf⟩ := o_chk hf
        refine w_bald F hK hP 3 rfl h11 dX12_hall_117 ?_
        refine lv_bipush (v := 48) hx hb dX12_hall_118 (by decide) ?_
        refine lv_isub hx hb dX12_hall_120 ?_
        refine w_iast (ws' := [ob aM 12 (oM rM w_v_halls w_v_bidders w_v_fall w_v_heard v_asks w_v_pageLength w_v_isWhole w_v_newMany v_seedNow v_isKept v_keptHall v_keptHeard v_h), ia g (rM 7) 5 w_v_choiceOf, ia g (rM 3) 5 (upd w_v_kindOf (Int32.toNatClampNeg y2) q7), ba g (rM 14) 28 v_page, ia g (rM 5) 5 (upd w_v_sumOf (Int32.toNatClampNeg y2) ((v_page (Int32.toNatClampNeg ((5 * y2) + 2))) - 48)), ia g (rM 8) 5 w_v_touchedBy, ia g (rM 4) 5 (upd w_v_windOf (Int32.toNatClampNeg y2) ((v_page (Int32.toNatClampNeg ((5 * y2) + 1))) - 48)), ia g (rM 6) 5 (upd w_v_wishOf (Int32.toNatClampNeg y2) ((v_page (Int32.toNatClampNeg ((5 * y2) + 3))) - 48))]) F hK hw 7 rfl h8 rfl dX12_hall_121 (fun H locs hw => ?_)
        have hP := hw.1
        refine lv_aload_n hx hb dX12_hall_122 rfl (lv_at hl 1 rfl) ?_
        refine w_get (ci := 12) F hK hP fb_X12 0 rfl rfl 7 (by decide) fl_X12_22 (fun _ h => h) rfl dX12_hall_123 ?_
        refine lv_iload_n hx hb dX12_hall_126 rfl (lv_at hl 0 rfl) ?_
        refine lv_iconst (v := (-1)) hx hb dX12_hall_127 (by decide) ?_
        refine w_iast (ws' := [ob aM 12 (oM rM w_v_halls w_v_bidders w_v_fall w_v_heard v_asks w_v_pageLength w_v_isWhole w_v_newMany v_seedNow v_isKept v_keptHall v_keptHeard v_h), ia g (rM 7) 5 (upd w_v_choiceOf (Int32.toNatClampNeg y2) (-1)), ia g (rM 3) 5 (upd w_v_kindOf (Int32.toNatClampNeg y2) q7), ba g (rM 14) 28 v_page, ia g (rM 5) 5 (upd w_v_sumOf (Int32.toNatClampNeg y2) ((v_page (Int32.toNatClampNeg ((5 * y2) + 2))) - 48)), ia g (rM 8) 5 w_v_touchedBy, ia g (rM 4) 5 (upd w_v_windOf (Int32.toNatClampNeg y2) ((v_page (Int32.toNatClampNeg ((5 * y2) + 1))) - 48)), ia g (rM 6) 5 (upd w_v_wishOf (Int32.toNatClampNeg y2) ((v_page (Int32.toNatClampNeg ((5 * y2) + 3))) - 48))]) F hK hw 1 rfl h8 rfl dX12_hall_128 (fun H locs hw => ?_)
        have hP := hw.1
        refine lv_aload_n hx hb dX12_hall_129 rfl (lv_at hl 1 rfl) ?_
        refine w_get (ci := 12) F hK hP fb_X12 0 rfl rfl 8 (by decide) fl_X12_25 (fun _ h => h) rfl dX12_hall_130 ?_
        refine lv_iload_n hx hb dX12_hall_133 rfl (lv_at hl 0 rfl) ?_
        refine lv_iconst (v := 0) hx hb dX12_hall_134 (by decide) ?_
        refine w_iast (ws' := [ob aM 12 (oM rM w_v_halls w_v_bidders w_v_fall w_v_heard v_asks w_v_pageLength w_v_isWhole w_v_newMany v_seedNow v_isKept v_keptHall v_keptHeard v_h), ia g (rM 7) 5 (upd w_v_choiceOf (Int32.toNatClampNeg y2) (-1)), ia g (rM 3) 5 (upd w_v_kindOf (Int32.toNatClampNeg y2) q7), ba g (rM 14) 28 v_page, ia g (rM 5) 5 (upd w_v_sumOf (Int32.toNatClampNeg y2) ((v_page (Int32.toNatClampNeg ((5 * y2) + 2))) - 48)), ia g (rM 8) 5 (upd w_v_touchedBy (Int32.toNatClampNeg y2) 0), ia g (rM 4) 5 (upd w_v_windOf (Int32.toNatClampNeg y2) ((v_page (Int32.toNatClampNeg ((5 * y2) + 1))) - 48)), ia g (rM 6) 5 (upd w_v_wishOf (Int32.toNatClampNeg y2) ((v_page (Int32.toNatClampNeg ((5 * y2) + 3))) - 48))]) F hK hw 5 rfl h8 rfl dX12_hall_135 (fun H locs hw => ?_)
        have hP := hw.1
        obtain ⟨z12, ez12⟩ : ∃ y : Int32, y = y2 + 1 := ⟨_, rfl⟩
        have hf := o_bnd ez12 hf
        refine lv_iinc (v := z12) (lv' := [(2, .int z12), (0, .ref aM)]) hx hb dX12_hall_136 hl (k := 0) rfl (by rw [ez12]; rfl) (by decide) rfl (fun ls hl => ?_)
        refine lv_goto (tgt := 40) hx hb dX12_hall_139 (by decide) ?_
        exact ih z12 w_v_bidders (upd w_v_choiceOf (Int32.toNatClampNeg y2) (-1)) w_v_fall w_v_halls w_v_heard w_v_isWhole (upd w_v_kindOf (Int32.toNatClampNeg y2) q7) w_v_newMany w_v_pageLength (upd w_v_sumOf (Int32.toNatClampNeg y2) ((v_page (Int32.toNatClampNeg ((5 * y2) + 2))) - 48)) (upd w_v_touchedBy (Int32.toNatClampNeg y2) 0) (upd w_v_windOf (Int32.toNatClampNeg y2) ((v_page (Int32.toNatClampNeg ((5 * y2) + 1))) - 48)) (upd w_v_wishOf (Int32.toNatClampNeg y2) ((v_page (Int32.toNatClampNeg ((5 * y2) + 3))) - 48)) _ hf _ _ ls hw (lv_sub hl [0, 1] rfl) kx
  unfold f_X12_hall at hf
  refine lv_aload_n hx hb dX12_hall_0 rfl (lv_at hl 0 rfl) ?_
  obtain ⟨q1, hq1, hf⟩ := o_bind hf
  refine k_dV (wr := [ia g (rM 7) 5 v_choiceOf, ia g (rM 3) 5 v_kindOf, ia g (rM 5) 5 v_sumOf, ia g (rM 8) 5 v_touchedBy, ia g (rM 4) 5 v_windOf, ia g (rM 6) 5 v_wishOf]) (ws' := [ob aM 12 (oM rM v_halls v_bidders v_fall v_heard v_asks v_pageLength q1.2.1 q1.2.2 v_seedNow v_isKept v_keptHall v_keptHeard v_h), ia g (rM 7) 5 v_choiceOf, ia g (rM 3) 5 v_kindOf, ba g (rM 14) 28 v_page, ia g (rM 5) 5 v_sumOf, ia g (rM 8) 5 v_touchedBy, ia g (rM 4) 5 v_windOf, ia g (rM 6) 5 v_wishOf]) F (c_X12_read l g aM rM v_halls v_bidders v_fall v_heard v_asks v_pageLength v_isWhole v_newMany v_seedNow v_isKept v_keptHall v_keptHeard v_h v_page hq1) qv_X12_read ml_X12_85 hw hA hK [0, 3] [1, 2, 4, 5, 6, 7] [6, 0, 1, 7, 2, 3, 4, 5] rfl rfl rfl rfl rfl (by decide) rfl rfl rfl (va_recv hK.1 hP (ci := 12) (q0 := 0) rfl rfl) rfl hl.1 rfl (Nat.le_of_ble_eq_true rfl) dX12_hall_1 ⟨(Nat.le_of_ble_eq_true rfl), (Nat.le_of_ble_eq_true rfl)⟩ ⟨(Nat.le_of_ble_eq_true rfl), (Nat.le_of_ble_eq_true rfl)⟩ (fun H locs hw => ?_)
  have hP := hw.1
  refine W.eq (g2 := F0 m 4 ls (.int q1.1 :: [])) rfl ?_
  refine lv_istore_n (lv' := [(1, .int q1.1), (0, .ref aM)]) hx hb dX12_hall_4 rfl hl (by decide) rfl (fun ls hl => ?_)
  refine lv_aload_n hx hb dX12_hall_5 rfl (lv_at hl 1 rfl) ?_
  refine w_get (ci := 12) F hK hP fb_X12 0 rfl rfl 15 (by decide) fl_X12_75 (fun _ h => h) rfl dX12_hall_6 ?_
  refine lv_if_ne (tgt := 15) hx hb dX12_hall_9 (by decide) (fun h2 => ?_) (fun h2 => ?_)
  · have hf := o_f h2 hf
    refine lv_aload_n hx hb dX12_hall_15 rfl (lv_at hl 1 rfl) ?_
    refine lv_aload_n hx hb dX12_hall_16 rfl (lv_at hl 1 rfl) ?_
    refine w_get (ci := 12) F hK hP fb_X12 0 rfl rfl 16 (by decide) fl_X12_79 (fun _ h => h) rfl dX12_hall_17 ?_
    refine w_put (ci := 12) (ws' := [ob aM 12 (oM rM v_halls q1.2.2 v_fall v_heard v_asks v_pageLength q1.2.1 q1.2.2 v_seedNow v_isKept v_keptHall v_keptHeard v_h), ia g (rM 7) 5 v_choiceOf, ia g (rM 3) 5 v_kindOf, ba g (rM 14) 28 v_page, ia g (rM 5) 5 v_sumOf, ia g (rM 8) 5 v_touchedBy, ia g (rM 4) 5 v_windOf, ia g (rM 6) 5 v_wishOf]) F hK hw fb_X12 0 rfl rfl 1 (by decide) fl_X12_89 (fun _ h => h) rfl rfl rfl rfl (Nat.le_of_ble_eq_true rfl) rfl dX12_hall_20 (fun H locs hw => ?_)
    have hP := hw.1
    refine lv_aload_n hx hb dX12_hall_23 rfl (lv_at hl 1 rfl) ?_
    refine lv_aload_n hx hb dX12_hall_24 rfl (lv_at hl 1 rfl) ?_
    refine w_get (ci := 12) F hK hP fb_X12 0 rfl rfl 14 (by decide) fl_X12_34 (fun _ h => h) rfl dX12_hall_25 ?_
    refine lv_iload_n hx hb dX12_hall_28 rfl (lv_at hl 0 rfl) ?_
    refine lv_iconst (v := 1) hx hb dX12_hall_29 (by decide) ?_
    refine lv_isub hx hb dX12_hall_30 ?_
    obtain ⟨h3, hf⟩ := o_chk hf
    refine w_bald F hK hP 3 rfl h3 dX12_hall_31 ?_
    refine lv_bipush (v := 48) hx hb dX12_hall_32 (by decide) ?_
    refine lv_isub hx hb dX12_hall_34 ?_
    refine lv_topi (fun z4 ez4 => ?_)
    have hf := o_bnd ez4 hf
    refine w_put (ci := 12) (ws' := [ob aM 12 (oM rM v_halls q1.2.2 z4 v_heard v_asks v_pageLength q1.2.1 q1.2.2 v_seedNow v_isKept v_keptHall v_keptHeard v_h), ia g (rM 7) 5 v_choiceOf, ia g (rM 3) 5 v_kindOf, ba g (rM 14) 28 v_page, ia g (rM 5) 5 v_sumOf, ia g (rM 8) 5 v_touchedBy, ia g (rM 4) 5 v_windOf, ia g (rM 6) 5 v_wishOf]) F hK hw fb_X12 0 rfl rfl 2 (by decide) fl_X12_92 (fun _ h => h) rfl rfl rfl rfl (Nat.le_of_ble_eq_true rfl) rfl dX12_hall_35 (fun H locs hw => ?_)
    have hP := hw.1
    refine lv_iconst (v := 0) hx hb dX12_hall_38 (by decide) ?_
    refine lv_istore_n (lv' := [(2, .int 0), (1, .int q1.1), (0, .ref aM)]) hx hb dX12_hall_39 rfl hl (by decide) rfl (fun ls hl => ?_)
    obtain ⟨q13, hq13, hf⟩ := o_bind hf
    refine L40 _ 0 q1.2.2 v_choiceOf z4 v_halls v_heard q1.2.1 v_kindOf q1.2.2 v_pageLength v_sumOf v_touchedBy v_windOf v_wishOf _ hq13 _ _ ls hw (lv_sub hl [0, 2] rfl) (fun H locs ls hw hl => ?_)
    have hP := hw.1
    refine lv_aload_n hx hb dX12_hall_142 rfl (lv_at hl 1 rfl) ?_
    refine lv_dup hx hb dX12_hall_143 rfl ?_
    refine w_get (ci := 12) F hK hP fb_X12 0 rfl rfl 0 (by decide) fl_X12_95 (fun _ h => h) rfl dX12_hall_144 ?_
    refine lv_iconst (v := 1) hx hb dX12_hall_147 (by decide) ?_
    refine lv_iadd hx hb dX12_hall_148 ?_
    refine lv_topi (fun z14 ez14 => ?_)
    have hf := o_bnd ez14 hf
    refine w_put (ci := 12) (ws' := [ob aM 12 (oM rM z14 q13.2.1 q13.2.2.2.1 q13.2.2.2.2.2.1 v_asks q13.2.2.2.2.2.2.2.2.2.1 q13.2.2.2.2.2.2.1 q13.2.2.2.2.2.2.2.2.1 v_seedNow v_isKept v_keptHall v_keptHeard v_h), ia g (rM 7) 5 q13.2.2.1, ia g (rM 3) 5 q13.2.2.2.2.2.2.2.1, ba g (rM 14) 28 v_page, ia g (rM 5) 5 q13.2.2.2.2.2.2.2.2.2.2.1, ia g (rM 8) 5 q13.2.2.2.2.2.2.2.2.2.2.2.1, ia g (rM 4) 5 q13.2.2.2.2.2.2.2.2.2.2.2.2.1, ia g (rM 6) 5 q13.2.2.2.2.2.2.2.2.2.2.2.2.2]) F hK hw fb_X12 0 rfl rfl 0 (by decide) fl_X12_95 (fun _ h => h) rfl rfl rfl rfl (Nat.le_of_ble_eq_true rfl) rfl dX12_hall_149 (fun H locs hw => ?_)
    have hP := hw.1
    refine lv_aload_n hx hb dX12_hall_152 rfl (lv_at hl 1 rfl) ?_
    refine lv_iconst (v := 0) hx hb dX12_hall_153 (by decide) ?_
    refine w_put (ci := 12) (ws' := [ob aM 12 (oM rM z14 q13.2.1 q13.2.2.2.1 0 v_asks q13.2.2.2.2.2.2.2.2.2.1 q13.2.2.2.2.2.2.1 q13.2.2.2.2.2.2.2.2.1 v_seedNow v_isKept v_keptHall v_keptHeard v_h), ia g (rM 7) 5 q13.2.2.1, ia g (rM 3) 5 q13.2.2.2.2.2.2.2.1, ba g (rM 14) 28 v_page, ia g (rM 5) 5 q13.2.2.2.2.2.2.2.2.2.2.1, ia g (rM 8) 5 q13.2.2.2.2.2.2.2.2.2.2.2.1, ia g (rM 4) 5 q13.2.2.2.2.2.2.2.2.2.2.2.2.1, ia g (rM 6) 5 q13.2.2.2.2.2.2.2.2.2.2.2.2.2]) F hK hw fb_X12 0 rfl rfl 9 (by decide) fl_X12_98 (fun _ h => h) rfl rfl rfl rfl (Nat.le_of_ble_eq_true rfl) rfl dX12_hall_154 (fun H locs hw => ?_)
    have hP := hw.1
    refine lv_aload_n hx hb dX12_hall_157 rfl (lv_at hl 1 rfl) ?_
    refine lv_iconst (v := 0) hx hb dX12_hall_158 (by decide) ?_
    refine w_put (ci := 12) (ws' := [ob aM 12 (oM rM z14 q13.2.1 q13.2.2.2.1 0 v_asks 0 q13.2.2.2.2.2.2.1 q13.2.2.2.2.2.2.2.2.1 v_seedNow v_isKept v_keptHall v_keptHeard v_h), ia g (rM 7) 5 q13.2.2.1, ia g (rM 3) 5 q13.2.2.2.2.2.2.2.1, ba g (rM 14) 28 v_page, ia g (rM 5) 5 q13.2.2.2.2.2.2.2.2.2.2.1, ia g (rM 8) 5 q13.2.2.2.2.2.2.2.2.2.2.2.1, ia g (rM 4) 5 q13.2.2.2.2.2.2.2.2.2.2.2.2.1, ia g (rM 6) 5 q13.2.2.2.2.2.2.2.2.2.2.2.2.2]) F hK hw fb_X12 0 rfl rfl 13 (by decide) fl_X12_63 (fun _ h => h) rfl rfl rfl rfl (Nat.le_of_ble_eq_true rfl) rfl dX12_hall_159 (fun H locs hw => ?_)
    have hP := hw.1
    refine lv_aload_n hx hb dX12_hall_162 rfl (lv_at hl 1 rfl) ?_
    refine w_get (ci := 12) F hK hP fb_X12 0 rfl rfl 1 (by decide) fl_X12_89 (fun _ h => h) rfl dX12_hall_163 ?_
    cases hf
    exact r_ci F hQ ⟨rfl, rfl⟩ hw dX12_hall_166
  · have hf := o_t h2 hf
    refine lv_bipush (v := (-103)) hx hb dX12_hall_12 (by decide) ?_
    cases hf
    exact r_ci F hQ ⟨rfl, rfl⟩ hw dX12_hall_14
