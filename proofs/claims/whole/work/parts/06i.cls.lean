def f_X11_restore (b_ch : Nat → Int32) (b_tc : Nat → Int32) (b_wd : Nat → Int32) (v_hall_size : Int32) (v_hallsRead : Int32) (v_heard_bidders : Nat → Int32) (v_heard_breaths : Nat → Int32) (v_heard_size : Int32) (v_image_choices : Nat → Int32) (v_image_hallNumber : Int32) (v_image_heard_bidders : Nat → Int32) (v_image_heard_breaths : Nat → Int32) (v_image_heard_size : Int32) (v_image_touchers : Nat → Int32) (v_image_winds : Nat → Int32) : Option (Int32 × (Nat → Int32) × (Nat → Int32) × (Nat → Int32) × (Nat → Int32) × (Nat → Int32) × Int32) := ((f_X6_isOf v_hallsRead v_image_hallNumber).bind fun q1 => (if q1 = 0 then (some ((-103), b_ch, b_tc, b_wd, v_heard_bidders, v_heard_breaths, v_heard_size)) else ((f_X6_giveBack b_ch b_tc b_wd v_image_choices v_image_heard_bidders v_image_heard_breaths v_image_heard_size v_hall_size v_heard_bidders v_heard_breaths v_heard_size v_image_touchers v_image_winds).bind fun q3 => (some (v_hall_size, q3.1, q3.2.1, q3.2.2.1, q3.2.2.2.1, q3.2.2.2.2.1, q3.2.2.2.2.2)))))
set_option maxRecDepth 100000 in
set_option maxHeartbeats 4000000 in
theorem c_X11_restore (l : Launch) (g : GG) (a_this : Nat) (a_this_page : Nat) (a_this_hall : Nat) (a_this_course : Nat) (a_this_heard : Nat) (a_this_image : Nat) (a_this_rests : Nat) (a_this_hall_seats : Nat) (a_this_heard_bidders : Nat) (a_this_heard_breaths : Nat) (a_this_image_winds : Nat) (a_this_image_choices : Nat) (a_this_image_touchers : Nat) (a_this_image_heard : Nat) (a_this_image_heard_bidders : Nat) (a_this_image_heard_breaths : Nat) (sa : Nat → Nat) (v_hallsRead : Int32) (v_restsDone : Int32) (v_hall_size : Int32) (v_hall_fall : Int32) (v_heard_size : Int32) (v_heard_bidders : Nat → Int32) (v_heard_breaths : Nat → Int32) (v_image_hallNumber : Int32) (v_image_choices : Nat → Int32) (v_image_heard_size : Int32) (v_image_heard_bidders : Nat → Int32) (v_image_heard_breaths : Nat → Int32) (v_image_touchers : Nat → Int32) (v_image_winds : Nat → Int32) (b_K : Nat → Nat) (b_su : Nat → Int32) (b_wi : Nat → Int32) (b_wd : Nat → Int32) (b_ch : Nat → Int32) (b_tc : Nat → Int32) (hK5 : ∀ i, b_K i < 5) {r0 : Int32} {r1 : Nat → Int32} {r2 : Nat → Int32} {r3 : Nat → Int32} {r4 : Nat → Int32} {r5 : Nat → Int32} {r6 : Int32} (hf : f_X11_restore b_ch b_tc b_wd v_hall_size v_hallsRead v_heard_bidders v_heard_breaths v_heard_size v_image_choices v_image_hallNumber v_image_heard_bidders v_image_heard_breaths v_image_heard_size v_image_touchers v_image_winds = some (r0, r1, r2, r3, r4, r5, r6)) : MD l g yX11_restore cX11_restore 1 (some .int) 2 45 [.ref a_this] ([ob a_this 11 [.ref a_this_page, .ref a_this_hall, .ref a_this_course, .ref a_this_heard, .ref a_this_image, .ref a_this_rests, .int v_hallsRead, .int v_restsDone], ob a_this_hall 6 [.ref a_this_hall_seats, .int v_hall_size, .int v_hall_fall], ra g a_this_hall_seats 5 (fun i => some (sa i)), ob a_this_heard 8 [.ref a_this_heard_bidders, .ref a_this_heard_breaths, .int v_heard_size], ia g a_this_heard_bidders 8 v_heard_bidders, ia g a_this_heard_breaths 8 v_heard_breaths, ob a_this_image 9 [.ref a_this_image_winds, .ref a_this_image_choices, .ref a_this_image_touchers, .ref a_this_image_heard, .int v_image_hallNumber], ia g a_this_image_choices 5 v_image_choices, ob a_this_image_heard 8 [.ref a_this_image_heard_bidders, .ref a_this_image_heard_breaths, .int v_image_heard_size], ia g a_this_image_heard_bidders 8 v_image_heard_bidders, ia g a_this_image_heard_breaths 8 v_image_heard_breaths, ia g a_this_image_touchers 5 v_image_touchers, ia g a_this_image_winds 5 v_image_winds] ++ swl sa b_K b_su b_wi b_wd b_ch b_tc) (some (.int r0)) ([ob a_this 11 [.ref a_this_page, .ref a_this_hall, .ref a_this_course, .ref a_this_heard, .ref a_this_image, .ref a_this_rests, .int v_hallsRead, .int v_restsDone], ob a_this_hall 6 [.ref a_this_hall_seats, .int v_hall_size, .int v_hall_fall], ra g a_this_hall_seats 5 (fun i => some (sa i)), ob a_this_heard 8 [.ref a_this_heard_bidders, .ref a_this_heard_breaths, .int r6], ia g a_this_heard_bidders 8 r4, ia g a_this_heard_breaths 8 r5, ob a_this_image 9 [.ref a_this_image_winds, .ref a_this_image_choices, .ref a_this_image_touchers, .ref a_this_image_heard, .int v_image_hallNumber], ia g a_this_image_choices 5 v_image_choices, ob a_this_image_heard 8 [.ref a_this_image_heard_bidders, .ref a_this_image_heard_breaths, .int v_image_heard_size], ia g a_this_image_heard_bidders 8 v_image_heard_bidders, ia g a_this_image_heard_breaths 8 v_image_heard_breaths, ia g a_this_image_touchers 5 v_image_touchers, ia g a_this_image_winds 5 v_image_winds] ++ swl sa b_K b_su b_wi r3 r1 r2) := by
  refine MC.mk (by decide) (Nat.le_of_ble_eq_true rfl) ?_
  intro p e s m args below meth c ls Q A F hnm hK hw hA hl hQ
  have hP := hw.1
  have hx := F.1
  have hb := F.2.1
  have hml := F.2.2.2.1
  have hown := F.2.2.2.2.1
  have hts := F.2.2.2.2.2.1
  have hl : lv_has ls 1 [(0, .ref a_this)] := hl
  unfold f_X11_restore at hf
  refine lv_aload_n hx hb dX11_restore_0 rfl (lv_at hl 0 rfl) ?_
  refine w_get (ci := 11) F hK hP fb_X11 0 rfl rfl 4 (by decide) fl_X11_38 (fun _ h => h) rfl dX11_restore_1 ?_
  refine lv_aload_n hx hb dX11_restore_4 rfl (lv_at hl 0 rfl) ?_
  refine w_get (ci := 11) F hK hP fb_X11 0 rfl rfl 6 (by decide) fl_X11_75 (fun _ h => h) rfl dX11_restore_5 ?_
  obtain ⟨q1, hq1, hf⟩ := o_bind hf
  refine k_rV F (c_X6_isOf l g a_this_image a_this_image_winds a_this_image_choices a_this_image_touchers a_this_image_heard v_hallsRead v_image_hallNumber hq1) qv_X6_isOf ml_X11_207 (hP.sub [6] rfl) hK (va_recv hK.1 hP (ci := 9) (q0 := 6) rfl rfl) rfl hl.1 rfl (Nat.le_of_ble_eq_true rfl) dX11_restore_8 ⟨(Nat.le_of_ble_eq_true rfl), (Nat.le_of_ble_eq_true rfl)⟩ ⟨(Nat.le_of_ble_eq_true rfl), (Nat.le_of_ble_eq_true rfl)⟩ ?_
  refine W.eq (g2 := F0 m 11 ls (.int q1 :: [])) rfl ?_
  refine lv_if_ne (tgt := 17) hx hb dX11_restore_11 (by decide) (fun h2 => ?_) (fun h2 => ?_)
  · have hf := o_f h2 hf
    refine lv_aload_n hx hb dX11_restore_17 rfl (lv_at hl 0 rfl) ?_
    refine w_get (ci := 11) F hK hP fb_X11 0 rfl rfl 4 (by decide) fl_X11_38 (fun _ h => h) rfl dX11_restore_18 ?_
    refine lv_aload_n hx hb dX11_restore_21 rfl (lv_at hl 0 rfl) ?_
    refine w_get (ci := 11) F hK hP fb_X11 0 rfl rfl 1 (by decide) fl_X11_27 (fun _ h => h) rfl dX11_restore_22 ?_
    refine lv_aload_n hx hb dX11_restore_25 rfl (lv_at hl 0 rfl) ?_
    refine w_get (ci := 11) F hK hP fb_X11 0 rfl rfl 3 (by decide) fl_X11_31 (fun _ h => h) rfl dX11_restore_26 ?_
    obtain ⟨q3, hq3, hf⟩ := o_bind hf
    refine k_dV (wr := [ob a_this 11 [.ref a_this_page, .ref a_this_hall, .ref a_this_course, .ref a_this_heard, .ref a_this_image, .ref a_this_rests, .int v_hallsRead, .int v_restsDone]]) (ws' := ([ob a_this 11 [.ref a_this_page, .ref a_this_hall, .ref a_this_course, .ref a_this_heard, .ref a_this_image, .ref a_this_rests, .int v_hallsRead, .int v_restsDone], ob a_this_hall 6 [.ref a_this_hall_seats, .int v_hall_size, .int v_hall_fall], ra g a_this_hall_seats 5 (fun i => some (sa i)), ob a_this_heard 8 [.ref a_this_heard_bidders, .ref a_this_heard_breaths, .int q3.2.2.2.2.2], ia g a_this_heard_bidders 8 q3.2.2.2.1, ia g a_this_heard_breaths 8 q3.2.2.2.2.1, ob a_this_image 9 [.ref a_this_image_winds, .ref a_this_image_choices, .ref a_this_image_touchers, .ref a_this_image_heard, .int v_image_hallNumber], ia g a_this_image_choices 5 v_image_choices, ob a_this_image_heard 8 [.ref a_this_image_heard_bidders, .ref a_this_image_heard_breaths, .int v_image_heard_size], ia g a_this_image_heard_bidders 8 v_image_heard_bidders, ia g a_this_image_heard_breaths 8 v_image_heard_breaths, ia g a_this_image_touchers 5 v_image_touchers, ia g a_this_image_winds 5 v_image_winds] ++ swl sa b_K b_su b_wi q3.2.2.1 q3.1 q3.2.1)) F (c_X6_giveBack l g a_this_image a_this_hall a_this_heard a_this_hall_seats a_this_heard_bidders a_this_heard_breaths a_this_image_winds a_this_image_choices a_this_image_touchers a_this_image_heard a_this_image_heard_bidders a_this_image_heard_breaths sa v_hall_size v_hall_fall v_heard_size v_heard_bidders v_heard_breaths v_image_hallNumber v_image_choices v_image_heard_size v_image_heard_bidders v_image_heard_breaths v_image_touchers v_image_winds b_K b_su b_wi b_wd b_ch b_tc hK5 hq3) qv_X6_giveBack ml_X11_210 hw hA hK [1, 2, 3, 4, 5, 6, 7, 8, 9, 10, 11, 12, 13, 14, 15, 16, 17] [0] [0, 1, 2, 3, 4, 5, 6, 7, 8, 9, 10, 11, 12, 13, 14, 15, 16, 17] rfl rfl rfl rfl rfl (by decide) rfl rfl rfl (va_recv hK.1 hP (ci := 9) (q0 := 6) rfl rfl) rfl hl.1 rfl (Nat.le_of_ble_eq_true rfl) dX11_restore_29 ⟨(Nat.le_of_ble_eq_true rfl), (Nat.le_of_ble_eq_true rfl)⟩ ⟨(Nat.le_of_ble_eq_true rfl), (Nat.le_of_ble_eq_true rfl)⟩ (fun H locs hw => ?_)
    have hP := hw.1
    refine W.eq (g2 := F0 m 32 ls ([])) rfl ?_
    refine lv_aload_n hx hb dX11_restore_32 rfl (lv_at hl 0 rfl) ?_
    refine w_get (ci := 11) F hK hP fb_X11 0 rfl rfl 1 (by decide) fl_X11_27 (fun _ h => h) rfl dX11_restore_33 ?_
    refine w_get (ci := 6) F hK hP fb_X4 1 rfl rfl 1 (by decide) fl_X11_78 (fun _ h => h) rfl dX11_restore_36 ?_
    cases hf
    exact r_ci F hQ ⟨rfl, rfl⟩ hw dX11_restore_39
  · have hf := o_t h2 hf
    refine lv_bipush (v := (-103)) hx hb dX11_restore_14 (by decide) ?_
    cases hf
    exact r_ci F hQ ⟨rfl, rfl⟩ hw dX11_restore_16
def f_X11_count (x1 : Int32) (b_ch : Nat → Int32) (b_tc : Nat → Int32) (v_hall_fall : Int32) (v_hall_size : Int32) (v_hallsRead : Int32) (v_heard_size : Int32) (v_page_length : Int32) (v_restsDone : Int32) : Option (Int32) := (if x1 = 0 then (some v_hall_size) else (if x1 = 1 then (some v_hall_fall) else (if x1 = 2 then ((f_X4_howManyHaveChosen b_ch v_hall_size).bind fun q4 => (some q4)) else (if x1 = 3 then ((f_X4_howManyTouches b_tc v_hall_size).bind fun q6 => (some q6)) else (if x1 = 4 then (some v_heard_size) else (if x1 = 5 then (some v_page_length) else (if x1 = 6 then (some v_hallsRead) else (if x1 = 7 then (some v_restsDone) else (some (-102))))))))))
set_option maxRecDepth 100000 in
set_option maxHeartbeats 4000000 in
theorem c_X11_count (l : Launch) (g : GG) (a_this : Nat) (a_this_page : Nat) (a_this_hall : Nat) (a_this_course : Nat) (a_this_heard : Nat) (a_this_image : Nat) (a_this_rests : Nat) (a_this_hall_seats : Nat) (a_this_heard_bidders : Nat) (a_this_heard_breaths : Nat) (a_this_page_codes : Nat) (sa : Nat → Nat) (x1 : Int32) (v_hallsRead : Int32) (v_restsDone : Int32) (v_hall_size : Int32) (v_hall_fall : Int32) (v_heard_size : Int32) (v_page_length : Int32) (b_K : Nat → Nat) (b_su : Nat → Int32) (b_wi : Nat → Int32) (b_wd : Nat → Int32) (b_ch : Nat → Int32) (b_tc : Nat → Int32) (hK5 : ∀ i, b_K i < 5) {r0 : Int32} (hf : f_X11_count x1 b_ch b_tc v_hall_fall v_hall_size v_hallsRead v_heard_size v_page_length v_restsDone = some r0) : MR l g yX11_count cX11_count 2 (some .int) 2 42 [.ref a_this, .int x1] ([ob a_this 11 [.ref a_this_page, .ref a_this_hall, .ref a_this_course, .ref a_this_heard, .ref a_this_image, .ref a_this_rests, .int v_hallsRead, .int v_restsDone], ob a_this_hall 6 [.ref a_this_hall_seats, .int v_hall_size, .int v_hall_fall], ra g a_this_hall_seats 5 (fun i => some (sa i)), ob a_this_heard 8 [.ref a_this_heard_bidders, .ref a_this_heard_breaths, .int v_heard_size], ob a_this_page 5 [.ref a_this_page_codes, .int v_page_length]] ++ swl sa b_K b_su b_wi b_wd b_ch b_tc) (some (.int r0)) := by
  refine MR.mk (by decide) (Nat.le_of_ble_eq_true rfl) ?_
  intro p e s m args below meth c ls Q F hK hP hl hQ
  have hx := F.1
  have hb := F.2.1
  have hml := F.2.2.2.1
  have hown := F.2.2.2.2.1
  have hts := F.2.2.2.2.2.1
  have hl : lv_has ls 2 [(0, .ref a_this), (1, .int x1)] := hl
  unfold f_X11_count at hf
  refine lv_iload_n hx hb dX11_count_0 rfl (lv_at hl 1 rfl) ?_
  by_cases h1 : x1 = 0
  · have hf := o_t h1 hf
    refine lv_tableIn (off := 47) (tgt := 48) hx hb dX11_count_1 (by rw [h1]; decide) (by rw [h1]; decide) (by rw [h1]; rfl) (by decide) ?_
    refine lv_aload_n hx hb dX11_count_48 rfl (lv_at hl 0 rfl) ?_
    refine w_get (ci := 11) F hK hP fb_X11 0 rfl rfl 1 (by decide) fl_X11_27 (fun _ h => h) rfl dX11_count_49 ?_
    refine w_get (ci := 6) F hK hP fb_X4 1 rfl rfl 1 (by decide) fl_X11_78 (fun _ h => h) rfl dX11_count_52 ?_
    exact r_ri F hQ (Option.some.inj hf) dX11_count_55
  · have hf := o_f h1 hf
    by_cases h2 : x1 = 1
    · have hf := o_t h2 hf
      refine lv_tableIn (off := 55) (tgt := 56) hx hb dX11_count_1 (by rw [h2]; decide) (by rw [h2]; decide) (by rw [h2]; rfl) (by decide) ?_
      refine lv_aload_n hx hb dX11_count_56 rfl (lv_at hl 0 rfl) ?_
      refine w_get (ci := 11) F hK hP fb_X11 0 rfl rfl 1 (by decide) fl_X11_27 (fun _ h => h) rfl dX11_count_57 ?_
      refine w_get (ci := 6) F hK hP fb_X4 1 rfl rfl 2 (by decide) fl_X11_214 (fun _ h => h) rfl dX11_count_60 ?_
      exact r_ri F hQ (Option.some.inj hf) dX11_count_63
    · have hf := o_f h2 hf
      by_cases h3 : x1 = 2
      · have hf := o_t h3 hf
        refine lv_tableIn (off := 63) (tgt := 64) hx hb dX11_count_1 (by rw [h3]; decide) (by rw [h3]; decide) (by rw [h3]; rfl) (by decide) ?_
        refine lv_aload_n hx hb dX11_count_64 rfl (lv_at hl 0 rfl) ?_
        refine w_get (ci := 11) F hK hP fb_X11 0 rfl rfl 1 (by decide) fl_X11_27 (fun _ h => h) rfl dX11_count_65 ?_
        obtain ⟨q4, hq4, hf⟩ := o_bind hf
        refine k_rV F (c_X4_howManyHaveChosen l g a_this_hall a_this_hall_seats sa v_hall_size v_hall_fall b_K b_su b_wi b_wd b_ch b_tc hK5 hq4) qv_X4_howManyHaveChosen ml_X11_217 (hP.sub [1, 2, 5, 6, 7, 8, 9] rfl) hK (va_recv hK.1 hP (ci := 6) (q0 := 1) rfl rfl) rfl hl.1 rfl (Nat.le_of_ble_eq_true rfl) dX11_count_68 ⟨(Nat.le_of_ble_eq_true rfl), (Nat.le_of_ble_eq_true rfl)⟩ ⟨(Nat.le_of_ble_eq_true rfl), (Nat.le_of_ble_eq_true rfl)⟩ ?_
        refine W.eq (g2 := F0 m 71 ls (.int q4 :: [])) rfl ?_
        exact r_ri F hQ (Option.some.inj hf) dX11_count_71
      · have hf := o_f h3 hf
        by_cases h5 : x1 = 3
        · have hf := o_t h5 hf
          refine lv_tableIn (off := 71) (tgt := 72) hx hb dX11_count_1 (by rw [h5]; decide) (by rw [h5]; decide) (by rw [h5]; rfl) (by decide) ?_
          refine lv_aload_n hx hb dX11_count_72 rfl (lv_at hl 0 rfl) ?_
          refine w_get (ci := 11) F hK hP fb_X11 0 rfl rfl 1 (by decide) fl_X11_27 (fun _ h => h) rfl dX11_count_73 ?_
          obtain ⟨q6, hq6, hf⟩ := o_bind hf
          refine k_rV F (c_X4_howManyTouches l g a_this_hall a_this_hall_seats sa v_hall_size v_hall_fall b_K b_su b_wi b_wd b_ch b_tc hK5 hq6) qv_X4_howManyTouches ml_X11_220 (hP.sub [1, 2, 5, 6, 7, 8, 9] rfl) hK (va_recv hK.1 hP (ci := 6) (q0 := 1) rfl rfl) rfl hl.1 rfl (Nat.le_of_ble_eq_true rfl) dX11_count_76 ⟨(Nat.le_of_ble_eq_true rfl), (Nat.le_of_ble_eq_true rfl)⟩ ⟨(Nat.le_of_ble_eq_true rfl), (Nat.le_of_ble_eq_true rfl)⟩ ?_
          refine W.eq (g2 := F0 m 79 ls (.int q6 :: [])) rfl ?_
          exact r_ri F hQ (Option.some.inj hf) dX11_count_79
        · have hf := o_f h5 hf
          by_cases h7 : x1 = 4
          · have hf := o_t h7 hf
            refine lv_tableIn (off := 79) (tgt := 80) hx hb dX11_count_1 (by rw [h7]; decide) (by rw [h7]; decide) (by rw [h7]; rfl) (by decide) ?_
            refine lv_aload_n hx hb dX11_count_80 rfl (lv_at hl 0 rfl) ?_
            refine w_get (ci := 11) F hK hP fb_X11 0 rfl rfl 3 (by decide) fl_X11_31 (fun _ h => h) rfl dX11_count_81 ?_
            refine w_get (ci := 8) F hK hP fb_X5 3 rfl rfl 2 (by decide) fl_X11_72 (fun _ h => h) rfl dX11_count_84 ?_
            exact r_ri F hQ (Option.some.inj hf) dX11_count_87
          · have hf := o_f h7 hf
            by_cases h8 : x1 = 5
            · have hf := o_t h8 hf
              refine lv_tableIn (off := 87) (tgt := 88) hx hb dX11_count_1 (by rw [h8]; decide) (by rw [h8]; decide) (by rw [h8]; rfl) (by decide) ?_
              refine lv_aload_n hx hb dX11_count_88 rfl (lv_at hl 0 rfl) ?_
              refine w_get (ci := 11) F hK hP fb_X11 0 rfl rfl 0 (by decide) fl_X11_10 (fun _ h => h) rfl dX11_count_89 ?_
              refine w_get (ci := 5) F hK hP fb_X7 4 rfl rfl 1 (by decide) fl_X11_57 (fun _ h => h) rfl dX11_count_92 ?_
              exact r_ri F hQ (Option.some.inj hf) dX11_count_95
            · have hf := o_f h8 hf
              by_cases h9 : x1 = 6
              · have hf := o_t h9 hf
                refine lv_tableIn (off := 95) (tgt := 96) hx hb dX11_count_1 (by rw [h9]; decide) (by rw [h9]; decide) (by rw [h9]; rfl) (by decide) ?_
                refine lv_aload_n hx hb dX11_count_96 rfl (lv_at hl 0 rfl) ?_
                refine w_get (ci := 11) F hK hP fb_X11 0 rfl rfl 6 (by decide) fl_X11_75 (fun _ h => h) rfl dX11_count_97 ?_
                exact r_ri F hQ (Option.some.inj hf) dX11_count_100
              · have hf := o_f h9 hf
                by_cases h10 : x1 = 7
                · have hf := o_t h10 hf
                  refine lv_tableIn (off := 100) (tgt := 101) hx hb dX11_count_1 (by rw [h10]; decide) (by rw [h10]; decide) (by rw [h10]; rfl) (by decide) ?_
                  refine lv_aload_n hx hb dX11_count_101 rfl (lv_at hl 0 rfl) ?_
                  refine w_get (ci := 11) F hK hP fb_X11 0 rfl rfl 7 (by decide) fl_X11_155 (fun _ h => h) rfl dX11_count_102 ?_
                  exact r_ri F hQ (Option.some.inj hf) dX11_count_105
                · have hf := o_f h10 hf
                  refine lv_tableOut (tgt := 106) hx hb dX11_count_1 (by have := tI h1 (k := 0) rfl; have := tI h2 (k := 1) rfl; have := tI h3 (k := 2) rfl; have := tI h5 (k := 3) rfl; have := tI h7 (k := 4) rfl; have := tI h8 (k := 5) rfl; have := tI h9 (k := 6) rfl; have := tI h10 (k := 7) rfl; omega) (by decide) ?_
                  refine lv_bipush (v := (-102)) hx hb dX11_count_106 (by decide) ?_
                  exact r_ri F hQ (Option.some.inj hf) dX11_count_108
def f_X11_digestWith_6 (fuel : Nat) (x1 : Int64) (x3 : Int32) (b_K : Nat → Nat) (b_ch : Nat → Int32) (b_su : Nat → Int32) (b_tc : Nat → Int32) (b_wd : Nat → Int32) (b_wi : Nat → Int32) (v_hall_fall : Int32) (v_hall_size : Int32) (v_heard_bidders : Nat → Int32) (v_heard_breaths : Nat → Int32) (v_heard_size : Int32) (y6 : Int32) (y4 : Int64) (w_v_course_ends : Nat → Int32) (w_v_course_getter : Int32) (w_v_course_silences : Nat → Int32) (w_v_course_stops : Nat → Int32) (w_v_course_touchers : Nat → Int32) : Option (Int32 × Int64 × (Nat → Int32) × Int32 × (Nat → Int32) × (Nat → Int32) × (Nat → Int32)) := match fuel with
  | 0 => none
  | k + 1 => (if 9 < y6 then (some (y6, y4, w_v_course_ends, w_v_course_getter, w_v_course_silences, w_v_course_stops, w_v_course_touchers)) else ((f_X11_about x3 y6 b_K b_ch b_su b_tc b_wd b_wi w_v_course_ends w_v_course_getter w_v_course_silences w_v_course_stops w_v_course_touchers v_hall_fall v_hall_size).bind fun q2 => (bnd ((31 * y4) + (Int32.toInt64 q2.1)) fun z3 => (bnd (y6 + 1 : Int32) fun z4 => (f_X11_digestWith_6 k x1 x3 b_K b_ch b_su b_tc b_wd b_wi v_hall_fall v_hall_size v_heard_bidders v_heard_breaths v_heard_size z4 z3 q2.2.1 q2.2.2.1 q2.2.2.2.1 q2.2.2.2.2.1 q2.2.2.2.2.2)))))
def f_X11_digestWith_39 (fuel : Nat) (x1 : Int64) (x3 : Int32) (b_K : Nat → Nat) (b_ch : Nat → Int32) (b_su : Nat → Int32) (b_tc : Nat → Int32) (b_wd : Nat → Int32) (b_wi : Nat → Int32) (v_hall_fall : Int32) (v_hall_size : Int32) (v_heard_bidders : Nat → Int32) (v_heard_breaths : Nat → Int32) (v_heard_size : Int32) (y6 : Int32) (y4 : Int64) (w_v_course_ends : Nat → Int32) (w_v_course_getter : Int32) (w_v_course_silences : Nat → Int32) (w_v_course_stops : Nat → Int32) (w_v_course_touchers : Nat → Int32) : Option (Int32 × Int64 × (Nat → Int32) × Int32 × (Nat → Int32) × (Nat → Int32) × (Nat → Int32)) := match fuel with
  | 0 => none
  | k + 1 => (if 1 < y6 then (some (y6, y4, w_v_course_ends, w_v_course_getter, w_v_course_silences, w_v_course_stops, w_v_course_touchers)) else ((f_X11_best x3 y6 b_K b_ch b_su b_tc b_wd b_wi w_v_course_ends w_v_course_getter w_v_course_silences w_v_course_stops w_v_course_touchers v_hall_fall v_hall_size).bind fun q7 => (bnd ((31 * y4) + (Int32.toInt64 q7.1)) fun z8 => (bnd (y6 + 1 : Int32) fun z9 => (f_X11_digestWith_39 k x1 x3 b_K b_ch b_su b_tc b_wd b_wi v_hall_fall v_hall_size v_heard_bidders v_heard_breaths v_heard_size z9 z8 q7.2.1 q7.2.2.1 q7.2.2.2.1 q7.2.2.2.2.1 q7.2.2.2.2.2)))))
def f_X11_digestWith (x1 : Int64) (x3 : Int32) (b_K : Nat → Nat) (b_ch : Nat → Int32) (b_su : Nat → Int32) (b_tc : Nat → Int32) (b_wd : Nat → Int32) (b_wi : Nat → Int32) (v_course_ends : Nat → Int32) (v_course_getter : Int32) (v_course_silences : Nat → Int32) (v_course_stops : Nat → Int32) (v_course_touchers : Nat → Int32) (v_hall_fall : Int32) (v_hall_size : Int32) (v_heard_bidders : Nat → Int32) (v_heard_breaths : Nat → Int32) (v_heard_size : Int32) : Option (Int64 × (Nat → Int32) × Int32 × (Nat → Int32) × (Nat → Int32) × (Nat → Int32)) := ((f_X11_digestWith_6 4096 x1 x3 b_K b_ch b_su b_tc b_wd b_wi v_hall_fall v_hall_size v_heard_bidders v_heard_breaths v_heard_size 0 x1 v_course_ends v_course_getter v_course_silences v_course_stops v_course_touchers).bind fun q5 => ((f_X11_digestWith_39 4096 x1 x3 b_K b_ch b_su b_tc b_wd b_wi v_hall_fall v_hall_size v_heard_bidders v_heard_breaths v_heard_size 0 q5.2.1 q5.2.2.1 q5.2.2.2.1 q5.2.2.2.2.1 q5.2.2.2.2.2.1 q5.2.2.2.2.2.2).bind fun q10 => ((f_X11_winds x3 b_K b_ch b_tc b_wd q10.2.2.1 q10.2.2.2.1 q10.2.2.2.2.1 q10.2.2.2.2.2.1 q10.2.2.2.2.2.2 v_hall_size v_heard_bidders v_heard_breaths v_heard_size).bind fun q11 => (some (((31 * q10.2.1) + (Int32.toInt64 q11.1)), q11.2.1, q11.2.2.1, q11.2.2.2.1, q11.2.2.2.2.1, q11.2.2.2.2.2)))))
set_option maxRecDepth 100000 in
set_option maxHeartbeats 4000000 in
theorem c_X11_digestWith (l : Launch) (g : GG) (a_this : Nat) (a_this_page : Nat) (a_this_hall : Nat) (a_this_course : Nat) (a_this_heard : Nat) (a_this_image : Nat) (a_this_rests : Nat) (a_this_course_ends : Nat) (a_this_course_touchers : Nat) (a_this_course_stops : Nat) (a_this_course_silences : Nat) (a_this_hall_seats : Nat) (a_this_heard_bidders : Nat) (a_this_heard_breaths : Nat) (sa : Nat → Nat) (x1 : Int64) (x3 : Int32) (v_hallsRead : Int32) (v_restsDone : Int32) (v_course_getter : Int32) (v_course_ends : Nat → Int32) (v_course_silences : Nat → Int32) (v_course_stops : Nat → Int32) (v_course_touchers : Nat → Int32) (v_hall_size : Int32) (v_hall_fall : Int32) (v_heard_size : Int32) (v_heard_bidders : Nat → Int32) (v_heard_breaths : Nat → Int32) (b_K : Nat → Nat) (b_su : Nat → Int32) (b_wi : Nat → Int32) (b_wd : Nat → Int32) (b_ch : Nat → Int32) (b_tc : Nat → Int32) (hK5 : ∀ i, b_K i < 5) {r0 : Int64} {r1 : Nat → Int32} {r2 : Int32} {r3 : Nat → Int32} {r4 : Nat → Int32} {r5 : Nat → Int32} (hf : f_X11_digestWith x1 x3 b_K b_ch b_su b_tc b_wd b_wi v_course_ends v_course_getter v_course_silences v_course_stops v_course_touchers v_hall_fall v_hall_size v_heard_bidders v_heard_breaths v_heard_size = some (r0, r1, r2, r3, r4, r5)) : MD l g yX11_digestWith cX11_digestWith 7 (some .long) 6 137 [.ref a_this, .long x1, .int x3] ([ob a_this 11 [.ref a_this_page, .ref a_this_hall, .ref a_this_course, .ref a_this_heard, .ref a_this_image, .ref a_this_rests, .int v_hallsRead, .int v_restsDone], ob a_this_course 7 [.ref a_this_hall, .ref a_this_course_ends, .ref a_this_course_touchers, .ref a_this_course_stops, .ref a_this_course_silences, .int v_course_getter], ia g a_this_course_ends 5 v_course_ends, ia g a_this_course_silences 5 v_course_silences, ia g a_this_course_stops 5 v_course_stops, ia g a_this_course_touchers 5 v_course_touchers, ob a_this_hall 6 [.ref a_this_hall_seats, .int v_hall_size, .int v_hall_fall], ra g a_this_hall_seats 5 (fun i => some (sa i)), ob a_this_heard 8 [.ref a_this_heard_bidders, .ref a_this_heard_breaths, .int v_heard_size], ia g a_this_heard_bidders 8 v_heard_bidders, ia g a_this_heard_breaths 8 v_heard_breaths] ++ swl sa b_K b_su b_wi b_wd b_ch b_tc) (some (.long r0)) ([ob a_this 11 [.ref a_this_page, .ref a_this_hall, .ref a_this_course, .ref a_this_heard, .ref a_this_image, .ref a_this_rests, .int v_hallsRead, .int v_restsDone], ob a_this_course 7 [.ref a_this_hall, .ref a_this_course_ends, .ref a_this_course_touchers, .ref a_this_course_stops, .ref a_this_course_silences, .int r2], ia g a_this_course_ends 5 r1, ia g a_this_course_silences 5 r3, ia g a_this_course_stops 5 r4, ia g a_this_course_touchers 5 r5, ob a_this_hall 6 [.ref a_this_hall_seats, .int v_hall_size, .int v_hall_fall], ra g a_this_hall_seats 5 (fun i => some (sa i)), ob a_this_heard 8 [.ref a_this_heard_bidders, .ref a_this_heard_breaths, .int v_heard_size], ia g a_this_heard_bidders 8 v_heard_bidders, ia g a_this_heard_breaths 8 v_heard_breaths] ++ swl sa b_K b_su b_wi b_wd b_ch b_tc) := by
  refine MC.mk (by decide) (Nat.le_of_ble_eq_true rfl) ?_
  intro p e s m args below meth c ls Q A F hnm hK hw hA hl hQ
  have hP := hw.1
  have hx := F.1
  have hb := F.2.1
  have hml := F.2.2.2.1
  have hown := F.2.2.2.2.1
  have hts := F.2.2.2.2.2.1
  have hl : lv_has ls 7 [(0, .ref a_this), (1, .long x1), (3, .int x3)] := hl
  have L6 : ∀ (k : Nat) (y6 : Int32) (y4 : Int64) (w_v_course_ends : Nat → Int32) (w_v_course_getter : Int32) (w_v_course_silences : Nat → Int32) (w_v_course_stops : Nat → Int32) (w_v_course_touchers : Nat → Int32) (q : Int32 × Int64 × (Nat → Int32) × Int32 × (Nat → Int32) × (Nat → Int32) × (Nat → Int32)), f_X11_digestWith_6 k x1 x3 b_K b_ch b_su b_tc b_wd b_wi v_hall_fall v_hall_size v_heard_bidders v_heard_breaths v_heard_size y6 y4 w_v_course_ends w_v_course_getter w_v_course_silences w_v_course_stops w_v_course_touchers = some q → ∀ (H : Heap) (locs : List Loc) (ls : Array Slot), WD g A s.heap ([ob a_this 11 [.ref a_this_page, .ref a_this_hall, .ref a_this_course, .ref a_this_heard, .ref a_this_image, .ref a_this_rests, .int v_hallsRead, .int v_restsDone], ob a_this_course 7 [.ref a_this_hall, .ref a_this_course_ends, .ref a_this_course_touchers, .ref a_this_course_stops, .ref a_this_course_silences, .int w_v_course_getter], ia g a_this_course_ends 5 w_v_course_ends, ia g a_this_course_silences 5 w_v_course_silences, ia g a_this_course_stops 5 w_v_course_stops, ia g a_this_course_touchers 5 w_v_course_touchers, ob a_this_hall 6 [.ref a_this_hall_seats, .int v_hall_size, .int v_hall_fall], ra g a_this_hall_seats 5 (fun i => some (sa i)), ob a_this_heard 8 [.ref a_this_heard_bidders, .ref a_this_heard_breaths, .int v_heard_size], ia g a_this_heard_bidders 8 v_heard_bidders, ia g a_this_heard_breaths 8 v_heard_breaths] ++ swl sa b_K b_su b_wi b_wd b_ch b_tc) H locs → lv_has ls 7 [(6, .int y6), (4, .long y4), (0, .ref a_this), (3, .int x3)] → (∀ (H : Heap) (locs : List Loc) (ls : Array Slot), WD g A s.heap ([ob a_this 11 [.ref a_this_page, .ref a_this_hall, .ref a_this_course, .ref a_this_heard, .ref a_this_image, .ref a_this_rests, .int v_hallsRead, .int v_restsDone], ob a_this_course 7 [.ref a_this_hall, .ref a_this_course_ends, .ref a_this_course_touchers, .ref a_this_course_stops, .ref a_this_course_silences, .int q.2.2.2.1], ia g a_this_course_ends 5 q.2.2.1, ia g a_this_course_silences 5 q.2.2.2.2.1, ia g a_this_course_stops 5 q.2.2.2.2.2.1, ia g a_this_course_touchers 5 q.2.2.2.2.2.2, ob a_this_hall 6 [.ref a_this_hall_seats, .int v_hall_size, .int v_hall_fall], ra g a_this_hall_seats 5 (fun i => some (sa i)), ob a_this_heard 8 [.ref a_this_heard_bidders, .ref a_this_heard_breaths, .int v_heard_size], ia g a_this_heard_bidders 8 v_heard_bidders, ia g a_this_heard_breaths 8 v_heard_breaths] ++ swl sa b_K b_su b_wi b_wd b_ch b_tc) H locs → lv_has ls 7 [(6, .int q.1), (4, .long q.2.1), (0, .ref a_this), (3, .int x3)] → W p l e (rmc 6 0 0 137) s m args below meth c H locs 0 0 Q (F0 m 36 ls [])) → W p l e (rmc 6 0 0 137) s m args below meth c H locs 0 0 Q (F0 m 6 ls []) := by
    intro k
    induction k with
    | zero => intro y6 y4 w_v_course_ends w_v_course_getter w_v_course_silences w_v_course_stops w_v_course_touchers q hf; rw [f_X11_digestWith_6] at hf; cases hf
    | succ k ih =>
      intro y6 y4 w_v_course_ends w_v_course_getter w_v_course_silences w_v_course_stops w_v_course_touchers q hf H locs ls hw hl kx
      rw [f_X11_digestWith_6] at hf
      have hP := hw.1
      refine lv_iload hx hb dX11_digestWith_6 (lv_at hl 0 rfl) ?_
      refine lv_bipush (v := 9) hx hb dX11_digestWith_8 (by decide) ?_
      refine lv_icmp_gt (tgt := 36) hx hb dX11_digestWith_10 (by decide) (fun h1 => ?_) (fun h1 => ?_)
      · have hf := o_t h1 hf
        cases hf
        exact kx _ _ ls hw (lv_sub hl [0, 1, 2, 3] rfl)
      · have hf := o_f h1 hf
        refine lv_ldc2 (v := 31) hx hb hown (hts _ kc_X11_225) dX11_digestWith_13 ?_
        refine lv_lload hx hb dX11_digestWith_16 (lv_at hl 1 rfl) ?_
        refine lv_lmul hx hb dX11_digestWith_18 ?_
        refine lv_aload_n hx hb dX11_digestWith_19 rfl (lv_at hl 2 rfl) ?_
        refine lv_iload_n hx hb dX11_digestWith_20 rfl (lv_at hl 3 rfl) ?_
        refine lv_iload hx hb dX11_digestWith_21 (lv_at hl 0 rfl) ?_
        obtain ⟨q2, hq2, hf⟩ := o_bind hf
        refine k_dV (wr := [ob a_this_heard 8 [.ref a_this_heard_bidders, .ref a_this_heard_breaths, .int v_heard_size], ia g a_this_heard_bidders 8 v_heard_bidders, ia g a_this_heard_breaths 8 v_heard_breaths]) (ws' := ([ob a_this 11 [.ref a_this_page, .ref a_this_hall, .ref a_this_course, .ref a_this_heard, .ref a_this_image, .ref a_this_rests, .int v_hallsRead, .int v_restsDone], ob a_this_course 7 [.ref a_this_hall, .ref a_this_course_ends, .ref a_this_course_touchers, .ref a_this_course_stops, .ref a_this_course_silences, .int q2.2.2.1], ia g a_this_course_ends 5 q2.2.1, ia g a_this_course_silences 5 q2.2.2.2.1, ia g a_this_course_stops 5 q2.2.2.2.2.1, ia g a_this_course_touchers 5 q2.2.2.2.2.2, ob a_this_hall 6 [.ref a_this_hall_seats, .int v_hall_size, .int v_hall_fall], ra g a_this_hall_seats 5 (fun i => some (sa i)), ob a_this_heard 8 [.ref a_this_heard_bidders, .ref a_this_heard_breaths, .int v_heard_size], ia g a_this_heard_bidders 8 v_heard_bidders, ia g a_this_heard_breaths 8 v_heard_breaths] ++ swl sa b_K b_su b_wi b_wd b_ch b_tc)) F (c_X11_about l g a_this a_this_page a_this_hall a_this_course a_this_heard a_this_image a_this_rests a_this_course_ends a_this_course_touchers a_this_course_stops a_this_course_silences a_this_hall_seats sa x3 y6 v_hallsRead v_restsDone w_v_course_getter w_v_course_ends w_v_course_silences w_v_course_stops w_v_course_touchers v_hall_size v_hall_fall b_K b_su b_wi b_wd b_ch b_tc hK5 hq2) qv_X11_about ml_X11_243 hw hA hK [0, 1, 2, 3, 4, 5, 6, 7, 11, 12, 13, 14, 15] [8, 9, 10] [3, 4, 5, 6, 7, 8, 9, 10, 0, 1, 2, 11, 12, 13, 14, 15] rfl rfl rfl rfl rfl (by decide) rfl rfl rfl (va_recv hK.1 hP (ci := 11) (q0 := 0) rfl rfl) rfl hl.1 rfl (Nat.le_of_ble_eq_true rfl) dX11_digestWith_23 ⟨(Nat.le_of_ble_eq_true rfl), (Nat.le_of_ble_eq_true rfl)⟩ ⟨(Nat.le_of_ble_eq_true rfl), (Nat.le_of_ble_eq_true rfl)⟩ (fun H locs hw => ?_)
        have hP := hw.1
        refine W.eq (g2 := F0 m 26 ls (.int q2.1 :: [.long (31 * y4)])) rfl ?_
        refine lv_i2l hx hb dX11_digestWith_26 rfl ?_
        refine lv_ladd hx hb dX11_digestWith_27 ?_
        refine lv_topl (fun z3 ez3 => ?_)
        have hf := o_bnd ez3 hf
        refine lv_lstore (lv' := [(4, .long z3), (6, .int y6), (0, .ref a_this), (3, .int x3)]) hx hb dX11_digestWith_28 hl (by decide) rfl (fun ls hl => ?_)
        obtain ⟨z4, ez4⟩ : ∃ y : Int32, y = y6 + 1 := ⟨_, rfl⟩
        have hf := o_bnd ez4 hf
        refine lv_iinc (v := z4) (lv' := [(6, .int z4), (4, .long z3), (0, .ref a_this), (3, .int x3)]) hx hb dX11_digestWith_30 hl (k := 1) rfl (by rw [ez4]; rfl) (by decide) rfl (fun ls hl => ?_)
        refine lv_goto (tgt := 6) hx hb dX11_digestWith_33 (by decide) ?_
        exact ih z4 z3 q2.2.1 q2.2.2.1 q2.2.2.2.1 q2.2.2.2.2.1 q2.2.2.2.2.2 _ hf _ _ ls hw (lv_sub hl [0, 1, 2, 3] rfl) kx
  have L39 : ∀ (k : Nat) (y6 : Int32) (y4 : Int64) (w_v_course_ends : Nat → Int32) (w_v_course_getter : Int32) (w_v_course_silences : Nat → Int32) (w_v_course_stops : Nat → Int32) (w_v_course_touchers : Nat → Int32) (q : Int32 × Int64 × (Nat → Int32) × Int32 × (Nat → Int32) × (Nat → Int32) × (Nat → Int32)), f_X11_digestWith_39 k x1 x3 b_K b_ch b_su b_tc b_wd b_wi v_hall_fall v_hall_size v_heard_bidders v_heard_breaths v_heard_size y6 y4 w_v_course_ends w_v_course_getter w_v_course_silences w_v_course_stops w_v_course_touchers = some q → ∀ (H : Heap) (locs : List Loc) (ls : Array Slot), WD g A s.heap ([ob a_this 11 [.ref a_this_page, .ref a_this_hall, .ref a_this_course, .ref a_this_heard, .ref a_this_image, .ref a_this_rests, .int v_hallsRead, .int v_restsDone], ob a_this_course 7 [.ref a_this_hall, .ref a_this_course_ends, .ref a_this_course_touchers, .ref a_this_course_stops, .ref a_this_course_silences, .int w_v_course_getter], ia g a_this_course_ends 5 w_v_course_ends, ia g a_this_course_silences 5 w_v_course_silences, ia g a_this_course_stops 5 w_v_course_stops, ia g a_this_course_touchers 5 w_v_course_touchers, ob a_this_hall 6 [.ref a_this_hall_seats, .int v_hall_size, .int v_hall_fall], ra g a_this_hall_seats 5 (fun i => some (sa i)), ob a_this_heard 8 [.ref a_this_heard_bidders, .ref a_this_heard_breaths, .int v_heard_size], ia g a_this_heard_bidders 8 v_heard_bidders, ia g a_this_heard_breaths 8 v_heard_breaths] ++ swl sa b_K b_su b_wi b_wd b_ch b_tc) H locs → lv_has ls 7 [(6, .int y6), (4, .long y4), (0, .ref a_this), (3, .int x3)] → (∀ (H : Heap) (locs : List Loc) (ls : Array Slot), WD g A s.heap ([ob a_this 11 [.ref a_this_page, .ref a_this_hall, .ref a_this_course, .ref a_this_heard, .ref a_this_image, .ref a_this_rests, .int v_hallsRead, .int v_restsDone], ob a_this_course 7 [.ref a_this_hall, .ref a_this_course_ends, .ref a_this_course_touchers, .ref a_this_course_stops, .ref a_this_course_silences, .int q.2.2.2.1], ia g a_this_course_ends 5 q.2.2.1, ia g a_this_course_silences 5 q.2.2.2.2.1, ia g a_this_course_stops 5 q.2.2.2.2.2.1, ia g a_this_course_touchers 5 q.2.2.2.2.2.2, ob a_this_hall 6 [.ref a_this_hall_seats, .int v_hall_size, .int v_hall_fall], ra g a_this_hall_seats 5 (fun i => some (sa i)), ob a_this_heard 8 [.ref a_this_heard_bidders, .ref a_this_heard_breaths, .int v_heard_size], ia g a_this_heard_bidders 8 v_heard_bidders, ia g a_this_heard_breaths 8 v_heard_breaths] ++ swl sa b_K b_su b_wi b_wd b_ch b_tc) H locs → lv_has ls 7 [(6, .int q.1), (4, .long q.2.1), (0, .ref a_this), (3, .int x3)] → W p l e (rmc 6 0 0 137) s m args below meth c H locs 0 0 Q (F0 m 68 ls [])) → W p l e (rmc 6 0 0 137) s m args below meth c H locs 0 0 Q (F0 m 39 ls []) := by
    intro k
    induction k with
    | zero => intro y6 y4 w_v_course_ends w_v_course_getter w_v_course_silences w_v_course_stops w_v_course_touchers q hf; rw [f_X11_digestWith_39] at hf; cases hf
    | succ k ih =>
      intro y6 y4 w_v_course_ends w_v_course_getter w_v_course_silences w_v_course_stops w_v_course_touchers q hf H locs ls hw hl kx
      rw [f_X11_digestWith_39] at hf
      have hP := hw.1
      refine lv_iload hx hb dX11_digestWith_39 (lv_at hl 0 rfl) ?_
      refine lv_iconst (v := 1) hx hb dX11_digestWith_41 (by decide) ?_
      refine lv_icmp_gt (tgt := 68) hx hb dX11_digestWith_42 (by decide) (fun h6 => ?_) (fun h6 => ?_)
      · have hf := o_t h6 hf
        cases hf
        exact kx _ _ ls hw (lv_sub hl [0, 1, 2, 3] rfl)
      · have hf := o_f h6 hf
        refine lv_ldc2 (v := 31) hx hb hown (hts _ kc_X11_225) dX11_digestWith_45 ?_
        refine lv_lload hx hb dX11_digestWith_48 (lv_at hl 1 rfl) ?_
        refine lv_lmul hx hb dX11_digestWith_50 ?_
        refine lv_aload_n hx hb dX11_digestWith_51 rfl (lv_at hl 2 rfl) ?_
        refine lv_iload_n hx hb dX11_digestWith_52 rfl (lv_at hl 3 rfl) ?_
        refine lv_iload hx hb dX11_digestWith_53 (lv_at hl 0 rfl) ?_
        obtain ⟨q7, hq7, hf⟩ := o_bind hf
        refine k_dV (wr := [ob a_this_heard 8 [.ref a_this_heard_bidders, .ref a_this_heard_breaths, .int v_heard_size], ia g a_this_heard_bidders 8 v_heard_bidders, ia g a_this_heard_breaths 8 v_heard_breaths]) (ws' := ([ob a_this 11 [.ref a_this_page, .ref a_this_hall, .ref a_this_course, .ref a_this_heard, .ref a_this_image, .ref a_this_rests, .int v_hallsRead, .int v_restsDone], ob a_this_course 7 [.ref a_this_hall, .ref a_this_course_ends, .ref a_this_course_touchers, .ref a_this_course_stops, .ref a_this_course_silences, .int q7.2.2.1], ia g a_this_course_ends 5 q7.2.1, ia g a_this_course_silences 5 q7.2.2.2.1, ia g a_this_course_stops 5 q7.2.2.2.2.1, ia g a_this_course_touchers 5 q7.2.2.2.2.2, ob a_this_hall 6 [.ref a_this_hall_seats, .int v_hall_size, .int v_hall_fall], ra g a_this_hall_seats 5 (fun i => some (sa i)), ob a_this_heard 8 [.ref a_this_heard_bidders, .ref a_this_heard_breaths, .int v_heard_size], ia g a_this_heard_bidders 8 v_heard_bidders, ia g a_this_heard_breaths 8 v_heard_breaths] ++ swl sa b_K b_su b_wi b_wd b_ch b_tc)) F (c_X11_best l g a_this a_this_page a_this_hall a_this_course a_this_heard a_this_image a_this_rests a_this_course_ends a_this_course_touchers a_this_course_stops a_this_course_silences a_this_hall_seats sa x3 y6 v_hallsRead v_restsDone w_v_course_getter w_v_course_ends w_v_course_silences w_v_course_stops w_v_course_touchers v_hall_size v_hall_fall b_K b_su b_wi b_wd b_ch b_tc hK5 hq7) qv_X11_best ml_X11_246 hw hA hK [0, 1, 2, 3, 4, 5, 6, 7, 11, 12, 13, 14, 15] [8, 9, 10] [3, 4, 5, 6, 7, 8, 9, 10, 0, 1, 2, 11, 12, 13, 14, 15] rfl rfl rfl rfl rfl (by decide) rfl rfl rfl (va_recv hK.1 hP (ci := 11) (q0 := 0) rfl rfl) rfl hl.1 rfl (Nat.le_of_ble_eq_true rfl) dX11_digestWith_55 ⟨(Nat.le_of_ble_eq_true rfl), (Nat.le_of_ble_eq_true rfl)⟩ ⟨(Nat.le_of_ble_eq_true rfl), (Nat.le_of_ble_eq_true rfl)⟩ (fun H locs hw => ?_)
        have hP := hw.1
        refine W.eq (g2 := F0 m 58 ls (.int q7.1 :: [.long (31 * y4)])) rfl ?_
        refine lv_i2l hx hb dX11_digestWith_58 rfl ?_
        refine lv_ladd hx hb dX11_digestWith_59 ?_
        refine lv_topl (fun z8 ez8 => ?_)
        have hf := o_bnd ez8 hf
        refine lv_lstore (lv' := [(4, .long z8), (6, .int y6), (0, .ref a_this), (3, .int x3)]) hx hb dX11_digestWith_60 hl (by decide) rfl (fun ls hl => ?_)
        obtain ⟨z9, ez9⟩ : ∃ y : Int32, y = y6 + 1 := ⟨_, rfl⟩
        have hf := o_bnd ez9 hf
        refine lv_iinc (v := z9) (lv' := [(6, .int z9), (4, .long z8), (0, .ref a_this), (3, .int x3)]) hx hb dX11_digestWith_62 hl (k := 1) rfl (by rw [ez9]; rfl) (by decide) rfl (fun ls hl => ?_)
        refine lv_goto (tgt := 39) hx hb dX11_digestWith_65 (by decide) ?_
        exact ih z9 z8 q7.2.1 q7.2.2.1 q7.2.2.2.1 q7.2.2.2.2.1 q7.2.2.2.2.2 _ hf _ _ ls hw (lv_sub hl [0, 1, 2, 3] rfl) kx
  unfold f_X11_digestWith at hf
  refine lv_lload_n hx hb dX11_digestWith_0 rfl (lv_at hl 1 rfl) ?_
  refine lv_lstore (lv' := [(4, .long x1), (0, .ref a_this), (1, .long x1), (3, .int x3)]) hx hb dX11_digestWith_1 hl (by decide) rfl (fun ls hl => ?_)
  refine lv_iconst (v := 0) hx hb dX11_digestWith_3 (by decide) ?_
  refine lv_istore (lv' := [(6, .int 0), (4, .long x1), (0, .ref a_this), (1, .long x1), (3, .int x3)]) hx hb dX11_digestWith_4 hl (by decide) rfl (fun ls hl => ?_)
  obtain ⟨q5, hq5, hf⟩ := o_bind hf
  refine L6 _ 0 x1 v_course_ends v_course_getter v_course_silences v_course_stops v_course_touchers _ hq5 _ _ ls hw (lv_sub hl [0, 1, 2, 4] rfl) (fun H locs ls hw hl => ?_)
  have hP := hw.1
  refine lv_iconst (v := 0) hx hb dX11_digestWith_36 (by decide) ?_
  refine lv_istore (lv' := [(6, .int 0), (4, .long q5.2.1), (0, .ref a_this), (3, .int x3)]) hx hb dX11_digestWith_37 hl (by decide) rfl (fun ls hl => ?_)
  obtain ⟨q10, hq10, hf⟩ := o_bind hf
  refine L39 _ 0 q5.2.1 q5.2.2.1 q5.2.2.2.1 q5.2.2.2.2.1 q5.2.2.2.2.2.1 q5.2.2.2.2.2.2 _ hq10 _ _ ls hw (lv_sub hl [0, 1, 2, 3] rfl) (fun H locs ls hw hl => ?_)
  have hP := hw.1
  refine lv_ldc2 (v := 31) hx hb hown (hts _ kc_X11_225) dX11_digestWith_68 ?_
  refine lv_lload hx hb dX11_digestWith_71 (lv_at hl 1 rfl) ?_
  refine lv_lmul hx hb dX11_digestWith_73 ?_
  refine lv_aload_n hx hb dX11_digestWith_74 rfl (lv_at hl 2 rfl) ?_
  refine lv_iload_n hx hb dX11_digestWith_75 rfl (lv_at hl 3 rfl) ?_
  obtain ⟨q11, hq11, hf⟩ := o_bind hf
  refine k_dV (wr := []) (ws' := ([ob a_this 11 [.ref a_this_page, .ref a_this_hall, .ref a_this_course, .ref a_this_heard, .ref a_this_image, .ref a_this_rests, .int v_hallsRead, .int v_restsDone], ob a_this_course 7 [.ref a_this_hall, .ref a_this_course_ends, .ref a_this_course_touchers, .ref a_this_course_stops, .ref a_this_course_silences, .int q11.2.2.1], ia g a_this_course_ends 5 q11.2.1, ia g a_this_course_silences 5 q11.2.2.2.1, ia g a_this_course_stops 5 q11.2.2.2.2.1, ia g a_this_course_touchers 5 q11.2.2.2.2.2, ob a_this_hall 6 [.ref a_this_hall_seats, .int v_hall_size, .int v_hall_fall], ra g a_this_hall_seats 5 (fun i => some (sa i)), ob a_this_heard 8 [.ref a_this_heard_bidders, .ref a_this_heard_breaths, .int v_heard_size], ia g a_this_heard_bidders 8 v_heard_bidders, ia g a_this_heard_breaths 8 v_heard_breaths] ++ swl sa b_K b_su b_wi b_wd b_ch b_tc)) F (c_X11_winds l g a_this a_this_page a_this_hall a_this_course a_this_heard a_this_image a_this_rests a_this_course_ends a_this_course_touchers a_this_course_stops a_this_course_silences a_this_hall_seats a_this_heard_bidders a_this_heard_breaths sa x3 v_hallsRead v_restsDone q10.2.2.2.1 q10.2.2.1 q10.2.2.2.2.1 q10.2.2.2.2.2.1 q10.2.2.2.2.2.2 v_hall_size v_hall_fall v_heard_size v_heard_bidders v_heard_breaths b_K b_su b_wi b_wd b_ch b_tc hK5 hq11) qv_X11_winds ml_X11_249 hw hA hK [0, 1, 2, 3, 4, 5, 6, 7, 8, 9, 10, 11, 12, 13, 14, 15] [] [0, 1, 2, 3, 4, 5, 6, 7, 8, 9, 10, 11, 12, 13, 14, 15] rfl rfl rfl rfl rfl (by decide) rfl rfl rfl (va_recv hK.1 hP (ci := 11) (q0 := 0) rfl rfl) rfl hl.1 rfl (Nat.le_of_ble_eq_true rfl) dX11_digestWith_76 ⟨(Nat.le_of_ble_eq_true rfl), (Nat.le_of_ble_eq_true rfl)⟩ ⟨(Nat.le_of_ble_eq_true rfl), (Nat.le_of_ble_eq_true rfl)⟩ (fun H locs hw => ?_)
  have hP := hw.1
  refine W.eq (g2 := F0 m 79 ls (.int q11.1 :: [.long (31 * q10.2.1)])) rfl ?_
  refine lv_i2l hx hb dX11_digestWith_79 rfl ?_
  refine lv_ladd hx hb dX11_digestWith_80 ?_
  cases hf
  exact r_cl F hQ ⟨rfl, rfl⟩ hw dX11_digestWith_81
def f_X11_digest_6 (fuel : Nat) (b_K : Nat → Nat) (b_ch : Nat → Int32) (b_su : Nat → Int32) (b_tc : Nat → Int32) (b_wd : Nat → Int32) (b_wi : Nat → Int32) (v_hall_fall : Int32) (v_hall_size : Int32) (v_hallsRead : Int32) (v_heard_bidders : Nat → Int32) (v_heard_breaths : Nat → Int32) (v_heard_size : Int32) (v_page_codes : Nat → Int32) (v_page_length : Int32) (v_restsDone : Int32) (y3 : Int32) (y1 : Int64) (w_v_course_ends : Nat → Int32) (w_v_course_getter : Int32) (w_v_course_silences : Nat → Int32) (w_v_course_stops : Nat → Int32) (w_v_course_touchers : Nat → Int32) : Option (Int32 × Int64 × (Nat → Int32) × Int32 × (Nat → Int32) × (Nat → Int32) × (Nat → Int32)) := match fuel with
  | 0 => none
  | k + 1 => (if 2 < y3 then (some (y3, y1, w_v_course_ends, w_v_course_getter, w_v_course_silences, w_v_course_stops, w_v_course_touchers)) else (if v_hall_size ≤ 0 then (some (y3, y1, w_v_course_ends, w_v_course_getter, w_v_course_silences, w_v_course_stops, w_v_course_touchers)) else ((f_X11_lot y3 b_K b_ch b_su b_tc b_wd w_v_course_ends w_v_course_getter w_v_course_silences w_v_course_stops w_v_course_touchers v_hall_fall v_hall_size).bind fun q3 => (bnd ((31 * y1) + (Int32.toInt64 q3.1)) fun z4 => (bnd (y3 + 1 : Int32) fun z5 => (f_X11_digest_6 k b_K b_ch b_su b_tc b_wd b_wi v_hall_fall v_hall_size v_hallsRead v_heard_bidders v_heard_breaths v_heard_size v_page_codes v_page_length v_restsDone z5 z4 q3.2.1 q3.2.2.1 q3.2.2.2.1 q3.2.2.2.2.1 q3.2.2.2.2.2))))))
def f_X11_digest_42 (fuel : Nat) (b_K : Nat → Nat) (b_ch : Nat → Int32) (b_su : Nat → Int32) (b_tc : Nat → Int32) (b_wd : Nat → Int32) (b_wi : Nat → Int32) (v_hall_fall : Int32) (v_hall_size : Int32) (v_hallsRead : Int32) (v_heard_bidders : Nat → Int32) (v_heard_breaths : Nat → Int32) (v_heard_size : Int32) (v_page_codes : Nat → Int32) (v_page_length : Int32) (v_restsDone : Int32) (y3 : Int32) (y1 : Int64) (w_v_course_ends : Nat → Int32) (w_v_course_getter : Int32) (w_v_course_silences : Nat → Int32) (w_v_course_stops : Nat → Int32) (w_v_course_touchers : Nat → Int32) : Option (Int32 × Int64 × (Nat → Int32) × Int32 × (Nat → Int32) × (Nat → Int32) × (Nat → Int32)) := match fuel with
  | 0 => none
  | k + 1 => (if 1 < y3 then (some (y3, y1, w_v_course_ends, w_v_course_getter, w_v_course_silences, w_v_course_stops, w_v_course_touchers)) else (if v_hall_size ≤ 0 then (some (y3, y1, w_v_course_ends, w_v_course_getter, w_v_course_silences, w_v_course_stops, w_v_course_touchers)) else ((f_X11_touched y3 b_K b_ch b_tc b_wd w_v_course_ends w_v_course_getter w_v_course_silences w_v_course_stops w_v_course_touchers v_hall_size v_heard_bidders v_heard_breaths v_heard_size).bind fun q9 => (bnd ((31 * y1) + (Int32.toInt64 q9.1)) fun z10 => (bnd (y3 + 1 : Int32) fun z11 => (f_X11_digest_42 k b_K b_ch b_su b_tc b_wd b_wi v_hall_fall v_hall_size v_hallsRead v_heard_bidders v_heard_breaths v_heard_size v_page_codes v_page_length v_restsDone z11 z10 q9.2.1 q9.2.2.1 q9.2.2.2.1 q9.2.2.2.2.1 q9.2.2.2.2.2))))))
def f_X11_digest_78 (fuel : Nat) (b_K : Nat → Nat) (b_ch : Nat → Int32) (b_su : Nat → Int32) (b_tc : Nat → Int32) (b_wd : Nat → Int32) (b_wi : Nat → Int32) (v_hall_fall : Int32) (v_hall_size : Int32) (v_hallsRead : Int32) (v_heard_bidders : Nat → Int32) (v_heard_breaths : Nat → Int32) (v_heard_size : Int32) (v_page_codes : Nat → Int32) (v_page_length : Int32) (v_restsDone : Int32) (y3 : Int32) (y1 : Int64) (w_v_course_ends : Nat → Int32) (w_v_course_getter : Int32) (w_v_course_silences : Nat → Int32) (w_v_course_stops : Nat → Int32) (w_v_course_touchers : Nat → Int32) : Option (Int32 × Int64 × (Nat → Int32) × Int32 × (Nat → Int32) × (Nat → Int32) × (Nat → Int32)) := match fuel with
  | 0 => none
  | k + 1 => (if v_hall_size ≤ y3 then (some (y3, y1, w_v_course_ends, w_v_course_getter, w_v_course_silences, w_v_course_stops, w_v_course_touchers)) else ((f_X11_digestWith y1 y3 b_K b_ch b_su b_tc b_wd b_wi w_v_course_ends w_v_course_getter w_v_course_silences w_v_course_stops w_v_course_touchers v_hall_fall v_hall_size v_heard_bidders v_heard_breaths v_heard_size).bind fun q14 => (bnd (y3 + 1 : Int32) fun z15 => (f_X11_digest_78 k b_K b_ch b_su b_tc b_wd b_wi v_hall_fall v_hall_size v_hallsRead v_heard_bidders v_heard_breaths v_heard_size v_page_codes v_page_length v_restsDone z15 q14.1 q14.2.1 q14.2.2.1 q14.2.2.2.1 q14.2.2.2.2.1 q14.2.2.2.2.2))))
def f_X11_digest_104 (fuel : Nat) (b_K : Nat → Nat) (b_ch : Nat → Int32) (b_su : Nat → Int32) (b_tc : Nat → Int32) (b_wd : Nat → Int32) (b_wi : Nat → Int32) (v_hall_fall : Int32) (v_hall_size : Int32) (v_hallsRead : Int32) (v_heard_bidders : Nat → Int32) (v_heard_breaths : Nat → Int32) (v_heard_size : Int32) (v_page_codes : Nat → Int32) (v_page_length : Int32) (v_restsDone : Int32) (y3 : Int32) (y1 : Int64) (w_v_course_ends : Nat → Int32) (w_v_course_getter : Int32) (w_v_course_silences : Nat → Int32) (w_v_course_stops : Nat → Int32) (w_v_course_touchers : Nat → Int32) : Option (Int32 × Int64 × (Nat → Int32) × Int32 × (Nat → Int32) × (Nat → Int32) × (Nat → Int32)) := match fuel with
  | 0 => none
  | k + 1 => (if v_page_length ≤ y3 then (some (y3, y1, w_v_course_ends, w_v_course_getter, w_v_course_silences, w_v_course_stops, w_v_course_touchers)) else (if y3 < 0 ∨ 28 ≤ Int32.toNatClampNeg y3 then none else (bnd ((31 * y1) + (Int32.toInt64 (v_page_codes (Int32.toNatClampNeg y3)))) fun z19 => (bnd (y3 + 1 : Int32) fun z20 => (f_X11_digest_104 k b_K b_ch b_su b_tc b_wd b_wi v_hall_fall v_hall_size v_hallsRead v_heard_bidders v_heard_breaths v_heard_size v_page_codes v_page_length v_restsDone z20 z19 w_v_course_ends w_v_course_getter w_v_course_silences w_v_course_stops w_v_course_touchers)))))
def f_X11_digest_140 (fuel : Nat) (b_K : Nat → Nat) (b_ch : Nat → Int32) (b_su : Nat → Int32) (b_tc : Nat → Int32) (b_wd : Nat → Int32) (b_wi : Nat → Int32) (v_hall_fall : Int32) (v_hall_size : Int32) (v_hallsRead : Int32) (v_heard_bidders : Nat → Int32) (v_heard_breaths : Nat → Int32) (v_heard_size : Int32) (v_page_codes : Nat → Int32) (v_page_length : Int32) (v_restsDone : Int32) (y3 : Int32) (y1 : Int64) (w_v_course_ends : Nat → Int32) (w_v_course_getter : Int32) (w_v_course_silences : Nat → Int32) (w_v_course_stops : Nat → Int32) (w_v_course_touchers : Nat → Int32) : Option (Int32 × Int64 × (Nat → Int32) × Int32 × (Nat → Int32) × (Nat → Int32) × (Nat → Int32)) := match fuel with
  | 0 => none
  | k + 1 => (if 7 < y3 then (some (y3, y1, w_v_course_ends, w_v_course_getter, w_v_course_silences, w_v_course_stops, w_v_course_touchers)) else ((f_X11_count y3 b_ch b_tc v_hall_fall v_hall_size v_hallsRead v_heard_size v_page_length v_restsDone).bind fun q23 => (bnd ((31 * y1) + (Int32.toInt64 q23)) fun z24 => (bnd (y3 + 1 : Int32) fun z25 => (f_X11_digest_140 k b_K b_ch b_su b_tc b_wd b_wi v_hall_fall v_hall_size v_hallsRead v_heard_bidders v_heard_breaths v_heard_size v_page_codes v_page_length v_restsDone z25 z24 w_v_course_ends w_v_course_getter w_v_course_silences w_v_course_stops w_v_course_touchers)))))
def f_X11_digest (b_K : Nat → Nat) (b_ch : Nat → Int32) (b_su : Nat → Int32) (b_tc : Nat → Int32) (b_wd : Nat → Int32) (b_wi : Nat → Int32) (v_course_ends : Nat → Int32) (v_course_getter : Int32) (v_course_silences : Nat → Int32) (v_course_stops : Nat → Int32) (v_course_touchers : Nat → Int32) (v_hall_fall : Int32) (v_hall_size : Int32) (v_hallsRead : Int32) (v_heard_bidders : Nat → Int32) (v_heard_breaths : Nat → Int32) (v_heard_size : Int32) (v_page_codes : Nat → Int32) (v_page_length : Int32) (v_restsDone : Int32) : Option (Int64 × (Nat → Int32) × Int32 × (Nat → Int32) × (Nat → Int32) × (Nat → Int32)) := ((f_X11_digest_6 4096 b_K b_ch b_su b_tc b_wd b_wi v_hall_fall v_hall_size v_hallsRead v_heard_bidders v_heard_breaths v_heard_size v_page_codes v_page_length v_restsDone 0 911 v_course_ends v_course_getter v_course_silences v_course_stops v_course_touchers).bind fun q6 => ((f_X11_digest_42 4096 b_K b_ch b_su b_tc b_wd b_wi v_hall_fall v_hall_size v_hallsRead v_heard_bidders v_heard_breaths v_heard_size v_page_codes v_page_length v_restsDone 0 q6.2.1 q6.2.2.1 q6.2.2.2.1 q6.2.2.2.2.1 q6.2.2.2.2.2.1 q6.2.2.2.2.2.2).bind fun q12 => ((f_X11_digest_78 4096 b_K b_ch b_su b_tc b_wd b_wi v_hall_fall v_hall_size v_hallsRead v_heard_bidders v_heard_breaths v_heard_size v_page_codes v_page_length v_restsDone 0 q12.2.1 q12.2.2.1 q12.2.2.2.1 q12.2.2.2.2.1 q12.2.2.2.2.2.1 q12.2.2.2.2.2.2).bind fun q16 => ((f_X11_digest_104 4096 b_K b_ch b_su b_tc b_wd b_wi v_hall_fall v_hall_size v_hallsRead v_heard_bidders v_heard_breaths v_heard_size v_page_codes v_page_length v_restsDone 0 q16.2.1 q16.2.2.1 q16.2.2.2.1 q16.2.2.2.2.1 q16.2.2.2.2.2.1 q16.2.2.2.2.2.2).bind fun q21 => ((f_X11_digest_140 4096 b_K b_ch b_su b_tc b_wd b_wi v_hall_fall v_hall_size v_hallsRead v_heard_bidders v_heard_breaths v_heard_size v_page_codes v_page_length v_restsDone 0 q21.2.1 q21.2.2.1 q21.2.2.2.1 q21.2.2.2.2.1 q21.2.2.2.2.2.1 q21.2.2.2.2.2.2).bind fun q26 => (some (q26.2.1, q26.2.2.1, q26.2.2.2.1, q26.2.2.2.2.1, q26.2.2.2.2.2.1, q26.2.2.2.2.2.2)))))))
set_option maxRecDepth 100000 in
set_option maxHeartbeats 4000000 in
theorem c_X11_digest (l : Launch) (g : GG) (a_this : Nat) (a_this_page : Nat) (a_this_hall : Nat) (a_this_course : Nat) (a_this_heard : Nat) (a_this_image : Nat) (a_this_rests : Nat) (a_this_course_ends : Nat) (a_this_course_touchers : Nat) (a_this_course_stops : Nat) (a_this_course_silences : Nat) (a_this_hall_seats : Nat) (a_this_heard_bidders : Nat) (a_this_heard_breaths : Nat) (a_this_page_codes : Nat) (sa : Nat → Nat) (v_hallsRead : Int32) (v_restsDone : Int32) (v_course_getter : Int32) (v_course_ends : Nat → Int32) (v_course_silences : Nat → Int32) (v_course_stops : Nat → Int32) (v_course_touchers : Nat → Int32) (v_hall_size : Int32) (v_hall_fall : Int32) (v_heard_size : Int32) (v_heard_bidders : Nat → Int32) (v_heard_breaths : Nat → Int32) (v_page_length : Int32) (v_page_codes : Nat → Int32) (b_K : Nat → Nat) (b_su : Nat → Int32) (b_wi : Nat → Int32) (b_wd : Nat → Int32) (b_ch : Nat → Int32) (b_tc : Nat → Int32) (hK5 : ∀ i, b_K i < 5) {r0 : Int64} {r1 : Nat → Int32} {r2 : Int32} {r3 : Nat → Int32} {r4 : Nat → Int32} {r5 : Nat → Int32} (hf : f_X11_digest b_K b_ch b_su b_tc b_wd b_wi v_course_ends v_course_getter v_course_silences v_course_stops v_course_touchers v_hall_fall v_hall_size v_hallsRead v_heard_bidders v_heard_breaths v_heard_size v_page_codes v_page_length v_restsDone = some (r0, r1, r2, r3, r4, r5)) : MD l g yX11_digest cX11_digest 4 (some .long) 7 163 [.ref a_this] ([ob a_this 11 [.ref a_this_page, .ref a_this_hall, .ref a_this_course, .ref a_this_heard, .ref a_this_image, .ref a_this_rests, .int v_hallsRead, .int v_restsDone], ob a_this_course 7 [.ref a_this_hall, .ref a_this_course_ends, .ref a_this_course_touchers, .ref a_this_course_stops, .ref a_this_course_silences, .int v_course_getter], ia g a_this_course_ends 5 v_course_ends, ia g a_this_course_silences 5 v_course_silences, ia g a_this_course_stops 5 v_course_stops, ia g a_this_course_touchers 5 v_course_touchers, ob a_this_hall 6 [.ref a_this_hall_seats, .int v_hall_size, .int v_hall_fall], ra g a_this_hall_seats 5 (fun i => some (sa i)), ob a_this_heard 8 [.ref a_this_heard_bidders, .ref a_this_heard_breaths, .int v_heard_size], ia g a_this_heard_bidders 8 v_heard_bidders, ia g a_this_heard_breaths 8 v_heard_breaths, ob a_this_page 5 [.ref a_this_page_codes, .int v_page_length], ia g a_this_page_codes 28 v_page_codes] ++ swl sa b_K b_su b_wi b_wd b_ch b_tc) (some (.long r0)) ([ob a_this 11 [.ref a_this_page, .ref a_this_hall, .ref a_this_course, .ref a_this_heard, .ref a_this_image, .ref a_this_rests, .int v_hallsRead, .int v_restsDone], ob a_this_course 7 [.ref a_this_hall, .ref a_this_course_ends, .ref a_this_course_touchers, .ref a_this_course_stops, .ref a_this_course_silences, .int r2], ia g a_this_course_ends 5 r1, ia g a_this_course_silences 5 r3, ia g a_this_course_stops 5 r4, ia g a_this_course_touchers 5 r5, ob a_this_hall 6 [.ref a_this_hall_seats, .int v_hall_size, .int v_hall_fall], ra g a_this_hall_seats 5 (fun i => some (sa i)), ob a_this_heard 8 [.ref a_this_heard_bidders, .ref a_this_heard_breaths, .int v_heard_size], ia g a_this_heard_bidders 8 v_heard_bidders, ia g a_this_heard_breaths 8 v_heard_breaths, ob a_this_page 5 [.ref a_this_page_codes, .int v_page_length], ia g a_this_page_codes 28 v_page_codes] ++ swl sa b_K b_su b_wi b_wd b_ch b_tc) := by
  refine MC.mk (by decide) (Nat.le_of_ble_eq_true rfl) ?_
  intro p e s m args below meth c ls Q A F hnm hK hw hA hl hQ
  have hP := hw.1
  have hx := F.1
  have hb := F.2.1
  have hml := F.2.2.2.1
  have hown := F.2.2.2.2.1
  have hts := F.2.2.2.2.2.1
  have hl : lv_has ls 4 [(0, .ref a_this)] := hl
  have L6 : ∀ (k : Nat) (y3 : Int32) (y1 : Int64) (w_v_course_ends : Nat → Int32) (w_v_course_getter : Int32) (w_v_course_silences : Nat → Int32) (w_v_course_stops : Nat → Int32) (w_v_course_touchers : Nat → Int32) (q : Int32 × Int64 × (Nat → Int32) × Int32 × (Nat → Int32) × (Nat → Int32) × (Nat → Int32)), f_X11_digest_6 k b_K b_ch b_su b_tc b_wd b_wi v_hall_fall v_hall_size v_hallsRead v_heard_bidders v_heard_breaths v_heard_size v_page_codes v_page_length v_restsDone y3 y1 w_v_course_ends w_v_course_getter w_v_course_silences w_v_course_stops w_v_course_touchers = some q → ∀ (H : Heap) (locs : List Loc) (ls : Array Slot), WD g A s.heap ([ob a_this 11 [.ref a_this_page, .ref a_this_hall, .ref a_this_course, .ref a_this_heard, .ref a_this_image, .ref a_this_rests, .int v_hallsRead, .int v_restsDone], ob a_this_course 7 [.ref a_this_hall, .ref a_this_course_ends, .ref a_this_course_touchers, .ref a_this_course_stops, .ref a_this_course_silences, .int w_v_course_getter], ia g a_this_course_ends 5 w_v_course_ends, ia g a_this_course_silences 5 w_v_course_silences, ia g a_this_course_stops 5 w_v_course_stops, ia g a_this_course_touchers 5 w_v_course_touchers, ob a_this_hall 6 [.ref a_this_hall_seats, .int v_hall_size, .int v_hall_fall], ra g a_this_hall_seats 5 (fun i => some (sa i)), ob a_this_heard 8 [.ref a_this_heard_bidders, .ref a_this_heard_breaths, .int v_heard_size], ia g a_this_heard_bidders 8 v_heard_bidders, ia g a_this_heard_breaths 8 v_heard_breaths, ob a_this_page 5 [.ref a_this_page_codes, .int v_page_length], ia g a_this_page_codes 28 v_page_codes] ++ swl sa b_K b_su b_wi b_wd b_ch b_tc) H locs → lv_has ls 4 [(3, .int y3), (1, .long y1), (0, .ref a_this)] → (∀ (H : Heap) (locs : List Loc) (ls : Array Slot), WD g A s.heap ([ob a_this 11 [.ref a_this_page, .ref a_this_hall, .ref a_this_course, .ref a_this_heard, .ref a_this_image, .ref a_this_rests, .int v_hallsRead, .int v_restsDone], ob a_this_course 7 [.ref a_this_hall, .ref a_this_course_ends, .ref a_this_course_touchers, .ref a_this_course_stops, .ref a_this_course_silences, .int q.2.2.2.1], ia g a_this_course_ends 5 q.2.2.1, ia g a_this_course_silences 5 q.2.2.2.2.1, ia g a_this_course_stops 5 q.2.2.2.2.2.1, ia g a_this_course_touchers 5 q.2.2.2.2.2.2, ob a_this_hall 6 [.ref a_this_hall_seats, .int v_hall_size, .int v_hall_fall], ra g a_this_hall_seats 5 (fun i => some (sa i)), ob a_this_heard 8 [.ref a_this_heard_bidders, .ref a_this_heard_breaths, .int v_heard_size], ia g a_this_heard_bidders 8 v_heard_bidders, ia g a_this_heard_breaths 8 v_heard_breaths, ob a_this_page 5 [.ref a_this_page_codes, .int v_page_length], ia g a_this_page_codes 28 v_page_codes] ++ swl sa b_K b_su b_wi b_wd b_ch b_tc) H locs → lv_has ls 4 [(3, .int q.1), (1, .long q.2.1), (0, .ref a_this)] → W p l e (rmc 7 0 0 163) s m args below meth c H locs 0 0 Q (F0 m 40 ls [])) → W p l e (rmc 7 0 0 163) s m args below meth c H locs 0 0 Q (F0 m 6 ls []) := by
    intro k
    induction k with
    | zero => intro y3 y1 w_v_course_ends w_v_course_getter w_v_course_silences w_v_course_stops w_v_course_touchers q hf; rw [f_X11_digest_6] at hf; cases hf
    | succ k ih =>
      intro y3 y1 w_v_course_ends w_v_course_getter w_v_course_silences w_v_course_stops w_v_course_touchers q hf H locs ls hw hl kx
      rw [f_X11_digest_6] at hf
      have hP := hw.1
      refine lv_iload_n hx hb dX11_digest_6 rfl (lv_at hl 0 rfl) ?_
      refine lv_iconst (v := 2) hx hb dX11_digest_7 (by decide) ?_
      refine lv_icmp_gt (tgt := 40) hx hb dX11_digest_8 (by decide) (fun h1 => ?_) (fun h1 => ?_)
      · have hf := o_t h1 hf
        cases hf
        exact kx _ _ ls hw (lv_sub hl [0, 1, 2] rfl)
      · have hf := o_f h1 hf
        refine lv_aload_n hx hb dX11_digest_11 rfl (lv_at hl 2 rfl) ?_
        refine w_get (ci := 11) F hK hP fb_X11 0 rfl rfl 1 (by decide) fl_X11_27 (fun _ h => h) rfl dX11_digest_12 ?_
        refine w_get (ci := 6) F hK hP fb_X4 6 rfl rfl 1 (by decide) fl_X11_78 (fun _ h => h) rfl dX11_digest_15 ?_
        refine lv_if_le (tgt := 40) hx hb dX11_digest_18 (by decide) (fun h2 => ?_) (fun h2 => ?_)
        · have hf := o_t h2 hf
          cases hf
          exact kx _ _ ls hw (lv_sub hl [0, 1, 2] rfl)
        · have hf := o_f h2 hf
          refine lv_ldc2 (v := 31) hx hb hown (hts _ kc_X11_225) dX11_digest_21 ?_
          refine lv_lload_n hx hb dX11_digest_24 rfl (lv_at hl 1 rfl) ?_
          refine lv_lmul hx hb dX11_digest_25 ?_
          refine lv_aload_n hx hb dX11_digest_26 rfl (lv_at hl 2 rfl) ?_
          refine lv_iload_n hx hb dX11_digest_27 rfl (lv_at hl 0 rfl) ?_
          obtain ⟨q3, hq3, hf⟩ := o_bind hf
          refine k_dV (wr := [ob a_this_heard 8 [.ref a_this_heard_bidders, .ref a_this_heard_breaths, .int v_heard_size], ia g a_this_heard_bidders 8 v_heard_bidders, ia g a_this_heard_breaths 8 v_heard_breaths, ob a_this_page 5 [.ref a_this_page_codes, .int v_page_length], ia g a_this_page_codes 28 v_page_codes]) (ws' := ([ob a_this 11 [.ref a_this_page, .ref a_this_hall, .ref a_this_course, .ref a_this_heard, .ref a_this_image, .ref a_this_rests, .int v_hallsRead, .int v_restsDone], ob a_this_course 7 [.ref a_this_hall, .ref a_this_course_ends, .ref a_this_course_touchers, .ref a_this_course_stops, .ref a_this_course_silences, .int q3.2.2.1], ia g a_this_course_ends 5 q3.2.1, ia g a_this_course_silences 5 q3.2.2.2.1, ia g a_this_course_stops 5 q3.2.2.2.2.1, ia g a_this_course_touchers 5 q3.2.2.2.2.2, ob a_this_hall 6 [.ref a_this_hall_seats, .int v_hall_size, .int v_hall_fall], ra g a_this_hall_seats 5 (fun i => some (sa i)), ob a_this_heard 8 [.ref a_this_heard_bidders, .ref a_this_heard_breaths, .int v_heard_size], ia g a_this_heard_bidders 8 v_heard_bidders, ia g a_this_heard_breaths 8 v_heard_breaths, ob a_this_page 5 [.ref a_this_page_codes, .int v_page_length], ia g a_this_page_codes 28 v_page_codes] ++ swl sa b_K b_su b_wi b_wd b_ch b_tc)) F (c_X11_lot l g a_this a_this_page a_this_hall a_this_course a_this_heard a_this_image a_this_rests a_this_course_ends a_this_course_touchers a_this_course_stops a_this_course_silences a_this_hall_seats sa y3 v_hallsRead v_restsDone w_v_course_getter w_v_course_ends w_v_course_silences w_v_course_stops w_v_course_touchers v_hall_size v_hall_fall b_K b_su b_wi b_wd b_ch b_tc hK5 hq3) qv_X11_lot ml_X11_227 hw hA hK [0, 1, 2, 3, 4, 5, 6, 7, 13, 14, 15, 16, 17] [8, 9, 10, 11, 12] [5, 6, 7, 8, 9, 10, 11, 12, 0, 1, 2, 3, 4, 13, 14, 15, 16, 17] rfl rfl rfl rfl rfl (by decide) rfl rfl rfl (va_recv hK.1 hP (ci := 11) (q0 := 0) rfl rfl) rfl hl.1 rfl (Nat.le_of_ble_eq_true rfl) dX11_digest_28 ⟨(Nat.le_of_ble_eq_true rfl), (Nat.le_of_ble_eq_true rfl)⟩ ⟨(Nat.le_of_ble_eq_true rfl), (Nat.le_of_ble_eq_true rfl)⟩ (fun H locs hw => ?_)
          have hP := hw.1
          refine W.eq (g2 := F0 m 31 ls (.int q3.1 :: [.long (31 * y1)])) rfl ?_
          refine lv_i2l hx hb dX11_digest_31 rfl ?_
          refine lv_ladd hx hb dX11_digest_32 ?_
          refine lv_topl (fun z4 ez4 => ?_)
          have hf := o_bnd ez4 hf
          refine lv_lstore_n (lv' := [(1, .long z4), (3, .int y3), (0, .ref a_this)]) hx hb dX11_digest_33 rfl hl (by decide) rfl (fun ls hl => ?_)
          obtain ⟨z5, ez5⟩ : ∃ y : Int32, y = y3 + 1 := ⟨_, rfl⟩
          have hf := o_bnd ez5 hf
          refine lv_iinc (v := z5) (lv' := [(3, .int z5), (1, .long z4), (0, .ref a_this)]) hx hb dX11_digest_34 hl (k := 1) rfl (by rw [ez5]; rfl) (by decide) rfl (fun ls hl => ?_)
          refine lv_goto (tgt := 6) hx hb dX11_digest_37 (by decide) ?_
          exact ih z5 z4 q3.2.1 q3.2.2.1 q3.2.2.2.1 q3.2.2.2.2.1 q3.2.2.2.2.2 _ hf _ _ ls hw (lv_sub hl [0, 1, 2] rfl) kx
  have L42 : ∀ (k : Nat) (y3 : Int32) (y1 : Int64) (w_v_course_ends : Nat → Int32) (w_v_course_getter : Int32) (w_v_course_silences : Nat → Int32) (w_v_course_stops : Nat → Int32) (w_v_course_touchers : Nat → Int32) (q : Int32 × Int64 × (Nat → Int32) × Int32 × (Nat → Int32) × (Nat → Int32) × (Nat → Int32)), f_X11_digest_42 k b_K b_ch b_su b_tc b_wd b_wi v_hall_fall v_hall_size v_hallsRead v_heard_bidders v_heard_breaths v_heard_size v_page_codes v_page_length v_restsDone y3 y1 w_v_course_ends w_v_course_getter w_v_course_silences w_v_course_stops w_v_course_touchers = some q → ∀ (H : Heap) (locs : List Loc) (ls : Array Slot), WD g A s.heap ([ob a_this 11 [.ref a_this_page, .ref a_this_hall, .ref a_this_course, .ref a_this_heard, .ref a_this_image, .ref a_this_rests, .int v_hallsRead, .int v_restsDone], ob a_this_course 7 [.ref a_this_hall, .ref a_this_course_ends, .ref a_this_course_touchers, .ref a_this_course_stops, .ref a_this_course_silences, .int w_v_course_getter], ia g a_this_course_ends 5 w_v_course_ends, ia g a_this_course_silences 5 w_v_course_silences, ia g a_this_course_stops 5 w_v_course_stops, ia g a_this_course_touchers 5 w_v_course_touchers, ob a_this_hall 6 [.ref a_this_hall_seats, .int v_hall_size, .int v_hall_fall], ra g a_this_hall_seats 5 (fun i => some (sa i)), ob a_this_heard 8 [.ref a_this_heard_bidders, .ref a_this_heard_breaths, .int v_heard_size], ia g a_this_heard_bidders 8 v_heard_bidders, ia g a_this_heard_breaths 8 v_heard_breaths, ob a_this_page 5 [.ref a_this_page_codes, .int v_page_length], ia g a_this_page_codes 28 v_page_codes] ++ swl sa b_K b_su b_wi b_wd b_ch b_tc) H locs → lv_has ls 4 [(3, .int y3), (1, .long y1), (0, .ref a_this)] → (∀ (H : Heap) (locs : List Loc) (ls : Array Slot), WD g A s.heap ([ob a_this 11 [.ref a_this_page, .ref a_this_hall, .ref a_this_course, .ref a_this_heard, .ref a_this_image, .ref a_this_rests, .int v_hallsRead, .int v_restsDone], ob a_this_course 7 [.ref a_this_hall, .ref a_this_course_ends, .ref a_this_course_touchers, .ref a_this_course_stops, .ref a_this_course_silences, .int q.2.2.2.1], ia g a_this_course_ends 5 q.2.2.1, ia g a_this_course_silences 5 q.2.2.2.2.1, ia g a_this_course_stops 5 q.2.2.2.2.2.1, ia g a_this_course_touchers 5 q.2.2.2.2.2.2, ob a_this_hall 6 [.ref a_this_hall_seats, .int v_hall_size, .int v_hall_fall], ra g a_this_hall_seats 5 (fun i => some (sa i)), ob a_this_heard 8 [.ref a_this_heard_bidders, .ref a_this_heard_breaths, .int v_heard_size], ia g a_this_heard_bidders 8 v_heard_bidders, ia g a_this_heard_breaths 8 v_heard_breaths, ob a_this_page 5 [.ref a_this_page_codes, .int v_page_length], ia g a_this_page_codes 28 v_page_codes] ++ swl sa b_K b_su b_wi b_wd b_ch b_tc) H locs → lv_has ls 4 [(3, .int q.1), (1, .long q.2.1), (0, .ref a_this)] → W p l e (rmc 7 0 0 163) s m args below meth c H locs 0 0 Q (F0 m 76 ls [])) → W p l e (rmc 7 0 0 163) s m args below meth c H locs 0 0 Q (F0 m 42 ls []) := by
    intro k
    induction k with
    | zero => intro y3 y1 w_v_course_ends w_v_course_getter w_v_course_silences w_v_course_stops w_v_course_touchers q hf; rw [f_X11_digest_42] at hf; cases hf
    | succ k ih =>
      intro y3 y1 w_v_course_ends w_v_course_getter w_v_course_silences w_v_course_stops w_v_course_touchers q hf H locs ls hw hl kx
      rw [f_X11_digest_42] at hf
      have hP := hw.1
      refine lv_iload_n hx hb dX11_digest_42 rfl (lv_at hl 0 rfl) ?_
      refine lv_iconst (v := 1) hx hb dX11_digest_43 (by decide) ?_
      refine lv_icmp_gt (tgt := 76) hx hb dX11_digest_44 (by decide) (fun h7 => ?_) (fun h7 => ?_)
      · have hf := o_t h7 hf
        cases hf
        exact kx _ _ ls hw (lv_sub hl [0, 1, 2] rfl)
      · have hf := o_f h7 hf
        refine lv_aload_n hx hb dX11_digest_47 rfl (lv_at hl 2 rfl) ?_
        refine w_get (ci := 11) F hK hP fb_X11 0 rfl rfl 1 (by decide) fl_X11_27 (fun _ h => h) rfl dX11_digest_48 ?_
        refine w_get (ci := 6) F hK hP fb_X4 6 rfl rfl 1 (by decide) fl_X11_78 (fun _ h => h) rfl dX11_digest_51 ?_
        refine lv_if_le (tgt := 76) hx hb dX11_digest_54 (by decide) (fun h8 => ?_) (fun h8 => ?_)
        · have hf := o_t h8 hf
          cases hf
          exact kx _ _ ls hw (lv_sub hl [0, 1, 2] rfl)
        · have hf := o_f h8 hf
          refine lv_ldc2 (v := 31) hx hb hown (hts _ kc_X11_225) dX11_digest_57 ?_
          refine lv_lload_n hx hb dX11_digest_60 rfl (lv_at hl 1 rfl) ?_
          refine lv_lmul hx hb dX11_digest_61 ?_
          refine lv_aload_n hx hb dX11_digest_62 rfl (lv_at hl 2 rfl) ?_
          refine lv_iload_n hx hb dX11_digest_63 rfl (lv_at hl 0 rfl) ?_
          obtain ⟨q9, hq9, hf⟩ := o_bind hf
          refine k_dV (wr := [ob a_this_page 5 [.ref a_this_page_codes, .int v_page_length], ia g a_this_page_codes 28 v_page_codes]) (ws' := ([ob a_this 11 [.ref a_this_page, .ref a_this_hall, .ref a_this_course, .ref a_this_heard, .ref a_this_image, .ref a_this_rests, .int v_hallsRead, .int v_restsDone], ob a_this_course 7 [.ref a_this_hall, .ref a_this_course_ends, .ref a_this_course_touchers, .ref a_this_course_stops, .ref a_this_course_silences, .int q9.2.2.1], ia g a_this_course_ends 5 q9.2.1, ia g a_this_course_silences 5 q9.2.2.2.1, ia g a_this_course_stops 5 q9.2.2.2.2.1, ia g a_this_course_touchers 5 q9.2.2.2.2.2, ob a_this_hall 6 [.ref a_this_hall_seats, .int v_hall_size, .int v_hall_fall], ra g a_this_hall_seats 5 (fun i => some (sa i)), ob a_this_heard 8 [.ref a_this_heard_bidders, .ref a_this_heard_breaths, .int v_heard_size], ia g a_this_heard_bidders 8 v_heard_bidders, ia g a_this_heard_breaths 8 v_heard_breaths, ob a_this_page 5 [.ref a_this_page_codes, .int v_page_length], ia g a_this_page_codes 28 v_page_codes] ++ swl sa b_K b_su b_wi b_wd b_ch b_tc)) F (c_X11_touched l g a_this a_this_page a_this_hall a_this_course a_this_heard a_this_image a_this_rests a_this_course_ends a_this_course_touchers a_this_course_stops a_this_course_silences a_this_hall_seats a_this_heard_bidders a_this_heard_breaths sa y3 v_hallsRead v_restsDone w_v_course_getter w_v_course_ends w_v_course_silences w_v_course_stops w_v_course_touchers v_hall_size v_hall_fall v_heard_size v_heard_bidders v_heard_breaths b_K b_su b_wi b_wd b_ch b_tc hK5 hq9) qv_X11_touched ml_X11_230 hw hA hK [0, 1, 2, 3, 4, 5, 6, 7, 8, 9, 10, 13, 14, 15, 16, 17] [11, 12] [2, 3, 4, 5, 6, 7, 8, 9, 10, 11, 12, 0, 1, 13, 14, 15, 16, 17] rfl rfl rfl rfl rfl (by decide) rfl rfl rfl (va_recv hK.1 hP (ci := 11) (q0 := 0) rfl rfl) rfl hl.1 rfl (Nat.le_of_ble_eq_true rfl) dX11_digest_64 ⟨(Nat.le_of_ble_eq_true rfl), (Nat.le_of_ble_eq_true rfl)⟩ ⟨(Nat.le_of_ble_eq_true rfl), (Nat.le_of_ble_eq_true rfl)⟩ (fun H locs hw => ?_)
          have hP := hw.1
          refine W.eq (g2 := F0 m 67 ls (.int q9.1 :: [.long (31 * y1)])) rfl ?_
          refine lv_i2l hx hb dX11_digest_67 rfl ?_
          refine lv_ladd hx hb dX11_digest_68 ?_
          refine lv_topl (fun z10 ez10 => ?_)
          have hf := o_bnd ez10 hf
          refine lv_lstore_n (lv' := [(1, .long z10), (3, .int y3), (0, .ref a_this)]) hx hb dX11_digest_69 rfl hl (by decide) rfl (fun ls hl => ?_)
          obtain ⟨z11, ez11⟩ : ∃ y : Int32, y = y3 + 1 := ⟨_, rfl⟩
          have hf := o_bnd ez11 hf
          refine lv_iinc (v := z11) (lv' := [(3, .int z11), (1, .long z10), (0, .ref a_this)]) hx hb dX11_digest_70 hl (k := 1) rfl (by rw [ez11]; rfl) (by decide) rfl (fun ls hl => ?_)
          refine lv_goto (tgt := 42) hx hb dX11_digest_73 (by decide) ?_
          exact ih z11 z10 q9.2.1 q9.2.2.1 q9.2.2.2.1 q9.2.2.2.2.1 q9.2.2.2.2.2 _ hf _ _ ls hw (lv_sub hl [0, 1, 2] rfl) kx
  have L78 : ∀ (k : Nat) (y3 : Int32) (y1 : Int64) (w_v_course_ends : Nat → Int32) (w_v_course_getter : Int32) (w_v_course_silences : Nat → Int32) (w_v_course_stops : Nat → Int32) (w_v_course_touchers : Nat → Int32) (q : Int32 × Int64 × (Nat → Int32) × Int32 × (Nat → Int32) × (Nat → Int32) × (Nat → Int32)), f_X11_digest_78 k b_K b_ch b_su b_tc b_wd b_wi v_hall_fall v_hall_size v_hallsRead v_heard_bidders v_heard_breaths v_heard_size v_page_codes v_page_length v_restsDone y3 y1 w_v_course_ends w_v_course_getter w_v_course_silences w_v_course_stops w_v_course_touchers = some q → ∀ (H : Heap) (locs : List Loc) (ls : Array Slot), WD g A s.heap ([ob a_this 11 [.ref a_this_page, .ref a_this_hall, .ref a_this_course, .ref a_this_heard, .ref a_this_image, .ref a_this_rests, .int v_hallsRead, .int v_restsDone], ob a_this_course 7 [.ref a_this_hall, .ref a_this_course_ends, .ref a_this_course_touchers, .ref a_this_course_stops, .ref a_this_course_silences, .int w_v_course_getter], ia g a_this_course_ends 5 w_v_course_ends, ia g a_this_course_silences 5 w_v_course_silences, ia g a_this_course_stops 5 w_v_course_stops, ia g a_this_course_touchers 5 w_v_course_touchers, ob a_this_hall 6 [.ref a_this_hall_seats, .int v_hall_size, .int v_hall_fall], ra g a_this_hall_seats 5 (fun i => some (sa i)), ob a_this_heard 8 [.ref a_this_heard_bidders, .ref a_this_heard_breaths, .int v_heard_size], ia g a_this_heard_bidders 8 v_heard_bidders, ia g a_this_heard_breaths 8 v_heard_breaths, ob a_this_page 5 [.ref a_this_page_codes, .int v_page_length], ia g a_this_page_codes 28 v_page_codes] ++ swl sa b_K b_su b_wi b_wd b_ch b_tc) H locs → lv_has ls 4 [(3, .int y3), (1, .long y1), (0, .ref a_this)] → (∀ (H : Heap) (locs : List Loc) (ls : Array Slot), WD g A s.heap ([ob a_this 11 [.ref a_this_page, .ref a_this_hall, .ref a_this_course, .ref a_this_heard, .ref a_this_image, .ref a_this_rests, .int v_hallsRead, .int v_restsDone], ob a_this_course 7 [.ref a_this_hall, .ref a_this_course_ends, .ref a_this_course_touchers, .ref a_this_course_stops, .ref a_this_course_silences, .int q.2.2.2.1], ia g a_this_course_ends 5 q.2.2.1, ia g a_this_course_silences 5 q.2.2.2.2.1, ia g a_this_course_stops 5 q.2.2.2.2.2.1, ia g a_this_course_touchers 5 q.2.2.2.2.2.2, ob a_this_hall 6 [.ref a_this_hall_seats, .int v_hall_size, .int v_hall_fall], ra g a_this_hall_seats 5 (fun i => some (sa i)), ob a_this_heard 8 [.ref a_this_heard_bidders, .ref a_this_heard_breaths, .int v_heard_size], ia g a_this_heard_bidders 8 v_heard_bidders, ia g a_this_heard_breaths 8 v_heard_breaths, ob a_this_page 5 [.ref a_this_page_codes, .int v_page_length], ia g a_this_page_codes 28 v_page_codes] ++ swl sa b_K b_su b_wi b_wd b_ch b_tc) H locs → lv_has ls 4 [(3, .int q.1), (1, .long q.2.1), (0, .ref a_this)] → W p l e (rmc 7 0 0 163) s m args below meth c H locs 0 0 Q (F0 m 102 ls [])) → W p l e (rmc 7 0 0 163) s m args below meth c H locs 0 0 Q (F0 m 78 ls []) := by
    intro k
    induction k with
    | zero => intro y3 y1 w_v_course_ends w_v_course_getter w_v_course_silences w_v_course_stops w_v_course_touchers q hf; rw [f_X11_digest_78] at hf; cases hf
    | succ k ih =>
      intro y3 y1 w_v_course_ends w_v_course_getter w_v_course_silences w_v_course_stops w_v_course_touchers q hf H locs ls hw hl kx
      rw [f_X11_digest_78] at hf
      have hP := hw.1
      refine lv_iload_n hx hb dX11_digest_78 rfl (lv_at hl 0 rfl) ?_
      refine lv_aload_n hx hb dX11_digest_79 rfl (lv_at hl 2 rfl) ?_
      refine w_get (ci := 11) F hK hP fb_X11 0 rfl rfl 1 (by decide) fl_X11_27 (fun _ h => h) rfl dX11_digest_80 ?_
      refine w_get (ci := 6) F hK hP fb_X4 6 rfl rfl 1 (by decide) fl_X11_78 (fun _ h => h) rfl dX11_digest_83 ?_
      refine lv_icmp_ge (tgt := 102) hx hb dX11_digest_86 (by decide) (fun h13 => ?_) (fun h13 => ?_)
      · have hf := o_t h13 hf
        cases hf
        exact kx _ _ ls hw (lv_sub hl [0, 1, 2] rfl)
      · have hf := o_f h13 hf
        refine lv_aload_n hx hb dX11_digest_89 rfl (lv_at hl 2 rfl) ?_
        refine lv_lload_n hx hb dX11_digest_90 rfl (lv_at hl 1 rfl) ?_
        refine lv_iload_n hx hb dX11_digest_91 rfl (lv_at hl 0 rfl) ?_
        obtain ⟨q14, hq14, hf⟩ := o_bind hf
        refine k_dV (wr := [ob a_this_page 5 [.ref a_this_page_codes, .int v_page_length], ia g a_this_page_codes 28 v_page_codes]) (ws' := ([ob a_this 11 [.ref a_this_page, .ref a_this_hall, .ref a_this_course, .ref a_this_heard, .ref a_this_image, .ref a_this_rests, .int v_hallsRead, .int v_restsDone], ob a_this_course 7 [.ref a_this_hall, .ref a_this_course_ends, .ref a_this_course_touchers, .ref a_this_course_stops, .ref a_this_course_silences, .int q14.2.2.1], ia g a_this_course_ends 5 q14.2.1, ia g a_this_course_silences 5 q14.2.2.2.1, ia g a_this_course_stops 5 q14.2.2.2.2.1, ia g a_this_course_touchers 5 q14.2.2.2.2.2, ob a_this_hall 6 [.ref a_this_hall_seats, .int v_hall_size, .int v_hall_fall], ra g a_this_hall_seats 5 (fun i => some (sa i)), ob a_this_heard 8 [.ref a_this_heard_bidders, .ref a_this_heard_breaths, .int v_heard_size], ia g a_this_heard_bidders 8 v_heard_bidders, ia g a_this_heard_breaths 8 v_heard_breaths, ob a_this_page 5 [.ref a_this_page_codes, .int v_page_length], ia g a_this_page_codes 28 v_page_codes] ++ swl sa b_K b_su b_wi b_wd b_ch b_tc)) F (c_X11_digestWith l g a_this a_this_page a_this_hall a_this_course a_this_heard a_this_image a_this_rests a_this_course_ends a_this_course_touchers a_this_course_stops a_this_course_silences a_this_hall_seats a_this_heard_bidders a_this_heard_breaths sa y1 y3 v_hallsRead v_restsDone w_v_course_getter w_v_course_ends w_v_course_silences w_v_course_stops w_v_course_touchers v_hall_size v_hall_fall v_heard_size v_heard_bidders v_heard_breaths b_K b_su b_wi b_wd b_ch b_tc hK5 hq14) qv_X11_digestWith ml_X11_233 hw hA hK [0, 1, 2, 3, 4, 5, 6, 7, 8, 9, 10, 13, 14, 15, 16, 17] [11, 12] [2, 3, 4, 5, 6, 7, 8, 9, 10, 11, 12, 0, 1, 13, 14, 15, 16, 17] rfl rfl rfl rfl rfl (by decide) rfl rfl rfl (va_recv hK.1 hP (ci := 11) (q0 := 0) rfl rfl) rfl hl.1 rfl (Nat.le_of_ble_eq_true rfl) dX11_digest_92 ⟨(Nat.le_of_ble_eq_true rfl), (Nat.le_of_ble_eq_true rfl)⟩ ⟨(Nat.le_of_ble_eq_true rfl), (Nat.le_of_ble_eq_true rfl)⟩ (fun H locs hw => ?_)
        have hP := hw.1
        refine W.eq (g2 := F0 m 95 ls (.long q14.1 :: [])) rfl ?_
        refine lv_lstore_n (lv' := [(1, .long q14.1), (3, .int y3), (0, .ref a_this)]) hx hb dX11_digest_95 rfl hl (by decide) rfl (fun ls hl => ?_)
        obtain ⟨z15, ez15⟩ : ∃ y : Int32, y = y3 + 1 := ⟨_, rfl⟩
        have hf := o_bnd ez15 hf
        refine lv_iinc (v := z15) (lv' := [(3, .int z15), (1, .long q14.1), (0, .ref a_this)]) hx hb dX11_digest_96 hl (k := 1) rfl (by rw [ez15]; rfl) (by decide) rfl (fun ls hl => ?_)
        refine lv_goto (tgt := 78) hx hb dX11_digest_99 (by decide) ?_
        exact ih z15 q14.1 q14.2.1 q14.2.2.1 q14.2.2.2.1 q14.2.2.2.2.1 q14.2.2.2.2.2 _ hf _ _ ls hw (lv_sub hl [0, 1, 2] rfl) kx
  have L104 : ∀ (k : Nat) (y3 : Int32) (y1 : Int64) (w_v_course_ends : Nat → Int32) (w_v_course_getter : Int32) (w_v_course_silences : Nat → Int32) (w_v_course_stops : Nat → Int32) (w_v_course_touchers : Nat → Int32) (q : Int32 × Int64 × (Nat → Int32) × Int32 × (Nat → Int32) × (Nat → Int32) × (Nat → Int32)), f_X11_digest_104 k b_K b_ch b_su b_tc b_wd b_wi v_hall_fall v_hall_size v_hallsRead v_heard_bidders v_heard_breaths v_heard_size v_page_codes v_page_length v_restsDone y3 y1 w_v_course_ends w_v_course_getter w_v_course_silences w_v_course_stops w_v_course_touchers = some q → ∀ (H : Heap) (locs : List Loc) (ls : Array Slot), WD g A s.heap ([ob a_this 11 [.ref a_this_page, .ref a_this_hall, .ref a_this_course, .ref a_this_heard, .ref a_this_image, .ref a_this_rests, .int v_hallsRead, .int v_restsDone], ob a_this_course 7 [.ref a_this_hall, .ref a_this_course_ends, .ref a_this_course_touchers, .ref a_this_course_stops, .ref a_this_course_silences, .int w_v_course_getter], ia g a_this_course_ends 5 w_v_course_ends, ia g a_this_course_silences 5 w_v_course_silences, ia g a_this_course_stops 5 w_v_course_stops, ia g a_this_course_touchers 5 w_v_course_touchers, ob a_this_hall 6 [.ref a_this_hall_seats, .int v_hall_size, .int v_hall_fall], ra g a_this_hall_seats 5 (fun i => some (sa i)), ob a_this_heard 8 [.ref a_this_heard_bidders, .ref a_this_heard_breaths, .int v_heard_size], ia g a_this_heard_bidders 8 v_heard_bidders, ia g a_this_heard_breaths 8 v_heard_breaths, ob a_this_page 5 [.ref a_this_page_codes, .int v_page_length], ia g a_this_page_codes 28 v_page_codes] ++ swl sa b_K b_su b_wi b_wd b_ch b_tc) H locs → lv_has ls 4 [(3, .int y3), (1, .long y1), (0, .ref a_this)] → (∀ (H : Heap) (locs : List Loc) (ls : Array Slot), WD g A s.heap ([ob a_this 11 [.ref a_this_page, .ref a_this_hall, .ref a_this_course, .ref a_this_heard, .ref a_this_image, .ref a_this_rests, .int v_hallsRead, .int v_restsDone], ob a_this_course 7 [.ref a_this_hall, .ref a_this_course_ends, .ref a_this_course_touchers, .ref a_this_course_stops, .ref a_this_course_silences, .int q.2.2.2.1], ia g a_this_course_ends 5 q.2.2.1, ia g a_this_course_silences 5 q.2.2.2.2.1, ia g a_this_course_stops 5 q.2.2.2.2.2.1, ia g a_this_course_touchers 5 q.2.2.2.2.2.2, ob a_this_hall 6 [.ref a_this_hall_seats, .int v_hall_size, .int v_hall_fall], ra g a_this_hall_seats 5 (fun i => some (sa i)), ob a_this_heard 8 [.ref a_this_heard_bidders, .ref a_this_heard_breaths, .int v_heard_size], ia g a_this_heard_bidders 8 v_heard_bidders, ia g a_this_heard_breaths 8 v_heard_breaths, ob a_this_page 5 [.ref a_this_page_codes, .int v_page_length], ia g a_this_page_codes 28 v_page_codes] ++ swl sa b_K b_su b_wi b_wd b_ch b_tc) H locs → lv_has ls 4 [(3, .int q.1), (1, .long q.2.1), (0, .ref a_this)] → W p l e (rmc 7 0 0 163) s m args below meth c H locs 0 0 Q (F0 m 138 ls [])) → W p l e (rmc 7 0 0 163) s m args below meth c H locs 0 0 Q (F0 m 104 ls []) := by
    intro k
    induction k with
    | zero => intro y3 y1 w_v_course_ends w_v_course_getter w_v_course_silences w_v_course_stops w_v_course_touchers q hf; rw [f_X11_digest_104] at hf; cases hf
    | succ k ih =>
      intro y3 y1 w_v_course_ends w_v_course_getter w_v_course_silences w_v_course_stops w_v_course_touchers q hf H locs ls hw hl kx
      rw [f_X11_digest_104] at hf
      have hP := hw.1
      refine lv_iload_n hx hb dX11_digest_104 rfl (lv_at hl 0 rfl) ?_
      refine lv_aload_n hx hb dX11_digest_105 rfl (lv_at hl 2 rfl) ?_
      refine w_get (ci := 11) F hK hP fb_X11 0 rfl rfl 0 (by decide) fl_X11_10 (fun _ h => h) rfl dX11_digest_106 ?_
      refine w_get (ci := 5) F hK hP fb_X7 11 rfl rfl 1 (by decide) fl_X11_57 (fun _ h => h) rfl dX11_digest_109 ?_
      refine lv_icmp_ge (tgt := 138) hx hb dX11_digest_112 (by decide) (fun h17 => ?_) (fun h17 => ?_)
      · have hf := o_t h17 hf
        cases hf
        exact kx _ _ ls hw (lv_sub hl [0, 1, 2] rfl)
      · have hf := o_f h17 hf
        refine lv_ldc2 (v := 31) hx hb hown (hts _ kc_X11_225) dX11_digest_115 ?_
        refine lv_lload_n hx hb dX11_digest_118 rfl (lv_at hl 1 rfl) ?_
        refine lv_lmul hx hb dX11_digest_119 ?_
        refine lv_aload_n hx hb dX11_digest_120 rfl (lv_at hl 2 rfl) ?_
        refine w_get (ci := 11) F hK hP fb_X11 0 rfl rfl 0 (by decide) fl_X11_10 (fun _ h => h) rfl dX11_digest_121 ?_
        refine w_get (ci := 5) F hK hP fb_X7 11 rfl rfl 0 (by decide) fl_X11_237 (fun _ h => h) rfl dX11_digest_124 ?_
        refine lv_iload_n hx hb dX11_digest_127 rfl (lv_at hl 0 rfl) ?_
        obtain ⟨h18, hf⟩ := o_chk hf
        refine w_iald F hK hP 12 rfl h18 dX11_digest_128 ?_
        refine lv_i2l hx hb dX11_digest_129 rfl ?_
        refine lv_ladd hx hb dX11_digest_130 ?_
        refine lv_topl (fun z19 ez19 => ?_)
        have hf := o_bnd ez19 hf
        refine lv_lstore_n (lv' := [(1, .long z19), (3, .int y3), (0, .ref a_this)]) hx hb dX11_digest_131 rfl hl (by decide) rfl (fun ls hl => ?_)
        obtain ⟨z20, ez20⟩ : ∃ y : Int32, y = y3 + 1 := ⟨_, rfl⟩
        have hf := o_bnd ez20 hf
        refine lv_iinc (v := z20) (lv' := [(3, .int z20), (1, .long z19), (0, .ref a_this)]) hx hb dX11_digest_132 hl (k := 1) rfl (by rw [ez20]; rfl) (by decide) rfl (fun ls hl => ?_)
        refine lv_goto (tgt := 104) hx hb dX11_digest_135 (by decide) ?_
        exact ih z20 z19 w_v_course_ends w_v_course_getter w_v_course_silences w_v_course_stops w_v_course_touchers _ hf _ _ ls hw (lv_sub hl [0, 1, 2] rfl) kx
  have L140 : ∀ (k : Nat) (y3 : Int32) (y1 : Int64) (w_v_course_ends : Nat → Int32) (w_v_course_getter : Int32) (w_v_course_silences : Nat → Int32) (w_v_course_stops : Nat → Int32) (w_v_course_touchers : Nat → Int32) (q : Int32 × Int64 × (Nat → Int32) × Int32 × (Nat → Int32) × (Nat → Int32) × (Nat → Int32)), f_X11_digest_140 k b_K b_ch b_su b_tc b_wd b_wi v_hall_fall v_hall_size v_hallsRead v_heard_bidders v_heard_breaths v_heard_size v_page_codes v_page_length v_restsDone y3 y1 w_v_course_ends w_v_course_getter w_v_course_silences w_v_course_stops w_v_course_touchers = some q → ∀ (H : Heap) (locs : List Loc) (ls : Array Slot), WD g A s.heap ([ob a_this 11 [.ref a_this_page, .ref a_this_hall, .ref a_this_course, .ref a_this_heard, .ref a_this_image, .ref a_this_rests, .int v_hallsRead, .int v_restsDone], ob a_this_course 7 [.ref a_this_hall, .ref a_this_course_ends, .ref a_this_course_touchers, .ref a_this_course_stops, .ref a_this_course_silences, .int w_v_course_getter], ia g a_this_course_ends 5 w_v_course_ends, ia g a_this_course_silences 5 w_v_course_silences, ia g a_this_course_stops 5 w_v_course_stops, ia g a_this_course_touchers 5 w_v_course_touchers, ob a_this_hall 6 [.ref a_this_hall_seats, .int v_hall_size, .int v_hall_fall], ra g a_this_hall_seats 5 (fun i => some (sa i)), ob a_this_heard 8 [.ref a_this_heard_bidders, .ref a_this_heard_breaths, .int v_heard_size], ia g a_this_heard_bidders 8 v_heard_bidders, ia g a_this_heard_breaths 8 v_heard_breaths, ob a_this_page 5 [.ref a_this_page_codes, .int v_page_length], ia g a_this_page_codes 28 v_page_codes] ++ swl sa b_K b_su b_wi b_wd b_ch b_tc) H locs → lv_has ls 4 [(3, .int y3), (1, .long y1), (0, .ref a_this)] → (∀ (H : Heap) (locs : List Loc) (ls : Array Slot), WD g A s.heap ([ob a_this 11 [.ref a_this_page, .ref a_this_hall, .ref a_this_course, .ref a_this_heard, .ref a_this_image, .ref a_this_rests, .int v_hallsRead, .int v_restsDone], ob a_this_course 7 [.ref a_this_hall, .ref a_this_course_ends, .ref a_this_course_touchers, .ref a_this_course_stops, .ref a_this_course_silences, .int q.2.2.2.1], ia g a_this_course_ends 5 q.2.2.1, ia g a_this_course_silences 5 q.2.2.2.2.1, ia g a_this_course_stops 5 q.2.2.2.2.2.1, ia g a_this_course_touchers 5 q.2.2.2.2.2.2, ob a_this_hall 6 [.ref a_this_hall_seats, .int v_hall_size, .int v_hall_fall], ra g a_this_hall_seats 5 (fun i => some (sa i)), ob a_this_heard 8 [.ref a_this_heard_bidders, .ref a_this_heard_breaths, .int v_heard_size], ia g a_this_heard_bidders 8 v_heard_bidders, ia g a_this_heard_breaths 8 v_heard_breaths, ob a_this_page 5 [.ref a_this_page_codes, .int v_page_length], ia g a_this_page_codes 28 v_page_codes] ++ swl sa b_K b_su b_wi b_wd b_ch b_tc) H locs → lv_has ls 4 [(3, .int q.1), (1, .long q.2.1), (0, .ref a_this)] → W p l e (rmc 7 0 0 163) s m args below meth c H locs 0 0 Q (F0 m 165 ls [])) → W p l e (rmc 7 0 0 163) s m args below meth c H locs 0 0 Q (F0 m 140 ls []) := by
    intro k
    induction k with
    | zero => intro y3 y1 w_v_course_ends w_v_course_getter w_v_course_silences w_v_course_stops w_v_course_touchers q hf; rw [f_X11_digest_140] at hf; cases hf
    | succ k ih =>
      intro y3 y1 w_v_course_ends w_v_course_getter w_v_course_silences w_v_course_stops w_v_course_touchers q hf H locs ls hw hl kx
      rw [f_X11_digest_140] at hf
      have hP := hw.1
      refine lv_iload_n hx hb dX11_digest_140 rfl (lv_at hl 0 rfl) ?_
      refine lv_bipush (v := 7) hx hb dX11_digest_141 (by decide) ?_
      refine lv_icmp_gt (tgt := 165) hx hb dX11_digest_143 (by decide) (fun h22 => ?_) (fun h22 => ?_)
      · have hf := o_t h22 hf
        cases hf
        exact kx _ _ ls hw (lv_sub hl [0, 1, 2] rfl)
      · have hf := o_f h22 hf
        refine lv_ldc2 (v := 31) hx hb hown (hts _ kc_X11_225) dX11_digest_146 ?_
        refine lv_lload_n hx hb dX11_digest_149 rfl (lv_at hl 1 rfl) ?_
        refine lv_lmul hx hb dX11_digest_150 ?_
        refine lv_aload_n hx hb dX11_digest_151 rfl (lv_at hl 2 rfl) ?_
        refine lv_iload_n hx hb dX11_digest_152 rfl (lv_at hl 0 rfl) ?_
        obtain ⟨q23, hq23, hf⟩ := o_bind hf
        refine k_rV F (c_X11_count l g a_this a_this_page a_this_hall a_this_course a_this_heard a_this_image a_this_rests a_this_hall_seats a_this_heard_bidders a_this_heard_breaths a_this_page_codes sa y3 v_hallsRead v_restsDone v_hall_size v_hall_fall v_heard_size v_page_length b_K b_su b_wi b_wd b_ch b_tc hK5 hq23) qv_X11_count ml_X11_240 (hP.sub [0, 6, 7, 8, 11, 13, 14, 15, 16, 17] rfl) hK (va_recv hK.1 hP (ci := 11) (q0 := 0) rfl rfl) rfl hl.1 rfl (Nat.le_of_ble_eq_true rfl) dX11_digest_153 ⟨(Nat.le_of_ble_eq_true rfl), (Nat.le_of_ble_eq_true rfl)⟩ ⟨(Nat.le_of_ble_eq_true rfl), (Nat.le_of_ble_eq_true rfl)⟩ ?_
        refine W.eq (g2 := F0 m 156 ls (.int q23 :: [.long (31 * y1)])) rfl ?_
        refine lv_i2l hx hb dX11_digest_156 rfl ?_
        refine lv_ladd hx hb dX11_digest_157 ?_
        refine lv_topl (fun z24 ez24 => ?_)
        have hf := o_bnd ez24 hf
        refine lv_lstore_n (lv' := [(1, .long z24), (3, .int y3), (0, .ref a_this)]) hx hb dX11_digest_158 rfl hl (by decide) rfl (fun ls hl => ?_)
        obtain ⟨z25, ez25⟩ : ∃ y : Int32, y = y3 + 1 := ⟨_, rfl⟩
        have hf := o_bnd ez25 hf
        refine lv_iinc (v := z25) (lv' := [(3, .int z25), (1, .long z24), (0, .ref a_this)]) hx hb dX11_digest_159 hl (k := 1) rfl (by rw [ez25]; rfl) (by decide) rfl (fun ls hl => ?_)
        refine lv_goto (tgt := 140) hx hb dX11_digest_162 (by decide) ?_
        exact ih z25 z24 w_v_course_ends w_v_course_getter w_v_course_silences w_v_course_stops w_v_course_touchers _ hf _ _ ls hw (lv_sub hl [0, 1, 2] rfl) kx
  unfold f_X11_digest at hf
  refine lv_ldc2 (v := 911) hx hb hown (hts _ kc_X11_223) dX11_digest_0 ?_
  refine lv_lstore_n (lv' := [(1, .long 911), (0, .ref a_this)]) hx hb dX11_digest_3 rfl hl (by decide) rfl (fun ls hl => ?_)
  refine lv_iconst (v := 0) hx hb dX11_digest_4 (by decide) ?_
  refine lv_istore_n (lv' := [(3, .int 0), (1, .long 911), (0, .ref a_this)]) hx hb dX11_digest_5 rfl hl (by decide) rfl (fun ls hl => ?_)
  obtain ⟨q6, hq6, hf⟩ := o_bind hf
  refine L6 _ 0 911 v_course_ends v_course_getter v_course_silences v_course_stops v_course_touchers _ hq6 _ _ ls hw (lv_sub hl [0, 1, 2] rfl) (fun H locs ls hw hl => ?_)
  have hP := hw.1
  refine lv_iconst (v := 0) hx hb dX11_digest_40 (by decide) ?_
  refine lv_istore_n (lv' := [(3, .int 0), (1, .long q6.2.1), (0, .ref a_this)]) hx hb dX11_digest_41 rfl hl (by decide) rfl (fun ls hl => ?_)
  obtain ⟨q12, hq12, hf⟩ := o_bind hf
  refine L42 _ 0 q6.2.1 q6.2.2.1 q6.2.2.2.1 q6.2.2.2.2.1 q6.2.2.2.2.2.1 q6.2.2.2.2.2.2 _ hq12 _ _ ls hw (lv_sub hl [0, 1, 2] rfl) (fun H locs ls hw hl => ?_)
  have hP := hw.1
  refine lv_iconst (v := 0) hx hb dX11_digest_76 (by decide) ?_
  refine lv_istore_n (lv' := [(3, .int 0), (1, .long q12.2.1), (0, .ref a_this)]) hx hb dX11_digest_77 rfl hl (by decide) rfl (fun ls hl => ?_)
  obtain ⟨q16, hq16, hf⟩ := o_bind hf
  refine L78 _ 0 q12.2.1 q12.2.2.1 q12.2.2.2.1 q12.2.2.2.2.1 q12.2.2.2.2.2.1 q12.2.2.2.2.2.2 _ hq16 _ _ ls hw (lv_sub hl [0, 1, 2] rfl) (fun H locs ls hw hl => ?_)
  have hP := hw.1
  refine lv_iconst (v := 0) hx hb dX11_digest_102 (by decide) ?_
  refine lv_istore_n (lv' := [(3, .int 0), (1, .long q16.2.1), (0, .ref a_this)]) hx hb dX11_digest_103 rfl hl (by decide) rfl (fun ls hl => ?_)
  obtain ⟨q21, hq21, hf⟩ := o_bind hf
  refine L104 _ 0 q16.2.1 q16.2.2.1 q16.2.2.2.1 q16.2.2.2.2.1 q16.2.2.2.2.2.1 q16.2.2.2.2.2.2 _ hq21 _ _ ls hw (lv_sub hl [0, 1, 2] rfl) (fun H locs ls hw hl => ?_)
  have hP := hw.1
  refine lv_iconst (v := 0) hx hb dX11_digest_138 (by decide) ?_
  refine lv_istore_n (lv' := [(3, .int 0), (1, .long q21.2.1), (0, .ref a_this)]) hx hb dX11_digest_139 rfl hl (by decide) rfl (fun ls hl => ?_)
  obtain ⟨q26, hq26, hf⟩ := o_bind hf
  refine L140 _ 0 q21.2.1 q21.2.2.1 q21.2.2.2.1 q21.2.2.2.2.1 q21.2.2.2.2.2.1 q21.2.2.2.2.2.2 _ hq26 _ _ ls hw (lv_sub hl [0, 1, 2] rfl) (fun H locs ls hw hl => ?_)
  have hP := hw.1
  refine lv_lload_n hx hb dX11_digest_165 rfl (lv_at hl 1 rfl) ?_
  cases hf
  exact r_cl F hQ ⟨rfl, rfl⟩ hw dX11_digest_166
