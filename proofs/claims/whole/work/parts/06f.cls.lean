def f_X11_wind (x1 : Int32) (x2 : Int32) (b_wd : Nat → Int32) (v_hall_size : Int32) : Option (Int32 × (Nat → Int32)) := ((f_X4_has x1 v_hall_size).bind fun q1 => (if q1 = 0 then (some ((-101), b_wd)) else (if x2 < 1 then (some ((-102), b_wd)) else (if x2 ≤ 9 then (if x1 < 0 ∨ 5 ≤ Int32.toNatClampNeg x1 then none else (bnd (b_wd (Int32.toNatClampNeg x1)) fun z6 => (some (z6, (upd b_wd (Int32.toNatClampNeg x1) x2))))) else (some ((-102), b_wd))))))
set_option maxRecDepth 100000 in
set_option maxHeartbeats 4000000 in
theorem c_X11_wind (l : Launch) (g : GG) (a_this : Nat) (a_this_page : Nat) (a_this_hall : Nat) (a_this_course : Nat) (a_this_heard : Nat) (a_this_image : Nat) (a_this_rests : Nat) (a_this_hall_seats : Nat) (sa : Nat → Nat) (x1 : Int32) (x2 : Int32) (v_hallsRead : Int32) (v_restsDone : Int32) (v_hall_size : Int32) (v_hall_fall : Int32) (b_K : Nat → Nat) (b_su : Nat → Int32) (b_wi : Nat → Int32) (b_wd : Nat → Int32) (b_ch : Nat → Int32) (b_tc : Nat → Int32) (hK5 : ∀ i, b_K i < 5) {r0 : Int32} {r1 : Nat → Int32} (hf : f_X11_wind x1 x2 b_wd v_hall_size = some (r0, r1)) : MD l g yX11_wind cX11_wind 5 (some .int) 1 21 [.ref a_this, .int x1, .int x2] ([ob a_this 11 [.ref a_this_page, .ref a_this_hall, .ref a_this_course, .ref a_this_heard, .ref a_this_image, .ref a_this_rests, .int v_hallsRead, .int v_restsDone], ob a_this_hall 6 [.ref a_this_hall_seats, .int v_hall_size, .int v_hall_fall], ra g a_this_hall_seats 5 (fun i => some (sa i))] ++ swl sa b_K b_su b_wi b_wd b_ch b_tc) (some (.int r0)) ([ob a_this 11 [.ref a_this_page, .ref a_this_hall, .ref a_this_course, .ref a_this_heard, .ref a_this_image, .ref a_this_rests, .int v_hallsRead, .int v_restsDone], ob a_this_hall 6 [.ref a_this_hall_seats, .int v_hall_size, .int v_hall_fall], ra g a_this_hall_seats 5 (fun i => some (sa i))] ++ swl sa b_K b_su b_wi r1 b_ch b_tc) := by
  refine MC.mk (by decide) (Nat.le_of_ble_eq_true rfl) ?_
  intro p e s m args below meth c ls Q A F hnm hK hw hA hl hQ
  have hP := hw.1
  have hx := F.1
  have hb := F.2.1
  have hml := F.2.2.2.1
  have hown := F.2.2.2.2.1
  have hts := F.2.2.2.2.2.1
  have hl : lv_has ls 5 [(0, .ref a_this), (1, .int x1), (2, .int x2)] := hl
  unfold f_X11_wind at hf
  refine lv_aload_n hx hb dX11_wind_0 rfl (lv_at hl 0 rfl) ?_
  refine w_get (ci := 11) F hK hP fb_X11 0 rfl rfl 1 (by decide) fl_X11_27 (fun _ h => h) rfl dX11_wind_1 ?_
  refine lv_iload_n hx hb dX11_wind_4 rfl (lv_at hl 1 rfl) ?_
  obtain ⟨q1, hq1, hf⟩ := o_bind hf
  refine k_rV F (c_X4_has l g a_this_hall a_this_hall_seats x1 v_hall_size v_hall_fall hq1) qv_X4_has ml_X11_81 (hP.sub [1] rfl) hK (va_recv hK.1 hP (ci := 6) (q0 := 1) rfl rfl) rfl hl.1 rfl (Nat.le_of_ble_eq_true rfl) dX11_wind_5 ⟨(Nat.le_of_ble_eq_true rfl), (Nat.le_of_ble_eq_true rfl)⟩ ⟨(Nat.le_of_ble_eq_true rfl), (Nat.le_of_ble_eq_true rfl)⟩ ?_
  refine W.eq (g2 := F0 m 8 ls (.int q1 :: [])) rfl ?_
  refine lv_if_ne (tgt := 14) hx hb dX11_wind_8 (by decide) (fun h2 => ?_) (fun h2 => ?_)
  · have hf := o_f h2 hf
    refine lv_iload_n hx hb dX11_wind_14 rfl (lv_at hl 2 rfl) ?_
    refine lv_iconst (v := 1) hx hb dX11_wind_15 (by decide) ?_
    refine lv_icmp_lt (tgt := 25) hx hb dX11_wind_16 (by decide) (fun h3 => ?_) (fun h3 => ?_)
    · have hf := o_t h3 hf
      refine lv_bipush (v := (-102)) hx hb dX11_wind_25 (by decide) ?_
      cases hf
      exact r_ci F hQ ⟨rfl, rfl⟩ hw dX11_wind_27
    · have hf := o_f h3 hf
      refine lv_iload_n hx hb dX11_wind_19 rfl (lv_at hl 2 rfl) ?_
      refine lv_bipush (v := 9) hx hb dX11_wind_20 (by decide) ?_
      refine lv_icmp_le (tgt := 28) hx hb dX11_wind_22 (by decide) (fun h4 => ?_) (fun h4 => ?_)
      · have hf := o_t h4 hf
        refine lv_aload_n hx hb dX11_wind_28 rfl (lv_at hl 0 rfl) ?_
        refine w_get (ci := 11) F hK hP fb_X11 0 rfl rfl 1 (by decide) fl_X11_27 (fun _ h => h) rfl dX11_wind_29 ?_
        refine w_get (ci := 6) F hK hP fb_X4 1 rfl rfl 0 (by decide) fl_X11_88 (fun _ h => h) rfl dX11_wind_32 ?_
        refine lv_iload_n hx hb dX11_wind_35 rfl (lv_at hl 1 rfl) ?_
        obtain ⟨h5, hf⟩ := o_chk hf
        refine w_aald F hK hP 2 rfl h5 dX11_wind_36 ?_
        refine lv_astore_n (lv' := [(3, .ref (sa (Int32.toNatClampNeg x1))), (0, .ref a_this), (1, .int x1), (2, .int x2)]) hx hb dX11_wind_37 rfl hl (by decide) rfl (fun ls hl => ?_)
        refine lv_aload_n hx hb dX11_wind_38 rfl (lv_at hl 0 rfl) ?_
        refine s_get F hK hP (in5 h5) hK5 2 rfl fl_X11_97 dX11_wind_39 ?_
        refine lv_topi (fun z6 ez6 => ?_)
        have hf := o_bnd ez6 hf
        refine lv_istore (lv' := [(4, .int z6), (3, .ref (sa (Int32.toNatClampNeg x1))), (0, .ref a_this), (1, .int x1), (2, .int x2)]) hx hb dX11_wind_42 hl (by decide) rfl (fun ls hl => ?_)
        refine lv_aload_n hx hb dX11_wind_44 rfl (lv_at hl 1 rfl) ?_
        refine lv_iload_n hx hb dX11_wind_45 rfl (lv_at hl 4 rfl) ?_
        refine s_put_wind F hK hw (in5 h5) hK5 fl_X11_97 dX11_wind_46 (fun H locs hw => ?_)
        have hP := hw.1
        refine lv_iload hx hb dX11_wind_49 (lv_at hl 0 rfl) ?_
        cases hf
        exact r_ci F hQ ⟨rfl, rfl⟩ hw dX11_wind_51
      · have hf := o_f h4 hf
        refine lv_bipush (v := (-102)) hx hb dX11_wind_25 (by decide) ?_
        cases hf
        exact r_ci F hQ ⟨rfl, rfl⟩ hw dX11_wind_27
  · have hf := o_t h2 hf
    refine lv_bipush (v := (-101)) hx hb dX11_wind_11 (by decide) ?_
    cases hf
    exact r_ci F hQ ⟨rfl, rfl⟩ hw dX11_wind_13
def f_X11_touch (x1 : Int32) (x2 : Int32) (x3 : Int32) (b_tc : Nat → Int32) (v_hall_size : Int32) : Option (Int32 × (Nat → Int32)) := ((f_X4_has x1 v_hall_size).bind fun q1 => (if q1 = 0 then (some ((-101), b_tc)) else ((f_X4_has x2 v_hall_size).bind fun q3 => (if q3 = 0 then (some ((-101), b_tc)) else (if x1 = x2 then (some ((-101), b_tc)) else (if x2 < 0 ∨ 5 ≤ Int32.toNatClampNeg x2 then none else (bnd (((b_tc (Int32.toNatClampNeg x2)) >>> (x1 &&& 31)) &&& 1) fun z7 => (if x3 = 0 then (bnd ((b_tc (Int32.toNatClampNeg x2)) &&& (((1 : Int32) <<< (x1 &&& 31)) ^^^ (-1))) fun z9 => (some (z7, (upd b_tc (Int32.toNatClampNeg x2) z9)))) else (bnd ((b_tc (Int32.toNatClampNeg x2)) ||| ((1 : Int32) <<< (x1 &&& 31))) fun z10 => (some (z7, (upd b_tc (Int32.toNatClampNeg x2) z10))))))))))))
set_option maxRecDepth 100000 in
set_option maxHeartbeats 4000000 in
theorem c_X11_touch (l : Launch) (g : GG) (a_this : Nat) (a_this_page : Nat) (a_this_hall : Nat) (a_this_course : Nat) (a_this_heard : Nat) (a_this_image : Nat) (a_this_rests : Nat) (a_this_hall_seats : Nat) (sa : Nat → Nat) (x1 : Int32) (x2 : Int32) (x3 : Int32) (v_hallsRead : Int32) (v_restsDone : Int32) (v_hall_size : Int32) (v_hall_fall : Int32) (b_K : Nat → Nat) (b_su : Nat → Int32) (b_wi : Nat → Int32) (b_wd : Nat → Int32) (b_ch : Nat → Int32) (b_tc : Nat → Int32) (hK5 : ∀ i, b_K i < 5) {r0 : Int32} {r1 : Nat → Int32} (hf : f_X11_touch x1 x2 x3 b_tc v_hall_size = some (r0, r1)) : MD l g yX11_touch cX11_touch 6 (some .int) 1 21 [.ref a_this, .int x1, .int x2, .int x3] ([ob a_this 11 [.ref a_this_page, .ref a_this_hall, .ref a_this_course, .ref a_this_heard, .ref a_this_image, .ref a_this_rests, .int v_hallsRead, .int v_restsDone], ob a_this_hall 6 [.ref a_this_hall_seats, .int v_hall_size, .int v_hall_fall], ra g a_this_hall_seats 5 (fun i => some (sa i))] ++ swl sa b_K b_su b_wi b_wd b_ch b_tc) (some (.int r0)) ([ob a_this 11 [.ref a_this_page, .ref a_this_hall, .ref a_this_course, .ref a_this_heard, .ref a_this_image, .ref a_this_rests, .int v_hallsRead, .int v_restsDone], ob a_this_hall 6 [.ref a_this_hall_seats, .int v_hall_size, .int v_hall_fall], ra g a_this_hall_seats 5 (fun i => some (sa i))] ++ swl sa b_K b_su b_wi b_wd b_ch r1) := by
  refine MC.mk (by decide) (Nat.le_of_ble_eq_true rfl) ?_
  intro p e s m args below meth c ls Q A F hnm hK hw hA hl hQ
  have hP := hw.1
  have hx := F.1
  have hb := F.2.1
  have hml := F.2.2.2.1
  have hown := F.2.2.2.2.1
  have hts := F.2.2.2.2.2.1
  have hl : lv_has ls 6 [(0, .ref a_this), (1, .int x1), (2, .int x2), (3, .int x3)] := hl
  unfold f_X11_touch at hf
  refine lv_aload_n hx hb dX11_touch_0 rfl (lv_at hl 0 rfl) ?_
  refine w_get (ci := 11) F hK hP fb_X11 0 rfl rfl 1 (by decide) fl_X11_27 (fun _ h => h) rfl dX11_touch_1 ?_
  refine lv_iload_n hx hb dX11_touch_4 rfl (lv_at hl 1 rfl) ?_
  obtain ⟨q1, hq1, hf⟩ := o_bind hf
  refine k_rV F (c_X4_has l g a_this_hall a_this_hall_seats x1 v_hall_size v_hall_fall hq1) qv_X4_has ml_X11_81 (hP.sub [1] rfl) hK (va_recv hK.1 hP (ci := 6) (q0 := 1) rfl rfl) rfl hl.1 rfl (Nat.le_of_ble_eq_true rfl) dX11_touch_5 ⟨(Nat.le_of_ble_eq_true rfl), (Nat.le_of_ble_eq_true rfl)⟩ ⟨(Nat.le_of_ble_eq_true rfl), (Nat.le_of_ble_eq_true rfl)⟩ ?_
  refine W.eq (g2 := F0 m 8 ls (.int q1 :: [])) rfl ?_
  refine lv_if_eq (tgt := 27) hx hb dX11_touch_8 (by decide) (fun h2 => ?_) (fun h2 => ?_)
  · have hf := o_t h2 hf
    refine lv_bipush (v := (-101)) hx hb dX11_touch_27 (by decide) ?_
    cases hf
    exact r_ci F hQ ⟨rfl, rfl⟩ hw dX11_touch_29
  · have hf := o_f h2 hf
    refine lv_aload_n hx hb dX11_touch_11 rfl (lv_at hl 0 rfl) ?_
    refine w_get (ci := 11) F hK hP fb_X11 0 rfl rfl 1 (by decide) fl_X11_27 (fun _ h => h) rfl dX11_touch_12 ?_
    refine lv_iload_n hx hb dX11_touch_15 rfl (lv_at hl 2 rfl) ?_
    obtain ⟨q3, hq3, hf⟩ := o_bind hf
    refine k_rV F (c_X4_has l g a_this_hall a_this_hall_seats x2 v_hall_size v_hall_fall hq3) qv_X4_has ml_X11_81 (hP.sub [1] rfl) hK (va_recv hK.1 hP (ci := 6) (q0 := 1) rfl rfl) rfl hl.1 rfl (Nat.le_of_ble_eq_true rfl) dX11_touch_16 ⟨(Nat.le_of_ble_eq_true rfl), (Nat.le_of_ble_eq_true rfl)⟩ ⟨(Nat.le_of_ble_eq_true rfl), (Nat.le_of_ble_eq_true rfl)⟩ ?_
    refine W.eq (g2 := F0 m 19 ls (.int q3 :: [])) rfl ?_
    refine lv_if_eq (tgt := 27) hx hb dX11_touch_19 (by decide) (fun h4 => ?_) (fun h4 => ?_)
    · have hf := o_t h4 hf
      refine lv_bipush (v := (-101)) hx hb dX11_touch_27 (by decide) ?_
      cases hf
      exact r_ci F hQ ⟨rfl, rfl⟩ hw dX11_touch_29
    · have hf := o_f h4 hf
      refine lv_iload_n hx hb dX11_touch_22 rfl (lv_at hl 1 rfl) ?_
      refine lv_iload_n hx hb dX11_touch_23 rfl (lv_at hl 2 rfl) ?_
      refine lv_icmp_ne (tgt := 30) hx hb dX11_touch_24 (by decide) (fun h5 => ?_) (fun h5 => ?_)
      · have hf := o_f h5 hf
        refine lv_aload_n hx hb dX11_touch_30 rfl (lv_at hl 0 rfl) ?_
        refine w_get (ci := 11) F hK hP fb_X11 0 rfl rfl 1 (by decide) fl_X11_27 (fun _ h => h) rfl dX11_touch_31 ?_
        refine w_get (ci := 6) F hK hP fb_X4 1 rfl rfl 0 (by decide) fl_X11_88 (fun _ h => h) rfl dX11_touch_34 ?_
        refine lv_iload_n hx hb dX11_touch_37 rfl (lv_at hl 2 rfl) ?_
        obtain ⟨h6, hf⟩ := o_chk hf
        refine w_aald F hK hP 2 rfl h6 dX11_touch_38 ?_
        refine lv_astore (lv' := [(4, .ref (sa (Int32.toNatClampNeg x2))), (0, .ref a_this), (1, .int x1), (2, .int x2), (3, .int x3)]) hx hb dX11_touch_39 hl (by decide) rfl (fun ls hl => ?_)
        refine lv_aload hx hb dX11_touch_41 (lv_at hl 0 rfl) ?_
        refine s_get F hK hP (in5 h6) hK5 4 rfl fl_X11_123 dX11_touch_43 ?_
        refine lv_iload_n hx hb dX11_touch_46 rfl (lv_at hl 2 rfl) ?_
        refine lv_ishr hx hb dX11_touch_47 ?_
        refine lv_iconst (v := 1) hx hb dX11_touch_48 (by decide) ?_
        refine lv_iand hx hb dX11_touch_49 ?_
        refine lv_topi (fun z7 ez7 => ?_)
        have hf := o_bnd ez7 hf
        refine lv_istore (lv' := [(5, .int z7), (4, .ref (sa (Int32.toNatClampNeg x2))), (0, .ref a_this), (1, .int x1), (2, .int x2), (3, .int x3)]) hx hb dX11_touch_50 hl (by decide) rfl (fun ls hl => ?_)
        refine lv_aload hx hb dX11_touch_52 (lv_at hl 1 rfl) ?_
        refine lv_iload_n hx hb dX11_touch_54 rfl (lv_at hl 5 rfl) ?_
        refine lv_if_eq (tgt := 70) hx hb dX11_touch_55 (by decide) (fun h8 => ?_) (fun h8 => ?_)
        · have hf := o_t h8 hf
          refine lv_aload hx hb dX11_touch_70 (lv_at hl 1 rfl) ?_
          refine s_get F hK hP (in5 h6) hK5 4 rfl fl_X11_123 dX11_touch_72 ?_
          refine lv_iconst (v := 1) hx hb dX11_touch_75 (by decide) ?_
          refine lv_iload_n hx hb dX11_touch_76 rfl (lv_at hl 3 rfl) ?_
          refine lv_ishl hx hb dX11_touch_77 ?_
          refine lv_iconst (v := (-1)) hx hb dX11_touch_78 (by decide) ?_
          refine lv_ixor hx hb dX11_touch_79 ?_
          refine lv_iand hx hb dX11_touch_80 ?_
          refine lv_topi (fun z9 ez9 => ?_)
          have hf := o_bnd ez9 hf
          refine s_put_touchers F hK hw (in5 h6) hK5 fl_X11_123 dX11_touch_81 (fun H locs hw => ?_)
          have hP := hw.1
          refine lv_iload hx hb dX11_touch_84 (lv_at hl 0 rfl) ?_
          cases hf
          exact r_ci F hQ ⟨rfl, rfl⟩ hw dX11_touch_86
        · have hf := o_f h8 hf
          refine lv_aload hx hb dX11_touch_58 (lv_at hl 1 rfl) ?_
          refine s_get F hK hP (in5 h6) hK5 4 rfl fl_X11_123 dX11_touch_60 ?_
          refine lv_iconst (v := 1) hx hb dX11_touch_63 (by decide) ?_
          refine lv_iload_n hx hb dX11_touch_64 rfl (lv_at hl 3 rfl) ?_
          refine lv_ishl hx hb dX11_touch_65 ?_
          refine lv_ior hx hb dX11_touch_66 ?_
          refine lv_goto (tgt := 81) hx hb dX11_touch_67 (by decide) ?_
          refine lv_topi (fun z10 ez10 => ?_)
          have hf := o_bnd ez10 hf
          refine s_put_touchers F hK hw (in5 h6) hK5 fl_X11_123 dX11_touch_81 (fun H locs hw => ?_)
          have hP := hw.1
          refine lv_iload hx hb dX11_touch_84 (lv_at hl 0 rfl) ?_
          cases hf
          exact r_ci F hQ ⟨rfl, rfl⟩ hw dX11_touch_86
      · have hf := o_t h5 hf
        refine lv_bipush (v := (-101)) hx hb dX11_touch_27 (by decide) ?_
        cases hf
        exact r_ci F hQ ⟨rfl, rfl⟩ hw dX11_touch_29
def f_X11_saying_38 (fuel : Nat) (x1 : Int32) (b_K : Nat → Nat) (b_ch : Nat → Int32) (b_tc : Nat → Int32) (b_wd : Nat → Int32) (v_hall_size : Int32) (y3 : Int32) (y2 : Int32) (w_v_course_ends : Nat → Int32) (w_v_course_getter : Int32) (w_v_course_silences : Nat → Int32) (w_v_course_stops : Nat → Int32) (w_v_course_touchers : Nat → Int32) : Option (Int32 × Int32 × (Nat → Int32) × Int32 × (Nat → Int32) × (Nat → Int32) × (Nat → Int32)) := match fuel with
  | 0 => none
  | k + 1 => (if v_hall_size ≤ y3 then (some (y3, y2, w_v_course_ends, w_v_course_getter, w_v_course_silences, w_v_course_stops, w_v_course_touchers)) else (if y3 < 0 ∨ 5 ≤ Int32.toNatClampNeg y3 then none else (if (w_v_course_stops (Int32.toNatClampNeg y3)) ≤ x1 then (bnd (y3 + 1 : Int32) fun z8 => (f_X11_saying_38 k x1 b_K b_ch b_tc b_wd v_hall_size z8 y2 w_v_course_ends w_v_course_getter w_v_course_silences w_v_course_stops w_v_course_touchers)) else (bnd (y2 + 1 : Int32) fun z9 => (bnd (y3 + 1 : Int32) fun z10 => (f_X11_saying_38 k x1 b_K b_ch b_tc b_wd v_hall_size z10 z9 w_v_course_ends w_v_course_getter w_v_course_silences w_v_course_stops w_v_course_touchers))))))
def f_X11_saying (x1 : Int32) (b_K : Nat → Nat) (b_ch : Nat → Int32) (b_tc : Nat → Int32) (b_wd : Nat → Int32) (v_course_ends : Nat → Int32) (v_course_getter : Int32) (v_course_silences : Nat → Int32) (v_course_stops : Nat → Int32) (v_course_touchers : Nat → Int32) (v_hall_size : Int32) : Option (Int32 × (Nat → Int32) × Int32 × (Nat → Int32) × (Nat → Int32) × (Nat → Int32)) := (if x1 < 1 then (some ((-102), v_course_ends, v_course_getter, v_course_silences, v_course_stops, v_course_touchers)) else (if x1 ≤ 40 then (if v_hall_size = 0 then (some ((-103), v_course_ends, v_course_getter, v_course_silences, v_course_stops, v_course_touchers)) else ((f_X2_runAsItIs b_K b_ch b_tc b_wd v_course_ends v_course_getter v_hall_size v_course_silences v_course_stops v_course_touchers).bind fun q4 => ((f_X11_saying_38 4096 x1 b_K b_ch b_tc b_wd v_hall_size 0 0 q4.1 q4.2.1 q4.2.2.1 q4.2.2.2.1 q4.2.2.2.2).bind fun q11 => (some (q11.2.1, q11.2.2.1, q11.2.2.2.1, q11.2.2.2.2.1, q11.2.2.2.2.2.1, q11.2.2.2.2.2.2))))) else (some ((-102), v_course_ends, v_course_getter, v_course_silences, v_course_stops, v_course_touchers))))
set_option maxRecDepth 100000 in
set_option maxHeartbeats 4000000 in
theorem c_X11_saying (l : Launch) (g : GG) (a_this : Nat) (a_this_page : Nat) (a_this_hall : Nat) (a_this_course : Nat) (a_this_heard : Nat) (a_this_image : Nat) (a_this_rests : Nat) (a_this_course_ends : Nat) (a_this_course_touchers : Nat) (a_this_course_stops : Nat) (a_this_course_silences : Nat) (a_this_hall_seats : Nat) (sa : Nat → Nat) (x1 : Int32) (v_hallsRead : Int32) (v_restsDone : Int32) (v_course_getter : Int32) (v_course_ends : Nat → Int32) (v_course_silences : Nat → Int32) (v_course_stops : Nat → Int32) (v_course_touchers : Nat → Int32) (v_hall_size : Int32) (v_hall_fall : Int32) (b_K : Nat → Nat) (b_su : Nat → Int32) (b_wi : Nat → Int32) (b_wd : Nat → Int32) (b_ch : Nat → Int32) (b_tc : Nat → Int32) (hK5 : ∀ i, b_K i < 5) {r0 : Int32} {r1 : Nat → Int32} {r2 : Int32} {r3 : Nat → Int32} {r4 : Nat → Int32} {r5 : Nat → Int32} (hf : f_X11_saying x1 b_K b_ch b_tc b_wd v_course_ends v_course_getter v_course_silences v_course_stops v_course_touchers v_hall_size = some (r0, r1, r2, r3, r4, r5)) : MD l g yX11_saying cX11_saying 4 (some .int) 5 109 [.ref a_this, .int x1] ([ob a_this 11 [.ref a_this_page, .ref a_this_hall, .ref a_this_course, .ref a_this_heard, .ref a_this_image, .ref a_this_rests, .int v_hallsRead, .int v_restsDone], ob a_this_course 7 [.ref a_this_hall, .ref a_this_course_ends, .ref a_this_course_touchers, .ref a_this_course_stops, .ref a_this_course_silences, .int v_course_getter], ia g a_this_course_ends 5 v_course_ends, ia g a_this_course_silences 5 v_course_silences, ia g a_this_course_stops 5 v_course_stops, ia g a_this_course_touchers 5 v_course_touchers, ob a_this_hall 6 [.ref a_this_hall_seats, .int v_hall_size, .int v_hall_fall], ra g a_this_hall_seats 5 (fun i => some (sa i))] ++ swl sa b_K b_su b_wi b_wd b_ch b_tc) (some (.int r0)) ([ob a_this 11 [.ref a_this_page, .ref a_this_hall, .ref a_this_course, .ref a_this_heard, .ref a_this_image, .ref a_this_rests, .int v_hallsRead, .int v_restsDone], ob a_this_course 7 [.ref a_this_hall, .ref a_this_course_ends, .ref a_this_course_touchers, .ref a_this_course_stops, .ref a_this_course_silences, .int r2], ia g a_this_course_ends 5 r1, ia g a_this_course_silences 5 r3, ia g a_this_course_stops 5 r4, ia g a_this_course_touchers 5 r5, ob a_this_hall 6 [.ref a_this_hall_seats, .int v_hall_size, .int v_hall_fall], ra g a_this_hall_seats 5 (fun i => some (sa i))] ++ swl sa b_K b_su b_wi b_wd b_ch b_tc) := by
  refine MC.mk (by decide) (Nat.le_of_ble_eq_true rfl) ?_
  intro p e s m args below meth c ls Q A F hnm hK hw hA hl hQ
  have hP := hw.1
  have hx := F.1
  have hb := F.2.1
  have hml := F.2.2.2.1
  have hown := F.2.2.2.2.1
  have hts := F.2.2.2.2.2.1
  have hl : lv_has ls 4 [(0, .ref a_this), (1, .int x1)] := hl
  have L38 : ∀ (k : Nat) (y3 : Int32) (y2 : Int32) (w_v_course_ends : Nat → Int32) (w_v_course_getter : Int32) (w_v_course_silences : Nat → Int32) (w_v_course_stops : Nat → Int32) (w_v_course_touchers : Nat → Int32) (q : Int32 × Int32 × (Nat → Int32) × Int32 × (Nat → Int32) × (Nat → Int32) × (Nat → Int32)), f_X11_saying_38 k x1 b_K b_ch b_tc b_wd v_hall_size y3 y2 w_v_course_ends w_v_course_getter w_v_course_silences w_v_course_stops w_v_course_touchers = some q → ∀ (H : Heap) (locs : List Loc) (ls : Array Slot), WD g A s.heap ([ob a_this 11 [.ref a_this_page, .ref a_this_hall, .ref a_this_course, .ref a_this_heard, .ref a_this_image, .ref a_this_rests, .int v_hallsRead, .int v_restsDone], ob a_this_course 7 [.ref a_this_hall, .ref a_this_course_ends, .ref a_this_course_touchers, .ref a_this_course_stops, .ref a_this_course_silences, .int w_v_course_getter], ia g a_this_course_ends 5 w_v_course_ends, ia g a_this_course_silences 5 w_v_course_silences, ia g a_this_course_stops 5 w_v_course_stops, ia g a_this_course_touchers 5 w_v_course_touchers, ob a_this_hall 6 [.ref a_this_hall_seats, .int v_hall_size, .int v_hall_fall], ra g a_this_hall_seats 5 (fun i => some (sa i))] ++ swl sa b_K b_su b_wi b_wd b_ch b_tc) H locs → lv_has ls 4 [(3, .int y3), (2, .int y2), (0, .ref a_this), (1, .int x1)] → (∀ (H : Heap) (locs : List Loc) (ls : Array Slot), WD g A s.heap ([ob a_this 11 [.ref a_this_page, .ref a_this_hall, .ref a_this_course, .ref a_this_heard, .ref a_this_image, .ref a_this_rests, .int v_hallsRead, .int v_restsDone], ob a_this_course 7 [.ref a_this_hall, .ref a_this_course_ends, .ref a_this_course_touchers, .ref a_this_course_stops, .ref a_this_course_silences, .int q.2.2.2.1], ia g a_this_course_ends 5 q.2.2.1, ia g a_this_course_silences 5 q.2.2.2.2.1, ia g a_this_course_stops 5 q.2.2.2.2.2.1, ia g a_this_course_touchers 5 q.2.2.2.2.2.2, ob a_this_hall 6 [.ref a_this_hall_seats, .int v_hall_size, .int v_hall_fall], ra g a_this_hall_seats 5 (fun i => some (sa i))] ++ swl sa b_K b_su b_wi b_wd b_ch b_tc) H locs → lv_has ls 4 [(3, .int q.1), (2, .int q.2.1), (0, .ref a_this), (1, .int x1)] → W p l e (rmc 5 0 0 109) s m args below meth c H locs 0 0 Q (F0 m 71 ls [])) → W p l e (rmc 5 0 0 109) s m args below meth c H locs 0 0 Q (F0 m 38 ls []) := by
    intro k
    induction k with
    | zero => intro y3 y2 w_v_course_ends w_v_course_getter w_v_course_silences w_v_course_stops w_v_course_touchers q hf; rw [f_X11_saying_38] at hf; cases hf
    | succ k ih =>
      intro y3 y2 w_v_course_ends w_v_course_getter w_v_course_silences w_v_course_stops w_v_course_touchers q hf H locs ls hw hl kx
      rw [f_X11_saying_38] at hf
      have hP := hw.1
      refine lv_iload_n hx hb dX11_saying_38 rfl (lv_at hl 0 rfl) ?_
      refine lv_aload_n hx hb dX11_saying_39 rfl (lv_at hl 2 rfl) ?_
      refine w_get (ci := 11) F hK hP fb_X11 0 rfl rfl 1 (by decide) fl_X11_27 (fun _ h => h) rfl dX11_saying_40 ?_
      refine w_get (ci := 6) F hK hP fb_X4 6 rfl rfl 1 (by decide) fl_X11_78 (fun _ h => h) rfl dX11_saying_43 ?_
      refine lv_icmp_ge (tgt := 71) hx hb dX11_saying_46 (by decide) (fun h5 => ?_) (fun h5 => ?_)
      · have hf := o_t h5 hf
        cases hf
        exact kx _ _ ls hw (lv_sub hl [0, 1, 2, 3] rfl)
      · have hf := o_f h5 hf
        refine lv_aload_n hx hb dX11_saying_49 rfl (lv_at hl 2 rfl) ?_
        refine w_get (ci := 11) F hK hP fb_X11 0 rfl rfl 2 (by decide) fl_X11_19 (fun _ h => h) rfl dX11_saying_50 ?_
        refine w_get (ci := 7) F hK hP fb_X2 1 rfl rfl 3 (by decide) fl_X11_109 (fun _ h => h) rfl dX11_saying_53 ?_
        refine lv_iload_n hx hb dX11_saying_56 rfl (lv_at hl 0 rfl) ?_
        obtain ⟨h6, hf⟩ := o_chk hf
        refine w_iald F hK hP 4 rfl h6 dX11_saying_57 ?_
        refine lv_iload_n hx hb dX11_saying_58 rfl (lv_at hl 3 rfl) ?_
        refine lv_icmp_le (tgt := 65) hx hb dX11_saying_59 (by decide) (fun h7 => ?_) (fun h7 => ?_)
        · have hf := o_t h7 hf
          obtain ⟨z8, ez8⟩ : ∃ y : Int32, y = y3 + 1 := ⟨_, rfl⟩
          have hf := o_bnd ez8 hf
          refine lv_iinc (v := z8) (lv' := [(3, .int z8), (2, .int y2), (0, .ref a_this), (1, .int x1)]) hx hb dX11_saying_65 hl (k := 0) rfl (by rw [ez8]; rfl) (by decide) rfl (fun ls hl => ?_)
          refine lv_goto (tgt := 38) hx hb dX11_saying_68 (by decide) ?_
          exact ih z8 y2 w_v_course_ends w_v_course_getter w_v_course_silences w_v_course_stops w_v_course_touchers _ hf _ _ ls hw (lv_sub hl [0, 1, 2, 3] rfl) kx
        · have hf := o_f h7 hf
          obtain ⟨z9, ez9⟩ : ∃ y : Int32, y = y2 + 1 := ⟨_, rfl⟩
          have hf := o_bnd ez9 hf
          refine lv_iinc (v := z9) (lv' := [(2, .int z9), (3, .int y3), (0, .ref a_this), (1, .int x1)]) hx hb dX11_saying_62 hl (k := 1) rfl (by rw [ez9]; rfl) (by decide) rfl (fun ls hl => ?_)
          obtain ⟨z10, ez10⟩ : ∃ y : Int32, y = y3 + 1 := ⟨_, rfl⟩
          have hf := o_bnd ez10 hf
          refine lv_iinc (v := z10) (lv' := [(3, .int z10), (2, .int z9), (0, .ref a_this), (1, .int x1)]) hx hb dX11_saying_65 hl (k := 1) rfl (by rw [ez10]; rfl) (by decide) rfl (fun ls hl => ?_)
          refine lv_goto (tgt := 38) hx hb dX11_saying_68 (by decide) ?_
          exact ih z10 z9 w_v_course_ends w_v_course_getter w_v_course_silences w_v_course_stops w_v_course_touchers _ hf _ _ ls hw (lv_sub hl [0, 1, 2, 3] rfl) kx
  unfold f_X11_saying at hf
  refine lv_iload_n hx hb dX11_saying_0 rfl (lv_at hl 1 rfl) ?_
  refine lv_iconst (v := 1) hx hb dX11_saying_1 (by decide) ?_
  refine lv_icmp_lt (tgt := 11) hx hb dX11_saying_2 (by decide) (fun h1 => ?_) (fun h1 => ?_)
  · have hf := o_t h1 hf
    refine lv_bipush (v := (-102)) hx hb dX11_saying_11 (by decide) ?_
    cases hf
    exact r_ci F hQ ⟨rfl, rfl⟩ hw dX11_saying_13
  · have hf := o_f h1 hf
    refine lv_iload_n hx hb dX11_saying_5 rfl (lv_at hl 1 rfl) ?_
    refine lv_bipush (v := 40) hx hb dX11_saying_6 (by decide) ?_
    refine lv_icmp_le (tgt := 14) hx hb dX11_saying_8 (by decide) (fun h2 => ?_) (fun h2 => ?_)
    · have hf := o_t h2 hf
      refine lv_aload_n hx hb dX11_saying_14 rfl (lv_at hl 0 rfl) ?_
      refine w_get (ci := 11) F hK hP fb_X11 0 rfl rfl 1 (by decide) fl_X11_27 (fun _ h => h) rfl dX11_saying_15 ?_
      refine w_get (ci := 6) F hK hP fb_X4 6 rfl rfl 1 (by decide) fl_X11_78 (fun _ h => h) rfl dX11_saying_18 ?_
      refine lv_if_ne (tgt := 27) hx hb dX11_saying_21 (by decide) (fun h3 => ?_) (fun h3 => ?_)
      · have hf := o_f h3 hf
        refine lv_aload_n hx hb dX11_saying_27 rfl (lv_at hl 0 rfl) ?_
        refine w_get (ci := 11) F hK hP fb_X11 0 rfl rfl 2 (by decide) fl_X11_19 (fun _ h => h) rfl dX11_saying_28 ?_
        obtain ⟨q4, hq4, hf⟩ := o_bind hf
        refine k_dV (wr := [ob a_this 11 [.ref a_this_page, .ref a_this_hall, .ref a_this_course, .ref a_this_heard, .ref a_this_image, .ref a_this_rests, .int v_hallsRead, .int v_restsDone]]) (ws' := ([ob a_this 11 [.ref a_this_page, .ref a_this_hall, .ref a_this_course, .ref a_this_heard, .ref a_this_image, .ref a_this_rests, .int v_hallsRead, .int v_restsDone], ob a_this_course 7 [.ref a_this_hall, .ref a_this_course_ends, .ref a_this_course_touchers, .ref a_this_course_stops, .ref a_this_course_silences, .int q4.2.1], ia g a_this_course_ends 5 q4.1, ia g a_this_course_silences 5 q4.2.2.1, ia g a_this_course_stops 5 q4.2.2.2.1, ia g a_this_course_touchers 5 q4.2.2.2.2, ob a_this_hall 6 [.ref a_this_hall_seats, .int v_hall_size, .int v_hall_fall], ra g a_this_hall_seats 5 (fun i => some (sa i))] ++ swl sa b_K b_su b_wi b_wd b_ch b_tc)) F (c_X2_runAsItIs l g a_this_course a_this_hall a_this_course_ends a_this_course_touchers a_this_course_stops a_this_course_silences a_this_hall_seats sa v_course_getter v_course_ends v_hall_size v_hall_fall v_course_silences v_course_stops v_course_touchers b_K b_su b_wi b_wd b_ch b_tc hK5 hq4) qv_X2_runAsItIs ml_X11_85 hw hA hK [1, 2, 6, 7, 3, 4, 5, 8, 9, 10, 11, 12] [0] [0, 1, 2, 5, 6, 7, 3, 4, 8, 9, 10, 11, 12] rfl rfl rfl rfl rfl (by decide) rfl rfl rfl (va_recv hK.1 hP (ci := 7) (q0 := 1) rfl rfl) rfl hl.1 rfl (Nat.le_of_ble_eq_true rfl) dX11_saying_31 ⟨(Nat.le_of_ble_eq_true rfl), (Nat.le_of_ble_eq_true rfl)⟩ ⟨(Nat.le_of_ble_eq_true rfl), (Nat.le_of_ble_eq_true rfl)⟩ (fun H locs hw => ?_)
        have hP := hw.1
        refine W.eq (g2 := F0 m 34 ls ([])) rfl ?_
        refine lv_iconst (v := 0) hx hb dX11_saying_34 (by decide) ?_
        refine lv_istore_n (lv' := [(2, .int 0), (0, .ref a_this), (1, .int x1)]) hx hb dX11_saying_35 rfl hl (by decide) rfl (fun ls hl => ?_)
        refine lv_iconst (v := 0) hx hb dX11_saying_36 (by decide) ?_
        refine lv_istore_n (lv' := [(3, .int 0), (2, .int 0), (0, .ref a_this), (1, .int x1)]) hx hb dX11_saying_37 rfl hl (by decide) rfl (fun ls hl => ?_)
        obtain ⟨q11, hq11, hf⟩ := o_bind hf
        refine L38 _ 0 0 q4.1 q4.2.1 q4.2.2.1 q4.2.2.2.1 q4.2.2.2.2 _ hq11 _ _ ls hw (lv_sub hl [0, 1, 2, 3] rfl) (fun H locs ls hw hl => ?_)
        have hP := hw.1
        refine lv_iload_n hx hb dX11_saying_71 rfl (lv_at hl 1 rfl) ?_
        cases hf
        exact r_ci F hQ ⟨rfl, rfl⟩ hw dX11_saying_72
      · have hf := o_t h3 hf
        refine lv_bipush (v := (-103)) hx hb dX11_saying_24 (by decide) ?_
        cases hf
        exact r_ci F hQ ⟨rfl, rfl⟩ hw dX11_saying_26
    · have hf := o_f h2 hf
      refine lv_bipush (v := (-102)) hx hb dX11_saying_11 (by decide) ?_
      cases hf
      exact r_ci F hQ ⟨rfl, rfl⟩ hw dX11_saying_13
def f_X11_lot (x1 : Int32) (b_K : Nat → Nat) (b_ch : Nat → Int32) (b_su : Nat → Int32) (b_tc : Nat → Int32) (b_wd : Nat → Int32) (v_course_ends : Nat → Int32) (v_course_getter : Int32) (v_course_silences : Nat → Int32) (v_course_stops : Nat → Int32) (v_course_touchers : Nat → Int32) (v_hall_fall : Int32) (v_hall_size : Int32) : Option (Int32 × (Nat → Int32) × Int32 × (Nat → Int32) × (Nat → Int32) × (Nat → Int32)) := (if x1 < 0 then (some ((-102), v_course_ends, v_course_getter, v_course_silences, v_course_stops, v_course_touchers)) else (if x1 ≤ 2 then (if v_hall_size = 0 then (some ((-103), v_course_ends, v_course_getter, v_course_silences, v_course_stops, v_course_touchers)) else ((f_X2_runAsItIs b_K b_ch b_tc b_wd v_course_ends v_course_getter v_hall_size v_course_silences v_course_stops v_course_touchers).bind fun q4 => (if q4.2.1 = (-1) then (some ((-1), q4.1, q4.2.1, q4.2.2.1, q4.2.2.2.1, q4.2.2.2.2)) else (if x1 = 0 then (some (q4.2.1, q4.1, q4.2.1, q4.2.2.1, q4.2.2.2.1, q4.2.2.2.2)) else (if x1 = 1 then ((f_X2_priceOf q4.2.1 b_K b_su v_hall_fall q4.2.2.2.1).bind fun q8 => (some (q8, q4.1, q4.2.1, q4.2.2.1, q4.2.2.2.1, q4.2.2.2.2))) else (if q4.2.1 < 0 ∨ 5 ≤ Int32.toNatClampNeg q4.2.1 then none else (some ((q4.2.2.1 (Int32.toNatClampNeg q4.2.1)), q4.1, q4.2.1, q4.2.2.1, q4.2.2.2.1, q4.2.2.2.2)))))))) else (some ((-102), v_course_ends, v_course_getter, v_course_silences, v_course_stops, v_course_touchers))))
set_option maxRecDepth 100000 in
set_option maxHeartbeats 4000000 in
theorem c_X11_lot (l : Launch) (g : GG) (a_this : Nat) (a_this_page : Nat) (a_this_hall : Nat) (a_this_course : Nat) (a_this_heard : Nat) (a_this_image : Nat) (a_this_rests : Nat) (a_this_course_ends : Nat) (a_this_course_touchers : Nat) (a_this_course_stops : Nat) (a_this_course_silences : Nat) (a_this_hall_seats : Nat) (sa : Nat → Nat) (x1 : Int32) (v_hallsRead : Int32) (v_restsDone : Int32) (v_course_getter : Int32) (v_course_ends : Nat → Int32) (v_course_silences : Nat → Int32) (v_course_stops : Nat → Int32) (v_course_touchers : Nat → Int32) (v_hall_size : Int32) (v_hall_fall : Int32) (b_K : Nat → Nat) (b_su : Nat → Int32) (b_wi : Nat → Int32) (b_wd : Nat → Int32) (b_ch : Nat → Int32) (b_tc : Nat → Int32) (hK5 : ∀ i, b_K i < 5) {r0 : Int32} {r1 : Nat → Int32} {r2 : Int32} {r3 : Nat → Int32} {r4 : Nat → Int32} {r5 : Nat → Int32} (hf : f_X11_lot x1 b_K b_ch b_su b_tc b_wd v_course_ends v_course_getter v_course_silences v_course_stops v_course_touchers v_hall_fall v_hall_size = some (r0, r1, r2, r3, r4, r5)) : MD l g yX11_lot cX11_lot 2 (some .int) 5 109 [.ref a_this, .int x1] ([ob a_this 11 [.ref a_this_page, .ref a_this_hall, .ref a_this_course, .ref a_this_heard, .ref a_this_image, .ref a_this_rests, .int v_hallsRead, .int v_restsDone], ob a_this_course 7 [.ref a_this_hall, .ref a_this_course_ends, .ref a_this_course_touchers, .ref a_this_course_stops, .ref a_this_course_silences, .int v_course_getter], ia g a_this_course_ends 5 v_course_ends, ia g a_this_course_silences 5 v_course_silences, ia g a_this_course_stops 5 v_course_stops, ia g a_this_course_touchers 5 v_course_touchers, ob a_this_hall 6 [.ref a_this_hall_seats, .int v_hall_size, .int v_hall_fall], ra g a_this_hall_seats 5 (fun i => some (sa i))] ++ swl sa b_K b_su b_wi b_wd b_ch b_tc) (some (.int r0)) ([ob a_this 11 [.ref a_this_page, .ref a_this_hall, .ref a_this_course, .ref a_this_heard, .ref a_this_image, .ref a_this_rests, .int v_hallsRead, .int v_restsDone], ob a_this_course 7 [.ref a_this_hall, .ref a_this_course_ends, .ref a_this_course_touchers, .ref a_this_course_stops, .ref a_this_course_silences, .int r2], ia g a_this_course_ends 5 r1, ia g a_this_course_silences 5 r3, ia g a_this_course_stops 5 r4, ia g a_this_course_touchers 5 r5, ob a_this_hall 6 [.ref a_this_hall_seats, .int v_hall_size, .int v_hall_fall], ra g a_this_hall_seats 5 (fun i => some (sa i))] ++ swl sa b_K b_su b_wi b_wd b_ch b_tc) := by
  refine MC.mk (by decide) (Nat.le_of_ble_eq_true rfl) ?_
  intro p e s m args below meth c ls Q A F hnm hK hw hA hl hQ
  have hP := hw.1
  have hx := F.1
  have hb := F.2.1
  have hml := F.2.2.2.1
  have hown := F.2.2.2.2.1
  have hts := F.2.2.2.2.2.1
  have hl : lv_has ls 2 [(0, .ref a_this), (1, .int x1)] := hl
  unfold f_X11_lot at hf
  refine lv_iload_n hx hb dX11_lot_0 rfl (lv_at hl 1 rfl) ?_
  refine lv_if_lt (tgt := 9) hx hb dX11_lot_1 (by decide) (fun h1 => ?_) (fun h1 => ?_)
  · have hf := o_t h1 hf
    refine lv_bipush (v := (-102)) hx hb dX11_lot_9 (by decide) ?_
    cases hf
    exact r_ci F hQ ⟨rfl, rfl⟩ hw dX11_lot_11
  · have hf := o_f h1 hf
    refine lv_iload_n hx hb dX11_lot_4 rfl (lv_at hl 1 rfl) ?_
    refine lv_iconst (v := 2) hx hb dX11_lot_5 (by decide) ?_
    refine lv_icmp_le (tgt := 12) hx hb dX11_lot_6 (by decide) (fun h2 => ?_) (fun h2 => ?_)
    · have hf := o_t h2 hf
      refine lv_aload_n hx hb dX11_lot_12 rfl (lv_at hl 0 rfl) ?_
      refine w_get (ci := 11) F hK hP fb_X11 0 rfl rfl 1 (by decide) fl_X11_27 (fun _ h => h) rfl dX11_lot_13 ?_
      refine w_get (ci := 6) F hK hP fb_X4 6 rfl rfl 1 (by decide) fl_X11_78 (fun _ h => h) rfl dX11_lot_16 ?_
      refine lv_if_ne (tgt := 25) hx hb dX11_lot_19 (by decide) (fun h3 => ?_) (fun h3 => ?_)
      · have hf := o_f h3 hf
        refine lv_aload_n hx hb dX11_lot_25 rfl (lv_at hl 0 rfl) ?_
        refine w_get (ci := 11) F hK hP fb_X11 0 rfl rfl 2 (by decide) fl_X11_19 (fun _ h => h) rfl dX11_lot_26 ?_
        obtain ⟨q4, hq4, hf⟩ := o_bind hf
        refine k_dV (wr := [ob a_this 11 [.ref a_this_page, .ref a_this_hall, .ref a_this_course, .ref a_this_heard, .ref a_this_image, .ref a_this_rests, .int v_hallsRead, .int v_restsDone]]) (ws' := ([ob a_this 11 [.ref a_this_page, .ref a_this_hall, .ref a_this_course, .ref a_this_heard, .ref a_this_image, .ref a_this_rests, .int v_hallsRead, .int v_restsDone], ob a_this_course 7 [.ref a_this_hall, .ref a_this_course_ends, .ref a_this_course_touchers, .ref a_this_course_stops, .ref a_this_course_silences, .int q4.2.1], ia g a_this_course_ends 5 q4.1, ia g a_this_course_silences 5 q4.2.2.1, ia g a_this_course_stops 5 q4.2.2.2.1, ia g a_this_course_touchers 5 q4.2.2.2.2, ob a_this_hall 6 [.ref a_this_hall_seats, .int v_hall_size, .int v_hall_fall], ra g a_this_hall_seats 5 (fun i => some (sa i))] ++ swl sa b_K b_su b_wi b_wd b_ch b_tc)) F (c_X2_runAsItIs l g a_this_course a_this_hall a_this_course_ends a_this_course_touchers a_this_course_stops a_this_course_silences a_this_hall_seats sa v_course_getter v_course_ends v_hall_size v_hall_fall v_course_silences v_course_stops v_course_touchers b_K b_su b_wi b_wd b_ch b_tc hK5 hq4) qv_X2_runAsItIs ml_X11_85 hw hA hK [1, 2, 6, 7, 3, 4, 5, 8, 9, 10, 11, 12] [0] [0, 1, 2, 5, 6, 7, 3, 4, 8, 9, 10, 11, 12] rfl rfl rfl rfl rfl (by decide) rfl rfl rfl (va_recv hK.1 hP (ci := 7) (q0 := 1) rfl rfl) rfl hl.1 rfl (Nat.le_of_ble_eq_true rfl) dX11_lot_29 ⟨(Nat.le_of_ble_eq_true rfl), (Nat.le_of_ble_eq_true rfl)⟩ ⟨(Nat.le_of_ble_eq_true rfl), (Nat.le_of_ble_eq_true rfl)⟩ (fun H locs hw => ?_)
        have hP := hw.1
        refine W.eq (g2 := F0 m 32 ls ([])) rfl ?_
        refine lv_aload_n hx hb dX11_lot_32 rfl (lv_at hl 0 rfl) ?_
        refine w_get (ci := 11) F hK hP fb_X11 0 rfl rfl 2 (by decide) fl_X11_19 (fun _ h => h) rfl dX11_lot_33 ?_
        refine w_get (ci := 7) F hK hP fb_X2 1 rfl rfl 5 (by decide) fl_X11_138 (fun _ h => h) rfl dX11_lot_36 ?_
        refine lv_iconst (v := (-1)) hx hb dX11_lot_39 (by decide) ?_
        refine lv_icmp_ne (tgt := 45) hx hb dX11_lot_40 (by decide) (fun h5 => ?_) (fun h5 => ?_)
        · have hf := o_f h5 hf
          refine lv_iload_n hx hb dX11_lot_45 rfl (lv_at hl 1 rfl) ?_
          by_cases h6 : x1 = 0
          · have hf := o_t h6 hf
            refine lv_lookup (off := 26) (tgt := 72) hx hb dX11_lot_46 (by decide) (by rw [h6]; decide) (by decide) ?_
            refine lv_aload_n hx hb dX11_lot_72 rfl (lv_at hl 0 rfl) ?_
            refine w_get (ci := 11) F hK hP fb_X11 0 rfl rfl 2 (by decide) fl_X11_19 (fun _ h => h) rfl dX11_lot_73 ?_
            refine w_get (ci := 7) F hK hP fb_X2 1 rfl rfl 5 (by decide) fl_X11_138 (fun _ h => h) rfl dX11_lot_76 ?_
            cases hf
            exact r_ci F hQ ⟨rfl, rfl⟩ hw dX11_lot_79
          · have hf := o_f h6 hf
            by_cases h7 : x1 = 1
            · have hf := o_t h7 hf
              refine lv_lookup (off := 34) (tgt := 80) hx hb dX11_lot_46 (by decide) (by rw [h7]; decide) (by decide) ?_
              refine lv_aload_n hx hb dX11_lot_80 rfl (lv_at hl 0 rfl) ?_
              refine w_get (ci := 11) F hK hP fb_X11 0 rfl rfl 2 (by decide) fl_X11_19 (fun _ h => h) rfl dX11_lot_81 ?_
              refine lv_aload_n hx hb dX11_lot_84 rfl (lv_at hl 0 rfl) ?_
              refine w_get (ci := 11) F hK hP fb_X11 0 rfl rfl 2 (by decide) fl_X11_19 (fun _ h => h) rfl dX11_lot_85 ?_
              refine w_get (ci := 7) F hK hP fb_X2 1 rfl rfl 5 (by decide) fl_X11_138 (fun _ h => h) rfl dX11_lot_88 ?_
              obtain ⟨q8, hq8, hf⟩ := o_bind hf
              refine k_rV F (c_X2_priceOf l g a_this_course a_this_hall a_this_course_ends a_this_course_touchers a_this_course_stops a_this_course_silences a_this_hall_seats sa q4.2.1 q4.2.1 v_hall_size v_hall_fall q4.2.2.2.1 b_K b_su b_wi b_wd b_ch b_tc hK5 hq8) qv_X2_priceOf ml_X11_116 (hP.sub [1, 6, 7, 4, 8, 9, 10, 11, 12] rfl) hK (va_recv hK.1 hP (ci := 7) (q0 := 1) rfl rfl) rfl hl.1 rfl (Nat.le_of_ble_eq_true rfl) dX11_lot_91 ⟨(Nat.le_of_ble_eq_true rfl), (Nat.le_of_ble_eq_true rfl)⟩ ⟨(Nat.le_of_ble_eq_true rfl), (Nat.le_of_ble_eq_true rfl)⟩ ?_
              refine W.eq (g2 := F0 m 94 ls (.int q8 :: [])) rfl ?_
              cases hf
              exact r_ci F hQ ⟨rfl, rfl⟩ hw dX11_lot_94
            · have hf := o_f h7 hf
              refine lv_lookup (off := 49) (tgt := 95) hx hb dX11_lot_46 (by decide) ((lv_osw h6 rfl).trans ((lv_osw h7 rfl).trans (rfl))) (by decide) ?_
              refine lv_aload_n hx hb dX11_lot_95 rfl (lv_at hl 0 rfl) ?_
              refine w_get (ci := 11) F hK hP fb_X11 0 rfl rfl 2 (by decide) fl_X11_19 (fun _ h => h) rfl dX11_lot_96 ?_
              refine w_get (ci := 7) F hK hP fb_X2 1 rfl rfl 4 (by decide) fl_X11_113 (fun _ h => h) rfl dX11_lot_99 ?_
              refine lv_aload_n hx hb dX11_lot_102 rfl (lv_at hl 0 rfl) ?_
              refine w_get (ci := 11) F hK hP fb_X11 0 rfl rfl 2 (by decide) fl_X11_19 (fun _ h => h) rfl dX11_lot_103 ?_
              refine w_get (ci := 7) F hK hP fb_X2 1 rfl rfl 5 (by decide) fl_X11_138 (fun _ h => h) rfl dX11_lot_106 ?_
              obtain ⟨h9, hf⟩ := o_chk hf
              refine w_iald F hK hP 3 rfl h9 dX11_lot_109 ?_
              cases hf
              exact r_ci F hQ ⟨rfl, rfl⟩ hw dX11_lot_110
        · have hf := o_t h5 hf
          refine lv_iconst (v := (-1)) hx hb dX11_lot_43 (by decide) ?_
          cases hf
          exact r_ci F hQ ⟨rfl, rfl⟩ hw dX11_lot_44
      · have hf := o_t h3 hf
        refine lv_bipush (v := (-103)) hx hb dX11_lot_22 (by decide) ?_
        cases hf
        exact r_ci F hQ ⟨rfl, rfl⟩ hw dX11_lot_24
    · have hf := o_f h2 hf
      refine lv_bipush (v := (-102)) hx hb dX11_lot_9 (by decide) ?_
      cases hf
      exact r_ci F hQ ⟨rfl, rfl⟩ hw dX11_lot_11
def f_X11_gainByChoice (x1 : Int32) (x2 : Int32) (b_K : Nat → Nat) (b_su : Nat → Int32) (b_wd : Nat → Int32) (b_wi : Nat → Int32) (v_course_ends : Nat → Int32) (v_course_getter : Int32) (v_course_silences : Nat → Int32) (v_course_stops : Nat → Int32) (v_course_touchers : Nat → Int32) (v_hall_fall : Int32) (v_hall_size : Int32) : Option (Int32 × (Nat → Int32) × Int32 × (Nat → Int32) × (Nat → Int32)) := ((f_X2_supposeChoice x1 x2 b_K b_wd v_course_ends).bind fun q1 => ((f_X2_run b_K q1 v_course_getter v_hall_size v_course_silences v_course_stops v_course_touchers).bind fun q2 => ((f_X2_gainOf x1 b_K b_su b_wi q2.1 v_hall_fall q2.2.2).bind fun q3 => (some (q3, q1, q2.1, q2.2.1, q2.2.2)))))
set_option maxRecDepth 100000 in
set_option maxHeartbeats 4000000 in
theorem c_X11_gainByChoice (l : Launch) (g : GG) (a_this : Nat) (a_this_page : Nat) (a_this_hall : Nat) (a_this_course : Nat) (a_this_heard : Nat) (a_this_image : Nat) (a_this_rests : Nat) (a_this_course_ends : Nat) (a_this_course_touchers : Nat) (a_this_course_stops : Nat) (a_this_course_silences : Nat) (a_this_hall_seats : Nat) (sa : Nat → Nat) (x1 : Int32) (x2 : Int32) (v_hallsRead : Int32) (v_restsDone : Int32) (v_course_getter : Int32) (v_course_ends : Nat → Int32) (v_course_silences : Nat → Int32) (v_course_stops : Nat → Int32) (v_course_touchers : Nat → Int32) (v_hall_size : Int32) (v_hall_fall : Int32) (b_K : Nat → Nat) (b_su : Nat → Int32) (b_wi : Nat → Int32) (b_wd : Nat → Int32) (b_ch : Nat → Int32) (b_tc : Nat → Int32) (hK5 : ∀ i, b_K i < 5) {r0 : Int32} {r1 : Nat → Int32} {r2 : Int32} {r3 : Nat → Int32} {r4 : Nat → Int32} (hf : f_X11_gainByChoice x1 x2 b_K b_su b_wd b_wi v_course_ends v_course_getter v_course_silences v_course_stops v_course_touchers v_hall_fall v_hall_size = some (r0, r1, r2, r3, r4)) : MD l g yX11_gainByChoice cX11_gainByChoice 3 (some .int) 4 89 [.ref a_this, .int x1, .int x2] ([ob a_this 11 [.ref a_this_page, .ref a_this_hall, .ref a_this_course, .ref a_this_heard, .ref a_this_image, .ref a_this_rests, .int v_hallsRead, .int v_restsDone], ob a_this_course 7 [.ref a_this_hall, .ref a_this_course_ends, .ref a_this_course_touchers, .ref a_this_course_stops, .ref a_this_course_silences, .int v_course_getter], ia g a_this_course_ends 5 v_course_ends, ia g a_this_course_silences 5 v_course_silences, ia g a_this_course_stops 5 v_course_stops, ia g a_this_course_touchers 5 v_course_touchers, ob a_this_hall 6 [.ref a_this_hall_seats, .int v_hall_size, .int v_hall_fall], ra g a_this_hall_seats 5 (fun i => some (sa i))] ++ swl sa b_K b_su b_wi b_wd b_ch b_tc) (some (.int r0)) ([ob a_this 11 [.ref a_this_page, .ref a_this_hall, .ref a_this_course, .ref a_this_heard, .ref a_this_image, .ref a_this_rests, .int v_hallsRead, .int v_restsDone], ob a_this_course 7 [.ref a_this_hall, .ref a_this_course_ends, .ref a_this_course_touchers, .ref a_this_course_stops, .ref a_this_course_silences, .int r2], ia g a_this_course_ends 5 r1, ia g a_this_course_silences 5 r3, ia g a_this_course_stops 5 r4, ia g a_this_course_touchers 5 v_course_touchers, ob a_this_hall 6 [.ref a_this_hall_seats, .int v_hall_size, .int v_hall_fall], ra g a_this_hall_seats 5 (fun i => some (sa i))] ++ swl sa b_K b_su b_wi b_wd b_ch b_tc) := by
  refine MC.mk (by decide) (Nat.le_of_ble_eq_true rfl) ?_
  intro p e s m args below meth c ls Q A F hnm hK hw hA hl hQ
  have hP := hw.1
  have hx := F.1
  have hb := F.2.1
  have hml := F.2.2.2.1
  have hown := F.2.2.2.2.1
  have hts := F.2.2.2.2.2.1
  have hl : lv_has ls 3 [(0, .ref a_this), (1, .int x1), (2, .int x2)] := hl
  unfold f_X11_gainByChoice at hf
  refine lv_aload_n hx hb dX11_gainByChoice_0 rfl (lv_at hl 0 rfl) ?_
  refine w_get (ci := 11) F hK hP fb_X11 0 rfl rfl 2 (by decide) fl_X11_19 (fun _ h => h) rfl dX11_gainByChoice_1 ?_
  refine lv_iload_n hx hb dX11_gainByChoice_4 rfl (lv_at hl 1 rfl) ?_
  refine lv_iload_n hx hb dX11_gainByChoice_5 rfl (lv_at hl 2 rfl) ?_
  obtain ⟨q1, hq1, hf⟩ := o_bind hf
  refine k_dV (wr := [ob a_this 11 [.ref a_this_page, .ref a_this_hall, .ref a_this_course, .ref a_this_heard, .ref a_this_image, .ref a_this_rests, .int v_hallsRead, .int v_restsDone], ia g a_this_course_silences 5 v_course_silences, ia g a_this_course_stops 5 v_course_stops, ia g a_this_course_touchers 5 v_course_touchers]) (ws' := ([ob a_this 11 [.ref a_this_page, .ref a_this_hall, .ref a_this_course, .ref a_this_heard, .ref a_this_image, .ref a_this_rests, .int v_hallsRead, .int v_restsDone], ob a_this_course 7 [.ref a_this_hall, .ref a_this_course_ends, .ref a_this_course_touchers, .ref a_this_course_stops, .ref a_this_course_silences, .int v_course_getter], ia g a_this_course_ends 5 q1, ia g a_this_course_silences 5 v_course_silences, ia g a_this_course_stops 5 v_course_stops, ia g a_this_course_touchers 5 v_course_touchers, ob a_this_hall 6 [.ref a_this_hall_seats, .int v_hall_size, .int v_hall_fall], ra g a_this_hall_seats 5 (fun i => some (sa i))] ++ swl sa b_K b_su b_wi b_wd b_ch b_tc)) F (c_X2_supposeChoice l g a_this_course a_this_hall a_this_course_ends a_this_course_touchers a_this_course_stops a_this_course_silences a_this_hall_seats sa x1 x2 v_course_getter v_course_ends v_hall_size v_hall_fall b_K b_su b_wi b_wd b_ch b_tc hK5 hq1) qv_X2_supposeChoice ml_X11_148 hw hA hK [1, 2, 6, 7, 8, 9, 10, 11, 12] [0, 3, 4, 5] [0, 4, 5, 1, 2, 3, 6, 7, 8, 9, 10, 11, 12] rfl rfl rfl rfl rfl (by decide) rfl rfl rfl (va_recv hK.1 hP (ci := 7) (q0 := 1) rfl rfl) rfl hl.1 rfl (Nat.le_of_ble_eq_true rfl) dX11_gainByChoice_6 ⟨(Nat.le_of_ble_eq_true rfl), (Nat.le_of_ble_eq_true rfl)⟩ ⟨(Nat.le_of_ble_eq_true rfl), (Nat.le_of_ble_eq_true rfl)⟩ (fun H locs hw => ?_)
  have hP := hw.1
  refine W.eq (g2 := F0 m 9 ls ([])) rfl ?_
  refine lv_aload_n hx hb dX11_gainByChoice_9 rfl (lv_at hl 0 rfl) ?_
  refine w_get (ci := 11) F hK hP fb_X11 0 rfl rfl 2 (by decide) fl_X11_19 (fun _ h => h) rfl dX11_gainByChoice_10 ?_
  obtain ⟨q2, hq2, hf⟩ := o_bind hf
  refine k_dV (wr := [ob a_this 11 [.ref a_this_page, .ref a_this_hall, .ref a_this_course, .ref a_this_heard, .ref a_this_image, .ref a_this_rests, .int v_hallsRead, .int v_restsDone]]) (ws' := ([ob a_this 11 [.ref a_this_page, .ref a_this_hall, .ref a_this_course, .ref a_this_heard, .ref a_this_image, .ref a_this_rests, .int v_hallsRead, .int v_restsDone], ob a_this_course 7 [.ref a_this_hall, .ref a_this_course_ends, .ref a_this_course_touchers, .ref a_this_course_stops, .ref a_this_course_silences, .int q2.1], ia g a_this_course_ends 5 q1, ia g a_this_course_silences 5 q2.2.1, ia g a_this_course_stops 5 q2.2.2, ia g a_this_course_touchers 5 v_course_touchers, ob a_this_hall 6 [.ref a_this_hall_seats, .int v_hall_size, .int v_hall_fall], ra g a_this_hall_seats 5 (fun i => some (sa i))] ++ swl sa b_K b_su b_wi b_wd b_ch b_tc)) F (c_X2_run l g a_this_course a_this_hall a_this_course_ends a_this_course_touchers a_this_course_stops a_this_course_silences a_this_hall_seats sa v_course_getter q1 v_hall_size v_hall_fall v_course_silences v_course_stops v_course_touchers b_K b_su b_wi b_wd b_ch b_tc hK5 hq2) qv_X2_run ml_X11_152 hw hA hK [1, 2, 6, 7, 3, 4, 5, 8, 9, 10, 11, 12] [0] [0, 1, 2, 5, 6, 7, 3, 4, 8, 9, 10, 11, 12] rfl rfl rfl rfl rfl (by decide) rfl rfl rfl (va_recv hK.1 hP (ci := 7) (q0 := 1) rfl rfl) rfl hl.1 rfl (Nat.le_of_ble_eq_true rfl) dX11_gainByChoice_13 ⟨(Nat.le_of_ble_eq_true rfl), (Nat.le_of_ble_eq_true rfl)⟩ ⟨(Nat.le_of_ble_eq_true rfl), (Nat.le_of_ble_eq_true rfl)⟩ (fun H locs hw => ?_)
  have hP := hw.1
  refine W.eq (g2 := F0 m 16 ls ([])) rfl ?_
  refine lv_aload_n hx hb dX11_gainByChoice_16 rfl (lv_at hl 0 rfl) ?_
  refine w_get (ci := 11) F hK hP fb_X11 0 rfl rfl 2 (by decide) fl_X11_19 (fun _ h => h) rfl dX11_gainByChoice_17 ?_
  refine lv_iload_n hx hb dX11_gainByChoice_20 rfl (lv_at hl 1 rfl) ?_
  obtain ⟨q3, hq3, hf⟩ := o_bind hf
  refine k_rV F (c_X2_gainOf l g a_this_course a_this_hall a_this_course_ends a_this_course_touchers a_this_course_stops a_this_course_silences a_this_hall_seats sa x1 q2.1 v_hall_size v_hall_fall q2.2.2 b_K b_su b_wi b_wd b_ch b_tc hK5 hq3) qv_X2_gainOf ml_X11_120 (hP.sub [1, 6, 7, 4, 8, 9, 10, 11, 12] rfl) hK (va_recv hK.1 hP (ci := 7) (q0 := 1) rfl rfl) rfl hl.1 rfl (Nat.le_of_ble_eq_true rfl) dX11_gainByChoice_21 ⟨(Nat.le_of_ble_eq_true rfl), (Nat.le_of_ble_eq_true rfl)⟩ ⟨(Nat.le_of_ble_eq_true rfl), (Nat.le_of_ble_eq_true rfl)⟩ ?_
  refine W.eq (g2 := F0 m 24 ls (.int q3 :: [])) rfl ?_
  cases hf
  exact r_ci F hQ ⟨rfl, rfl⟩ hw dX11_gainByChoice_24
def f_X11_best_46 (fuel : Nat) (x1 : Int32) (x2 : Int32) (b_K : Nat → Nat) (b_ch : Nat → Int32) (b_su : Nat → Int32) (b_tc : Nat → Int32) (b_wd : Nat → Int32) (b_wi : Nat → Int32) (v_hall_fall : Int32) (v_hall_size : Int32) (y5 : Int32) (y4 : Int32) (y3 : Int32) (w_v_course_ends : Nat → Int32) (w_v_course_getter : Int32) (w_v_course_silences : Nat → Int32) (w_v_course_stops : Nat → Int32) (w_v_course_touchers : Nat → Int32) : Option (Int32 × Int32 × Int32 × (Nat → Int32) × Int32 × (Nat → Int32) × (Nat → Int32) × (Nat → Int32)) := match fuel with
  | 0 => none
  | k + 1 => (if 30 < y5 then (some (y5, y4, y3, w_v_course_ends, w_v_course_getter, w_v_course_silences, w_v_course_stops, w_v_course_touchers)) else ((f_X11_gainByChoice x1 y5 b_K b_su b_wd b_wi w_v_course_ends w_v_course_getter w_v_course_silences w_v_course_stops w_v_course_touchers v_hall_fall v_hall_size).bind fun q8 => (if q8.1 ≤ y4 then (bnd (y5 + 1 : Int32) fun z10 => (f_X11_best_46 k x1 x2 b_K b_ch b_su b_tc b_wd b_wi v_hall_fall v_hall_size z10 y4 y3 q8.2.1 q8.2.2.1 q8.2.2.2.1 q8.2.2.2.2 w_v_course_touchers)) else (bnd (y5 + 1 : Int32) fun z11 => (f_X11_best_46 k x1 x2 b_K b_ch b_su b_tc b_wd b_wi v_hall_fall v_hall_size z11 q8.1 y5 q8.2.1 q8.2.2.1 q8.2.2.2.1 q8.2.2.2.2 w_v_course_touchers)))))
def f_X11_best (x1 : Int32) (x2 : Int32) (b_K : Nat → Nat) (b_ch : Nat → Int32) (b_su : Nat → Int32) (b_tc : Nat → Int32) (b_wd : Nat → Int32) (b_wi : Nat → Int32) (v_course_ends : Nat → Int32) (v_course_getter : Int32) (v_course_silences : Nat → Int32) (v_course_stops : Nat → Int32) (v_course_touchers : Nat → Int32) (v_hall_fall : Int32) (v_hall_size : Int32) : Option (Int32 × (Nat → Int32) × Int32 × (Nat → Int32) × (Nat → Int32) × (Nat → Int32)) := ((f_X4_has x1 v_hall_size).bind fun q1 => (if q1 = 0 then (some ((-101), v_course_ends, v_course_getter, v_course_silences, v_course_stops, v_course_touchers)) else (if x2 < 0 then (some ((-102), v_course_ends, v_course_getter, v_course_silences, v_course_stops, v_course_touchers)) else (if x2 ≤ 1 then ((f_X2_takeAsItIs b_K b_ch b_tc b_wd v_course_ends v_hall_size v_course_touchers).bind fun q5 => ((f_X11_gainByChoice x1 1 b_K b_su b_wd b_wi q5.1 v_course_getter v_course_silences v_course_stops q5.2 v_hall_fall v_hall_size).bind fun q6 => ((f_X11_best_46 4096 x1 x2 b_K b_ch b_su b_tc b_wd b_wi v_hall_fall v_hall_size 2 q6.1 1 q6.2.1 q6.2.2.1 q6.2.2.2.1 q6.2.2.2.2 q5.2).bind fun q12 => (if x2 = 0 then (some (q12.2.2.1, q12.2.2.2.1, q12.2.2.2.2.1, q12.2.2.2.2.2.1, q12.2.2.2.2.2.2.1, q12.2.2.2.2.2.2.2)) else (some ((q12.2.1 + 100), q12.2.2.2.1, q12.2.2.2.2.1, q12.2.2.2.2.2.1, q12.2.2.2.2.2.2.1, q12.2.2.2.2.2.2.2)))))) else (some ((-102), v_course_ends, v_course_getter, v_course_silences, v_course_stops, v_course_touchers))))))
set_option maxRecDepth 100000 in
set_option maxHeartbeats 4000000 in
theorem c_X11_best (l : Launch) (g : GG) (a_this : Nat) (a_this_page : Nat) (a_this_hall : Nat) (a_this_course : Nat) (a_this_heard : Nat) (a_this_image : Nat) (a_this_rests : Nat) (a_this_course_ends : Nat) (a_this_course_touchers : Nat) (a_this_course_stops : Nat) (a_this_course_silences : Nat) (a_this_hall_seats : Nat) (sa : Nat → Nat) (x1 : Int32) (x2 : Int32) (v_hallsRead : Int32) (v_restsDone : Int32) (v_course_getter : Int32) (v_course_ends : Nat → Int32) (v_course_silences : Nat → Int32) (v_course_stops : Nat → Int32) (v_course_touchers : Nat → Int32) (v_hall_size : Int32) (v_hall_fall : Int32) (b_K : Nat → Nat) (b_su : Nat → Int32) (b_wi : Nat → Int32) (b_wd : Nat → Int32) (b_ch : Nat → Int32) (b_tc : Nat → Int32) (hK5 : ∀ i, b_K i < 5) {r0 : Int32} {r1 : Nat → Int32} {r2 : Int32} {r3 : Nat → Int32} {r4 : Nat → Int32} {r5 : Nat → Int32} (hf : f_X11_best x1 x2 b_K b_ch b_su b_tc b_wd b_wi v_course_ends v_course_getter v_course_silences v_course_stops v_course_touchers v_hall_fall v_hall_size = some (r0, r1, r2, r3, r4, r5)) : MD l g yX11_best cX11_best 7 (some .int) 5 111 [.ref a_this, .int x1, .int x2] ([ob a_this 11 [.ref a_this_page, .ref a_this_hall, .ref a_this_course, .ref a_this_heard, .ref a_this_image, .ref a_this_rests, .int v_hallsRead, .int v_restsDone], ob a_this_course 7 [.ref a_this_hall, .ref a_this_course_ends, .ref a_this_course_touchers, .ref a_this_course_stops, .ref a_this_course_silences, .int v_course_getter], ia g a_this_course_ends 5 v_course_ends, ia g a_this_course_silences 5 v_course_silences, ia g a_this_course_stops 5 v_course_stops, ia g a_this_course_touchers 5 v_course_touchers, ob a_this_hall 6 [.ref a_this_hall_seats, .int v_hall_size, .int v_hall_fall], ra g a_this_hall_seats 5 (fun i => some (sa i))] ++ swl sa b_K b_su b_wi b_wd b_ch b_tc) (some (.int r0)) ([ob a_this 11 [.ref a_this_page, .ref a_this_hall, .ref a_this_course, .ref a_this_heard, .ref a_this_image, .ref a_this_rests, .int v_hallsRead, .int v_restsDone], ob a_this_course 7 [.ref a_this_hall, .ref a_this_course_ends, .ref a_this_course_touchers, .ref a_this_course_stops, .ref a_this_course_silences, .int r2], ia g a_this_course_ends 5 r1, ia g a_this_course_silences 5 r3, ia g a_this_course_stops 5 r4, ia g a_this_course_touchers 5 r5, ob a_this_hall 6 [.ref a_this_hall_seats, .int v_hall_size, .int v_hall_fall], ra g a_this_hall_seats 5 (fun i => some (sa i))] ++ swl sa b_K b_su b_wi b_wd b_ch b_tc) := by
  refine MC.mk (by decide) (Nat.le_of_ble_eq_true rfl) ?_
  intro p e s m args below meth c ls Q A F hnm hK hw hA hl hQ
  have hP := hw.1
  have hx := F.1
  have hb := F.2.1
  have hml := F.2.2.2.1
  have hown := F.2.2.2.2.1
  have hts := F.2.2.2.2.2.1
  have hl : lv_has ls 7 [(0, .ref a_this), (1, .int x1), (2, .int x2)] := hl
  have L46 : ∀ (k : Nat) (y5 : Int32) (y4 : Int32) (y3 : Int32) (w_v_course_ends : Nat → Int32) (w_v_course_getter : Int32) (w_v_course_silences : Nat → Int32) (w_v_course_stops : Nat → Int32) (w_v_course_touchers : Nat → Int32) (q : Int32 × Int32 × Int32 × (Nat → Int32) × Int32 × (Nat → Int32) × (Nat → Int32) × (Nat → Int32)), f_X11_best_46 k x1 x2 b_K b_ch b_su b_tc b_wd b_wi v_hall_fall v_hall_size y5 y4 y3 w_v_course_ends w_v_course_getter w_v_course_silences w_v_course_stops w_v_course_touchers = some q → ∀ (H : Heap) (locs : List Loc) (ls : Array Slot), WD g A s.heap ([ob a_this 11 [.ref a_this_page, .ref a_this_hall, .ref a_this_course, .ref a_this_heard, .ref a_this_image, .ref a_this_rests, .int v_hallsRead, .int v_restsDone], ob a_this_course 7 [.ref a_this_hall, .ref a_this_course_ends, .ref a_this_course_touchers, .ref a_this_course_stops, .ref a_this_course_silences, .int w_v_course_getter], ia g a_this_course_ends 5 w_v_course_ends, ia g a_this_course_silences 5 w_v_course_silences, ia g a_this_course_stops 5 w_v_course_stops, ia g a_this_course_touchers 5 w_v_course_touchers, ob a_this_hall 6 [.ref a_this_hall_seats, .int v_hall_size, .int v_hall_fall], ra g a_this_hall_seats 5 (fun i => some (sa i))] ++ swl sa b_K b_su b_wi b_wd b_ch b_tc) H locs → lv_has ls 7 [(5, .int y5), (4, .int y4), (3, .int y3), (0, .ref a_this), (1, .int x1), (2, .int x2)] → (∀ (H : Heap) (locs : List Loc) (ls : Array Slot), WD g A s.heap ([ob a_this 11 [.ref a_this_page, .ref a_this_hall, .ref a_this_course, .ref a_this_heard, .ref a_this_image, .ref a_this_rests, .int v_hallsRead, .int v_restsDone], ob a_this_course 7 [.ref a_this_hall, .ref a_this_course_ends, .ref a_this_course_touchers, .ref a_this_course_stops, .ref a_this_course_silences, .int q.2.2.2.2.1], ia g a_this_course_ends 5 q.2.2.2.1, ia g a_this_course_silences 5 q.2.2.2.2.2.1, ia g a_this_course_stops 5 q.2.2.2.2.2.2.1, ia g a_this_course_touchers 5 q.2.2.2.2.2.2.2, ob a_this_hall 6 [.ref a_this_hall_seats, .int v_hall_size, .int v_hall_fall], ra g a_this_hall_seats 5 (fun i => some (sa i))] ++ swl sa b_K b_su b_wi b_wd b_ch b_tc) H locs → lv_has ls 7 [(5, .int q.1), (4, .int q.2.1), (3, .int q.2.2.1), (0, .ref a_this), (1, .int x1), (2, .int x2)] → W p l e (rmc 5 0 0 111) s m args below meth c H locs 0 0 Q (F0 m 82 ls [])) → W p l e (rmc 5 0 0 111) s m args below meth c H locs 0 0 Q (F0 m 46 ls []) := by
    intro k
    induction k with
    | zero => intro y5 y4 y3 w_v_course_ends w_v_course_getter w_v_course_silences w_v_course_stops w_v_course_touchers q hf; rw [f_X11_best_46] at hf; cases hf
    | succ k ih =>
      intro y5 y4 y3 w_v_course_ends w_v_course_getter w_v_course_silences w_v_course_stops w_v_course_touchers q hf H locs ls hw hl kx
      rw [f_X11_best_46] at hf
      have hP := hw.1
      refine lv_iload hx hb dX11_best_46 (lv_at hl 0 rfl) ?_
      refine lv_bipush (v := 30) hx hb dX11_best_48 (by decide) ?_
      refine lv_icmp_gt (tgt := 82) hx hb dX11_best_50 (by decide) (fun h7 => ?_) (fun h7 => ?_)
      · have hf := o_t h7 hf
        cases hf
        exact kx _ _ ls hw (lv_sub hl [0, 1, 2, 3, 4, 5] rfl)
      · have hf := o_f h7 hf
        refine lv_aload_n hx hb dX11_best_53 rfl (lv_at hl 3 rfl) ?_
        refine lv_iload_n hx hb dX11_best_54 rfl (lv_at hl 4 rfl) ?_
        refine lv_iload hx hb dX11_best_55 (lv_at hl 0 rfl) ?_
        obtain ⟨q8, hq8, hf⟩ := o_bind hf
        refine k_dV (wr := []) (ws' := ([ob a_this 11 [.ref a_this_page, .ref a_this_hall, .ref a_this_course, .ref a_this_heard, .ref a_this_image, .ref a_this_rests, .int v_hallsRead, .int v_restsDone], ob a_this_course 7 [.ref a_this_hall, .ref a_this_course_ends, .ref a_this_course_touchers, .ref a_this_course_stops, .ref a_this_course_silences, .int q8.2.2.1], ia g a_this_course_ends 5 q8.2.1, ia g a_this_course_silences 5 q8.2.2.2.1, ia g a_this_course_stops 5 q8.2.2.2.2, ia g a_this_course_touchers 5 w_v_course_touchers, ob a_this_hall 6 [.ref a_this_hall_seats, .int v_hall_size, .int v_hall_fall], ra g a_this_hall_seats 5 (fun i => some (sa i))] ++ swl sa b_K b_su b_wi b_wd b_ch b_tc)) F (c_X11_gainByChoice l g a_this a_this_page a_this_hall a_this_course a_this_heard a_this_image a_this_rests a_this_course_ends a_this_course_touchers a_this_course_stops a_this_course_silences a_this_hall_seats sa x1 y5 v_hallsRead v_restsDone w_v_course_getter w_v_course_ends w_v_course_silences w_v_course_stops w_v_course_touchers v_hall_size v_hall_fall b_K b_su b_wi b_wd b_ch b_tc hK5 hq8) qv_X11_gainByChoice ml_X11_144 hw hA hK [0, 1, 2, 3, 4, 5, 6, 7, 8, 9, 10, 11, 12] [] [0, 1, 2, 3, 4, 5, 6, 7, 8, 9, 10, 11, 12] rfl rfl rfl rfl rfl (by decide) rfl rfl rfl (va_recv hK.1 hP (ci := 11) (q0 := 0) rfl rfl) rfl hl.1 rfl (Nat.le_of_ble_eq_true rfl) dX11_best_57 ⟨(Nat.le_of_ble_eq_true rfl), (Nat.le_of_ble_eq_true rfl)⟩ ⟨(Nat.le_of_ble_eq_true rfl), (Nat.le_of_ble_eq_true rfl)⟩ (fun H locs hw => ?_)
        have hP := hw.1
        refine W.eq (g2 := F0 m 60 ls (.int q8.1 :: [])) rfl ?_
        refine lv_istore (lv' := [(6, .int q8.1), (5, .int y5), (4, .int y4), (3, .int y3), (0, .ref a_this), (1, .int x1), (2, .int x2)]) hx hb dX11_best_60 hl (by decide) rfl (fun ls hl => ?_)
        refine lv_iload hx hb dX11_best_62 (lv_at hl 0 rfl) ?_
        refine lv_iload hx hb dX11_best_64 (lv_at hl 2 rfl) ?_
        refine lv_icmp_le (tgt := 76) hx hb dX11_best_66 (by decide) (fun h9 => ?_) (fun h9 => ?_)
        · have hf := o_t h9 hf
          obtain ⟨z10, ez10⟩ : ∃ y : Int32, y = y5 + 1 := ⟨_, rfl⟩
          have hf := o_bnd ez10 hf
          refine lv_iinc (v := z10) (lv' := [(5, .int z10), (6, .int q8.1), (4, .int y4), (3, .int y3), (0, .ref a_this), (1, .int x1), (2, .int x2)]) hx hb dX11_best_76 hl (k := 1) rfl (by rw [ez10]; rfl) (by decide) rfl (fun ls hl => ?_)
          refine lv_goto (tgt := 46) hx hb dX11_best_79 (by decide) ?_
          exact ih z10 y4 y3 q8.2.1 q8.2.2.1 q8.2.2.2.1 q8.2.2.2.2 w_v_course_touchers _ hf _ _ ls hw (lv_sub hl [0, 2, 3, 4, 5, 6] rfl) kx
        · have hf := o_f h9 hf
          refine lv_iload hx hb dX11_best_69 (lv_at hl 1 rfl) ?_
          refine lv_istore_n (lv' := [(3, .int y5), (6, .int q8.1), (5, .int y5), (4, .int y4), (0, .ref a_this), (1, .int x1), (2, .int x2)]) hx hb dX11_best_71 rfl hl (by decide) rfl (fun ls hl => ?_)
          refine lv_iload hx hb dX11_best_72 (lv_at hl 1 rfl) ?_
          refine lv_istore (lv' := [(4, .int q8.1), (3, .int y5), (6, .int q8.1), (5, .int y5), (0, .ref a_this), (1, .int x1), (2, .int x2)]) hx hb dX11_best_74 hl (by decide) rfl (fun ls hl => ?_)
          obtain ⟨z11, ez11⟩ : ∃ y : Int32, y = y5 + 1 := ⟨_, rfl⟩
          have hf := o_bnd ez11 hf
          refine lv_iinc (v := z11) (lv' := [(5, .int z11), (4, .int q8.1), (3, .int y5), (6, .int q8.1), (0, .ref a_this), (1, .int x1), (2, .int x2)]) hx hb dX11_best_76 hl (k := 3) rfl (by rw [ez11]; rfl) (by decide) rfl (fun ls hl => ?_)
          refine lv_goto (tgt := 46) hx hb dX11_best_79 (by decide) ?_
          exact ih z11 q8.1 y5 q8.2.1 q8.2.2.1 q8.2.2.2.1 q8.2.2.2.2 w_v_course_touchers _ hf _ _ ls hw (lv_sub hl [0, 1, 2, 4, 5, 6] rfl) kx
  unfold f_X11_best at hf
  refine lv_aload_n hx hb dX11_best_0 rfl (lv_at hl 0 rfl) ?_
  refine w_get (ci := 11) F hK hP fb_X11 0 rfl rfl 1 (by decide) fl_X11_27 (fun _ h => h) rfl dX11_best_1 ?_
  refine lv_iload_n hx hb dX11_best_4 rfl (lv_at hl 1 rfl) ?_
  obtain ⟨q1, hq1, hf⟩ := o_bind hf
  refine k_rV F (c_X4_has l g a_this_hall a_this_hall_seats x1 v_hall_size v_hall_fall hq1) qv_X4_has ml_X11_81 (hP.sub [6] rfl) hK (va_recv hK.1 hP (ci := 6) (q0 := 6) rfl rfl) rfl hl.1 rfl (Nat.le_of_ble_eq_true rfl) dX11_best_5 ⟨(Nat.le_of_ble_eq_true rfl), (Nat.le_of_ble_eq_true rfl)⟩ ⟨(Nat.le_of_ble_eq_true rfl), (Nat.le_of_ble_eq_true rfl)⟩ ?_
  refine W.eq (g2 := F0 m 8 ls (.int q1 :: [])) rfl ?_
  refine lv_if_ne (tgt := 14) hx hb dX11_best_8 (by decide) (fun h2 => ?_) (fun h2 => ?_)
  · have hf := o_f h2 hf
    refine lv_iload_n hx hb dX11_best_14 rfl (lv_at hl 2 rfl) ?_
    refine lv_if_lt (tgt := 23) hx hb dX11_best_15 (by decide) (fun h3 => ?_) (fun h3 => ?_)
    · have hf := o_t h3 hf
      refine lv_bipush (v := (-102)) hx hb dX11_best_23 (by decide) ?_
      cases hf
      exact r_ci F hQ ⟨rfl, rfl⟩ hw dX11_best_25
    · have hf := o_f h3 hf
      refine lv_iload_n hx hb dX11_best_18 rfl (lv_at hl 2 rfl) ?_
      refine lv_iconst (v := 1) hx hb dX11_best_19 (by decide) ?_
      refine lv_icmp_le (tgt := 26) hx hb dX11_best_20 (by decide) (fun h4 => ?_) (fun h4 => ?_)
      · have hf := o_t h4 hf
        refine lv_aload_n hx hb dX11_best_26 rfl (lv_at hl 0 rfl) ?_
        refine w_get (ci := 11) F hK hP fb_X11 0 rfl rfl 2 (by decide) fl_X11_19 (fun _ h => h) rfl dX11_best_27 ?_
        obtain ⟨q5, hq5, hf⟩ := o_bind hf
        refine k_dV (wr := [ob a_this 11 [.ref a_this_page, .ref a_this_hall, .ref a_this_course, .ref a_this_heard, .ref a_this_image, .ref a_this_rests, .int v_hallsRead, .int v_restsDone], ia g a_this_course_silences 5 v_course_silences, ia g a_this_course_stops 5 v_course_stops]) (ws' := ([ob a_this 11 [.ref a_this_page, .ref a_this_hall, .ref a_this_course, .ref a_this_heard, .ref a_this_image, .ref a_this_rests, .int v_hallsRead, .int v_restsDone], ob a_this_course 7 [.ref a_this_hall, .ref a_this_course_ends, .ref a_this_course_touchers, .ref a_this_course_stops, .ref a_this_course_silences, .int v_course_getter], ia g a_this_course_ends 5 q5.1, ia g a_this_course_silences 5 v_course_silences, ia g a_this_course_stops 5 v_course_stops, ia g a_this_course_touchers 5 q5.2, ob a_this_hall 6 [.ref a_this_hall_seats, .int v_hall_size, .int v_hall_fall], ra g a_this_hall_seats 5 (fun i => some (sa i))] ++ swl sa b_K b_su b_wi b_wd b_ch b_tc)) F (c_X2_takeAsItIs l g a_this_course a_this_hall a_this_course_ends a_this_course_touchers a_this_course_stops a_this_course_silences a_this_hall_seats sa v_course_getter v_course_ends v_hall_size v_hall_fall v_course_touchers b_K b_su b_wi b_wd b_ch b_tc hK5 hq5) qv_X2_takeAsItIs ml_X11_141 hw hA hK [1, 2, 6, 7, 5, 8, 9, 10, 11, 12] [0, 3, 4] [0, 3, 4, 1, 2, 7, 5, 6, 8, 9, 10, 11, 12] rfl rfl rfl rfl rfl (by decide) rfl rfl rfl (va_recv hK.1 hP (ci := 7) (q0 := 1) rfl rfl) rfl hl.1 rfl (Nat.le_of_ble_eq_true rfl) dX11_best_30 ⟨(Nat.le_of_ble_eq_true rfl), (Nat.le_of_ble_eq_true rfl)⟩ ⟨(Nat.le_of_ble_eq_true rfl), (Nat.le_of_ble_eq_true rfl)⟩ (fun H locs hw => ?_)
        have hP := hw.1
        refine W.eq (g2 := F0 m 33 ls ([])) rfl ?_
        refine lv_iconst (v := 1) hx hb dX11_best_33 (by decide) ?_
        refine lv_istore_n (lv' := [(3, .int 1), (0, .ref a_this), (1, .int x1), (2, .int x2)]) hx hb dX11_best_34 rfl hl (by decide) rfl (fun ls hl => ?_)
        refine lv_aload_n hx hb dX11_best_35 rfl (lv_at hl 1 rfl) ?_
        refine lv_iload_n hx hb dX11_best_36 rfl (lv_at hl 2 rfl) ?_
        refine lv_iconst (v := 1) hx hb dX11_best_37 (by decide) ?_
        obtain ⟨q6, hq6, hf⟩ := o_bind hf
        refine k_dV (wr := []) (ws' := ([ob a_this 11 [.ref a_this_page, .ref a_this_hall, .ref a_this_course, .ref a_this_heard, .ref a_this_image, .ref a_this_rests, .int v_hallsRead, .int v_restsDone], ob a_this_course 7 [.ref a_this_hall, .ref a_this_course_ends, .ref a_this_course_touchers, .ref a_this_course_stops, .ref a_this_course_silences, .int q6.2.2.1], ia g a_this_course_ends 5 q6.2.1, ia g a_this_course_silences 5 q6.2.2.2.1, ia g a_this_course_stops 5 q6.2.2.2.2, ia g a_this_course_touchers 5 q5.2, ob a_this_hall 6 [.ref a_this_hall_seats, .int v_hall_size, .int v_hall_fall], ra g a_this_hall_seats 5 (fun i => some (sa i))] ++ swl sa b_K b_su b_wi b_wd b_ch b_tc)) F (c_X11_gainByChoice l g a_this a_this_page a_this_hall a_this_course a_this_heard a_this_image a_this_rests a_this_course_ends a_this_course_touchers a_this_course_stops a_this_course_silences a_this_hall_seats sa x1 1 v_hallsRead v_restsDone v_course_getter q5.1 v_course_silences v_course_stops q5.2 v_hall_size v_hall_fall b_K b_su b_wi b_wd b_ch b_tc hK5 hq6) qv_X11_gainByChoice ml_X11_144 hw hA hK [0, 1, 2, 3, 4, 5, 6, 7, 8, 9, 10, 11, 12] [] [0, 1, 2, 3, 4, 5, 6, 7, 8, 9, 10, 11, 12] rfl rfl rfl rfl rfl (by decide) rfl rfl rfl (va_recv hK.1 hP (ci := 11) (q0 := 0) rfl rfl) rfl hl.1 rfl (Nat.le_of_ble_eq_true rfl) dX11_best_38 ⟨(Nat.le_of_ble_eq_true rfl), (Nat.le_of_ble_eq_true rfl)⟩ ⟨(Nat.le_of_ble_eq_true rfl), (Nat.le_of_ble_eq_true rfl)⟩ (fun H locs hw => ?_)
        have hP := hw.1
        refine W.eq (g2 := F0 m 41 ls (.int q6.1 :: [])) rfl ?_
        refine lv_istore (lv' := [(4, .int q6.1), (3, .int 1), (0, .ref a_this), (1, .int x1), (2, .int x2)]) hx hb dX11_best_41 hl (by decide) rfl (fun ls hl => ?_)
        refine lv_iconst (v := 2) hx hb dX11_best_43 (by decide) ?_
        refine lv_istore (lv' := [(5, .int 2), (4, .int q6.1), (3, .int 1), (0, .ref a_this), (1, .int x1), (2, .int x2)]) hx hb dX11_best_44 hl (by decide) rfl (fun ls hl => ?_)
        obtain ⟨q12, hq12, hf⟩ := o_bind hf
        refine L46 _ 2 q6.1 1 q6.2.1 q6.2.2.1 q6.2.2.2.1 q6.2.2.2.2 q5.2 _ hq12 _ _ ls hw (lv_sub hl [0, 1, 2, 3, 4, 5] rfl) (fun H locs ls hw hl => ?_)
        have hP := hw.1
        refine lv_iload_n hx hb dX11_best_82 rfl (lv_at hl 5 rfl) ?_
        refine lv_if_ne (tgt := 90) hx hb dX11_best_83 (by decide) (fun h13 => ?_) (fun h13 => ?_)
        · have hf := o_f h13 hf
          refine lv_iload hx hb dX11_best_90 (lv_at hl 1 rfl) ?_
          refine lv_bipush (v := 100) hx hb dX11_best_92 (by decide) ?_
          refine lv_iadd hx hb dX11_best_94 ?_
          cases hf
          exact r_ci F hQ ⟨rfl, rfl⟩ hw dX11_best_95
        · have hf := o_t h13 hf
          refine lv_iload_n hx hb dX11_best_86 rfl (lv_at hl 2 rfl) ?_
          refine lv_goto (tgt := 95) hx hb dX11_best_87 (by decide) ?_
          cases hf
          exact r_ci F hQ ⟨rfl, rfl⟩ hw dX11_best_95
      · have hf := o_f h4 hf
        refine lv_bipush (v := (-102)) hx hb dX11_best_23 (by decide) ?_
        cases hf
        exact r_ci F hQ ⟨rfl, rfl⟩ hw dX11_best_25
  · have hf := o_t h2 hf
    refine lv_bipush (v := (-101)) hx hb dX11_best_11 (by decide) ?_
    cases hf
    exact r_ci F hQ ⟨rfl, rfl⟩ hw dX11_best_13
