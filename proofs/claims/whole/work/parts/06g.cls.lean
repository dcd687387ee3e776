def f_X11_rests (x1 : Int32) (x2 : Int32) (b_K : Nat → Nat) (b_ch : Nat → Int32) (b_su : Nat → Int32) (b_tc : Nat → Int32) (b_wd : Nat → Int32) (b_wi : Nat → Int32) (v_course_ends : Nat → Int32) (v_course_getter : Int32) (v_course_silences : Nat → Int32) (v_course_stops : Nat → Int32) (v_course_touchers : Nat → Int32) (v_hall_fall : Int32) (v_hall_size : Int32) (v_restsDone : Int32) (v_rests_breaths : Int32) (v_rests_choices : Nat → Int32) (v_rests_firstChoices : Nat → Int32) (v_rests_gains : Nat → Int32) (v_rests_getters : Nat → Int32) (v_rests_howMany : Int32) (v_rests_size : Int32) (v_rests_weights : Nat → Int32) : Option (Int32 × (Nat → Int32) × Int32 × (Nat → Int32) × (Nat → Int32) × (Nat → Int32) × Int32 × Int32 × (Nat → Int32) × (Nat → Int32) × (Nat → Int32) × (Nat → Int32) × Int32 × Int32 × (Nat → Int32)) := (if x1 < 1 then (some ((-102), v_course_ends, v_course_getter, v_course_silences, v_course_stops, v_course_touchers, v_restsDone, v_rests_breaths, v_rests_choices, v_rests_firstChoices, v_rests_gains, v_rests_getters, v_rests_howMany, v_rests_size, v_rests_weights)) else (if x1 ≤ 4 then (if x2 = 0 then (if v_hall_size = 0 then (some ((-103), v_course_ends, v_course_getter, v_course_silences, v_course_stops, v_course_touchers, v_restsDone, v_rests_breaths, v_rests_choices, v_rests_firstChoices, v_rests_gains, v_rests_getters, v_rests_howMany, v_rests_size, v_rests_weights)) else (if v_restsDone < 20 then (bnd (v_restsDone + 1) fun z6 => ((f_X8_find x1 b_K b_ch b_su b_tc b_wd b_wi v_rests_breaths v_rests_choices v_rests_firstChoices v_rests_gains v_rests_getters v_rests_howMany v_course_ends v_course_getter v_hall_fall v_hall_size v_course_silences v_course_stops v_course_touchers v_rests_size v_rests_weights).bind fun q7 => (some (q7.2.2.2.2.2.1, q7.2.2.2.2.2.2.1, q7.2.2.2.2.2.2.2.1, q7.2.2.2.2.2.2.2.2.1, q7.2.2.2.2.2.2.2.2.2.1, q7.2.2.2.2.2.2.2.2.2.2.1, z6, q7.1, q7.2.1, q7.2.2.1, q7.2.2.2.1, q7.2.2.2.2.1, q7.2.2.2.2.2.1, q7.2.2.2.2.2.2.2.2.2.2.2.1, q7.2.2.2.2.2.2.2.2.2.2.2.2)))) else (some ((-103), v_course_ends, v_course_getter, v_course_silences, v_course_stops, v_course_touchers, v_restsDone, v_rests_breaths, v_rests_choices, v_rests_firstChoices, v_rests_gains, v_rests_getters, v_rests_howMany, v_rests_size, v_rests_weights)))) else (if x2 < 10 then (some ((-102), v_course_ends, v_course_getter, v_course_silences, v_course_stops, v_course_touchers, v_restsDone, v_rests_breaths, v_rests_choices, v_rests_firstChoices, v_rests_gains, v_rests_getters, v_rests_howMany, v_rests_size, v_rests_weights)) else (if x2 ≤ 14 then (if v_hall_size = 0 then (some ((-103), v_course_ends, v_course_getter, v_course_silences, v_course_stops, v_course_touchers, v_restsDone, v_rests_breaths, v_rests_choices, v_rests_firstChoices, v_rests_gains, v_rests_getters, v_rests_howMany, v_rests_size, v_rests_weights)) else (if v_restsDone < 20 then (bnd (v_restsDone + 1) fun z13 => ((f_X8_find x1 b_K b_ch b_su b_tc b_wd b_wi v_rests_breaths v_rests_choices v_rests_firstChoices v_rests_gains v_rests_getters v_rests_howMany v_course_ends v_course_getter v_hall_fall v_hall_size v_course_silences v_course_stops v_course_touchers v_rests_size v_rests_weights).bind fun q14 => ((f_X8_choiceInFirst (x2 - 10) q14.2.2.1 q14.2.2.2.2.2.1 q14.2.2.2.2.2.2.2.2.2.2.2.1).bind fun q16 => (some (q16, q14.2.2.2.2.2.2.1, q14.2.2.2.2.2.2.2.1, q14.2.2.2.2.2.2.2.2.1, q14.2.2.2.2.2.2.2.2.2.1, q14.2.2.2.2.2.2.2.2.2.2.1, z13, q14.1, q14.2.1, q14.2.2.1, q14.2.2.2.1, q14.2.2.2.2.1, q14.2.2.2.2.2.1, q14.2.2.2.2.2.2.2.2.2.2.2.1, q14.2.2.2.2.2.2.2.2.2.2.2.2))))) else (some ((-103), v_course_ends, v_course_getter, v_course_silences, v_course_stops, v_course_touchers, v_restsDone, v_rests_breaths, v_rests_choices, v_rests_firstChoices, v_rests_gains, v_rests_getters, v_rests_howMany, v_rests_size, v_rests_weights)))) else (some ((-102), v_course_ends, v_course_getter, v_course_silences, v_course_stops, v_course_touchers, v_restsDone, v_rests_breaths, v_rests_choices, v_rests_firstChoices, v_rests_gains, v_rests_getters, v_rests_howMany, v_rests_size, v_rests_weights))))) else (some ((-102), v_course_ends, v_course_getter, v_course_silences, v_course_stops, v_course_touchers, v_restsDone, v_rests_breaths, v_rests_choices, v_rests_firstChoices, v_rests_gains, v_rests_getters, v_rests_howMany, v_rests_size, v_rests_weights))))
set_option maxRecDepth 100000 in
set_option maxHeartbeats 4000000 in
theorem c_X11_rests (l : Launch) (g : GG) (a_this : Nat) (a_this_page : Nat) (a_this_hall : Nat) (a_this_course : Nat) (a_this_heard : Nat) (a_this_image : Nat) (a_this_rests : Nat) (a_this_course_ends : Nat) (a_this_course_touchers : Nat) (a_this_course_stops : Nat) (a_this_course_silences : Nat) (a_this_hall_seats : Nat) (a_this_rests_getters : Nat) (a_this_rests_gains : Nat) (a_this_rests_weights : Nat) (a_this_rests_choices : Nat) (a_this_rests_firstChoices : Nat) (sa : Nat → Nat) (x1 : Int32) (x2 : Int32) (v_hallsRead : Int32) (v_restsDone : Int32) (v_course_getter : Int32) (v_course_ends : Nat → Int32) (v_course_silences : Nat → Int32) (v_course_stops : Nat → Int32) (v_course_touchers : Nat → Int32) (v_hall_size : Int32) (v_hall_fall : Int32) (v_rests_size : Int32) (v_rests_breaths : Int32) (v_rests_howMany : Int32) (v_rests_choices : Nat → Int32) (v_rests_firstChoices : Nat → Int32) (v_rests_gains : Nat → Int32) (v_rests_getters : Nat → Int32) (v_rests_weights : Nat → Int32) (b_K : Nat → Nat) (b_su : Nat → Int32) (b_wi : Nat → Int32) (b_wd : Nat → Int32) (b_ch : Nat → Int32) (b_tc : Nat → Int32) (hK5 : ∀ i, b_K i < 5) {r0 : Int32} {r1 : Nat → Int32} {r2 : Int32} {r3 : Nat → Int32} {r4 : Nat → Int32} {r5 : Nat → Int32} {r6 : Int32} {r7 : Int32} {r8 : Nat → Int32} {r9 : Nat → Int32} {r10 : Nat → Int32} {r11 : Nat → Int32} {r12 : Int32} {r13 : Int32} {r14 : Nat → Int32} (hf : f_X11_rests x1 x2 b_K b_ch b_su b_tc b_wd b_wi v_course_ends v_course_getter v_course_silences v_course_stops v_course_touchers v_hall_fall v_hall_size v_restsDone v_rests_breaths v_rests_choices v_rests_firstChoices v_rests_gains v_rests_getters v_rests_howMany v_rests_size v_rests_weights = some (r0, r1, r2, r3, r4, r5, r6, r7, r8, r9, r10, r11, r12, r13, r14)) : MD l g yX11_rests cX11_rests 3 (some .int) 6 137 [.ref a_this, .int x1, .int x2] ([ob a_this 11 [.ref a_this_page, .ref a_this_hall, .ref a_this_course, .ref a_this_heard, .ref a_this_image, .ref a_this_rests, .int v_hallsRead, .int v_restsDone], ob a_this_course 7 [.ref a_this_hall, .ref a_this_course_ends, .ref a_this_course_touchers, .ref a_this_course_stops, .ref a_this_course_silences, .int v_course_getter], ia g a_this_course_ends 5 v_course_ends, ia g a_this_course_silences 5 v_course_silences, ia g a_this_course_stops 5 v_course_stops, ia g a_this_course_touchers 5 v_course_touchers, ob a_this_hall 6 [.ref a_this_hall_seats, .int v_hall_size, .int v_hall_fall], ra g a_this_hall_seats 5 (fun i => some (sa i)), ob a_this_rests 10 [.ref a_this_rests_getters, .ref a_this_rests_gains, .ref a_this_rests_weights, .ref a_this_rests_choices, .ref a_this_rests_firstChoices, .int v_rests_size, .int v_rests_breaths, .int v_rests_howMany], ia g a_this_rests_choices 5 v_rests_choices, ia g a_this_rests_firstChoices 5 v_rests_firstChoices, ia g a_this_rests_gains 1024 v_rests_gains, ia g a_this_rests_getters 1024 v_rests_getters, ia g a_this_rests_weights 5 v_rests_weights] ++ swl sa b_K b_su b_wi b_wd b_ch b_tc) (some (.int r0)) ([ob a_this 11 [.ref a_this_page, .ref a_this_hall, .ref a_this_course, .ref a_this_heard, .ref a_this_image, .ref a_this_rests, .int v_hallsRead, .int r6], ob a_this_course 7 [.ref a_this_hall, .ref a_this_course_ends, .ref a_this_course_touchers, .ref a_this_course_stops, .ref a_this_course_silences, .int r2], ia g a_this_course_ends 5 r1, ia g a_this_course_silences 5 r3, ia g a_this_course_stops 5 r4, ia g a_this_course_touchers 5 r5, ob a_this_hall 6 [.ref a_this_hall_seats, .int v_hall_size, .int v_hall_fall], ra g a_this_hall_seats 5 (fun i => some (sa i)), ob a_this_rests 10 [.ref a_this_rests_getters, .ref a_this_rests_gains, .ref a_this_rests_weights, .ref a_this_rests_choices, .ref a_this_rests_firstChoices, .int r13, .int r7, .int r12], ia g a_this_rests_choices 5 r8, ia g a_this_rests_firstChoices 5 r9, ia g a_this_rests_gains 1024 r10, ia g a_this_rests_getters 1024 r11, ia g a_this_rests_weights 5 r14] ++ swl sa b_K b_su b_wi b_wd b_ch b_tc) := by
  refine MC.mk (by decide) (Nat.le_of_ble_eq_true rfl) ?_
  intro p e s m args below meth c ls Q A F hnm hK hw hA hl hQ
  have hP := hw.1
  have hx := F.1
  have hb := F.2.1
  have hml := F.2.2.2.1
  have hown := F.2.2.2.2.1
  have hts := F.2.2.2.2.2.1
  have hl : lv_has ls 3 [(0, .ref a_this), (1, .int x1), (2, .int x2)] := hl
  unfold f_X11_rests at hf
  refine lv_iload_n hx hb dX11_rests_0 rfl (lv_at hl 1 rfl) ?_
  refine lv_iconst (v := 1) hx hb dX11_rests_1 (by decide) ?_
  refine lv_icmp_lt (tgt := 10) hx hb dX11_rests_2 (by decide) (fun h1 => ?_) (fun h1 => ?_)
  · have hf := o_t h1 hf
    refine lv_bipush (v := (-102)) hx hb dX11_rests_10 (by decide) ?_
    cases hf
    exact r_ci F hQ ⟨rfl, rfl⟩ hw dX11_rests_12
  · have hf := o_f h1 hf
    refine lv_iload_n hx hb dX11_rests_5 rfl (lv_at hl 1 rfl) ?_
    refine lv_iconst (v := 4) hx hb dX11_rests_6 (by decide) ?_
    refine lv_icmp_le (tgt := 13) hx hb dX11_rests_7 (by decide) (fun h2 => ?_) (fun h2 => ?_)
    · have hf := o_t h2 hf
      refine lv_iload_n hx hb dX11_rests_13 rfl (lv_at hl 2 rfl) ?_
      refine lv_if_eq (tgt := 32) hx hb dX11_rests_14 (by decide) (fun h3 => ?_) (fun h3 => ?_)
      · have hf := o_t h3 hf
        refine lv_aload_n hx hb dX11_rests_32 rfl (lv_at hl 0 rfl) ?_
        refine w_get (ci := 11) F hK hP fb_X11 0 rfl rfl 1 (by decide) fl_X11_27 (fun _ h => h) rfl dX11_rests_33 ?_
        refine w_get (ci := 6) F hK hP fb_X4 6 rfl rfl 1 (by decide) fl_X11_78 (fun _ h => h) rfl dX11_rests_36 ?_
        refine lv_if_eq (tgt := 51) hx hb dX11_rests_39 (by decide) (fun h4 => ?_) (fun h4 => ?_)
        · have hf := o_t h4 hf
          refine lv_bipush (v := (-103)) hx hb dX11_rests_51 (by decide) ?_
          cases hf
          exact r_ci F hQ ⟨rfl, rfl⟩ hw dX11_rests_53
        · have hf := o_f h4 hf
          refine lv_aload_n hx hb dX11_rests_42 rfl (lv_at hl 0 rfl) ?_
          refine w_get (ci := 11) F hK hP fb_X11 0 rfl rfl 7 (by decide) fl_X11_155 (fun _ h => h) rfl dX11_rests_43 ?_
          refine lv_bipush (v := 20) hx hb dX11_rests_46 (by decide) ?_
          refine lv_icmp_lt (tgt := 54) hx hb dX11_rests_48 (by decide) (fun h5 => ?_) (fun h5 => ?_)
          · have hf := o_t h5 hf
            refine lv_aload_n hx hb dX11_rests_54 rfl (lv_at hl 0 rfl) ?_
            refine lv_dup hx hb dX11_rests_55 rfl ?_
            refine w_get (ci := 11) F hK hP fb_X11 0 rfl rfl 7 (by decide) fl_X11_155 (fun _ h => h) rfl dX11_rests_56 ?_
            refine lv_iconst (v := 1) hx hb dX11_rests_59 (by decide) ?_
            refine lv_iadd hx hb dX11_rests_60 ?_
            refine lv_topi (fun z6 ez6 => ?_)
            have hf := o_bnd ez6 hf
            refine w_put (ci := 11) (ws' := ([ob a_this 11 [.ref a_this_page, .ref a_this_hall, .ref a_this_course, .ref a_this_heard, .ref a_this_image, .ref a_this_rests, .int v_hallsRead, .int z6], ob a_this_course 7 [.ref a_this_hall, .ref a_this_course_ends, .ref a_this_course_touchers, .ref a_this_course_stops, .ref a_this_course_silences, .int v_course_getter], ia g a_this_course_ends 5 v_course_ends, ia g a_this_course_silences 5 v_course_silences, ia g a_this_course_stops 5 v_course_stops, ia g a_this_course_touchers 5 v_course_touchers, ob a_this_hall 6 [.ref a_this_hall_seats, .int v_hall_size, .int v_hall_fall], ra g a_this_hall_seats 5 (fun i => some (sa i)), ob a_this_rests 10 [.ref a_this_rests_getters, .ref a_this_rests_gains, .ref a_this_rests_weights, .ref a_this_rests_choices, .ref a_this_rests_firstChoices, .int v_rests_size, .int v_rests_breaths, .int v_rests_howMany], ia g a_this_rests_choices 5 v_rests_choices, ia g a_this_rests_firstChoices 5 v_rests_firstChoices, ia g a_this_rests_gains 1024 v_rests_gains, ia g a_this_rests_getters 1024 v_rests_getters, ia g a_this_rests_weights 5 v_rests_weights] ++ swl sa b_K b_su b_wi b_wd b_ch b_tc)) F hK hw fb_X11 0 rfl rfl 7 (by decide) fl_X11_155 (fun _ h => h) rfl rfl rfl rfl (Nat.le_of_ble_eq_true rfl) rfl dX11_rests_61 (fun H locs hw => ?_)
            have hP := hw.1
            refine lv_aload_n hx hb dX11_rests_64 rfl (lv_at hl 0 rfl) ?_
            refine w_get (ci := 11) F hK hP fb_X11 0 rfl rfl 5 (by decide) fl_X11_45 (fun _ h => h) rfl dX11_rests_65 ?_
            refine lv_aload_n hx hb dX11_rests_68 rfl (lv_at hl 0 rfl) ?_
            refine w_get (ci := 11) F hK hP fb_X11 0 rfl rfl 2 (by decide) fl_X11_19 (fun _ h => h) rfl dX11_rests_69 ?_
            refine lv_iload_n hx hb dX11_rests_72 rfl (lv_at hl 1 rfl) ?_
            obtain ⟨q7, hq7, hf⟩ := o_bind hf
            refine k_dV (wr := [ob a_this 11 [.ref a_this_page, .ref a_this_hall, .ref a_this_course, .ref a_this_heard, .ref a_this_image, .ref a_this_rests, .int v_hallsRead, .int z6]]) (ws' := ([ob a_this 11 [.ref a_this_page, .ref a_this_hall, .ref a_this_course, .ref a_this_heard, .ref a_this_image, .ref a_this_rests, .int v_hallsRead, .int z6], ob a_this_course 7 [.ref a_this_hall, .ref a_this_course_ends, .ref a_this_course_touchers, .ref a_this_course_stops, .ref a_this_course_silences, .int q7.2.2.2.2.2.2.2.1], ia g a_this_course_ends 5 q7.2.2.2.2.2.2.1, ia g a_this_course_silences 5 q7.2.2.2.2.2.2.2.2.1, ia g a_this_course_stops 5 q7.2.2.2.2.2.2.2.2.2.1, ia g a_this_course_touchers 5 q7.2.2.2.2.2.2.2.2.2.2.1, ob a_this_hall 6 [.ref a_this_hall_seats, .int v_hall_size, .int v_hall_fall], ra g a_this_hall_seats 5 (fun i => some (sa i)), ob a_this_rests 10 [.ref a_this_rests_getters, .ref a_this_rests_gains, .ref a_this_rests_weights, .ref a_this_rests_choices, .ref a_this_rests_firstChoices, .int q7.2.2.2.2.2.2.2.2.2.2.2.1, .int q7.1, .int q7.2.2.2.2.2.1], ia g a_this_rests_choices 5 q7.2.1, ia g a_this_rests_firstChoices 5 q7.2.2.1, ia g a_this_rests_gains 1024 q7.2.2.2.1, ia g a_this_rests_getters 1024 q7.2.2.2.2.1, ia g a_this_rests_weights 5 q7.2.2.2.2.2.2.2.2.2.2.2.2] ++ swl sa b_K b_su b_wi b_wd b_ch b_tc)) F (c_X8_find l g a_this_rests a_this_course a_this_hall a_this_course_ends a_this_course_touchers a_this_course_stops a_this_course_silences a_this_hall_seats a_this_rests_getters a_this_rests_gains a_this_rests_weights a_this_rests_choices a_this_rests_firstChoices sa x1 v_course_getter v_course_ends v_hall_size v_hall_fall v_course_silences v_course_stops v_course_touchers v_rests_size v_rests_breaths v_rests_howMany v_rests_choices v_rests_firstChoices v_rests_gains v_rests_getters v_rests_weights b_K b_su b_wi b_wd b_ch b_tc hK5 hq7) qv_X8_find ml_X11_158 hw hA hK [1, 2, 6, 7, 3, 4, 5, 8, 9, 10, 11, 12, 13, 14, 15, 16, 17, 18] [0] [0, 1, 2, 5, 6, 7, 3, 4, 8, 9, 10, 11, 12, 13, 14, 15, 16, 17, 18] rfl rfl rfl rfl rfl (by decide) rfl rfl rfl (va_recv hK.1 hP (ci := 10) (q0 := 8) rfl rfl) rfl hl.1 rfl (Nat.le_of_ble_eq_true rfl) dX11_rests_73 ⟨(Nat.le_of_ble_eq_true rfl), (Nat.le_of_ble_eq_true rfl)⟩ ⟨(Nat.le_of_ble_eq_true rfl), (Nat.le_of_ble_eq_true rfl)⟩ (fun H locs hw => ?_)
            have hP := hw.1
            refine W.eq (g2 := F0 m 76 ls ([])) rfl ?_
            refine lv_iload_n hx hb dX11_rests_76 rfl (lv_at hl 2 rfl) ?_
            refine lv_if_ne (tgt := 90) hx hb dX11_rests_77 (by decide) (fun h => absurd h3 h) (fun _ => ?_)
            refine lv_aload_n hx hb dX11_rests_80 rfl (lv_at hl 0 rfl) ?_
            refine w_get (ci := 11) F hK hP fb_X11 0 rfl rfl 5 (by decide) fl_X11_45 (fun _ h => h) rfl dX11_rests_81 ?_
            refine w_get (ci := 10) F hK hP fb_X8 8 rfl rfl 7 (by decide) fl_X11_162 (fun _ h => h) rfl dX11_rests_84 ?_
            refine lv_goto (tgt := 101) hx hb dX11_rests_87 (by decide) ?_
            cases hf
            exact r_ci F hQ ⟨rfl, rfl⟩ hw dX11_rests_101
          · have hf := o_f h5 hf
            refine lv_bipush (v := (-103)) hx hb dX11_rests_51 (by decide) ?_
            cases hf
            exact r_ci F hQ ⟨rfl, rfl⟩ hw dX11_rests_53
      · have hf := o_f h3 hf
        refine lv_iload_n hx hb dX11_rests_17 rfl (lv_at hl 2 rfl) ?_
        refine lv_bipush (v := 10) hx hb dX11_rests_18 (by decide) ?_
        refine lv_icmp_lt (tgt := 29) hx hb dX11_rests_20 (by decide) (fun h9 => ?_) (fun h9 => ?_)
        · have hf := o_t h9 hf
          refine lv_bipush (v := (-102)) hx hb dX11_rests_29 (by decide) ?_
          cases hf
          exact r_ci F hQ ⟨rfl, rfl⟩ hw dX11_rests_31
        · have hf := o_f h9 hf
          refine lv_iload_n hx hb dX11_rests_23 rfl (lv_at hl 2 rfl) ?_
          refine lv_bipush (v := 14) hx hb dX11_rests_24 (by decide) ?_
          refine lv_icmp_le (tgt := 32) hx hb dX11_rests_26 (by decide) (fun h10 => ?_) (fun h10 => ?_)
          · have hf := o_t h10 hf
            refine lv_aload_n hx hb dX11_rests_32 rfl (lv_at hl 0 rfl) ?_
            refine w_get (ci := 11) F hK hP fb_X11 0 rfl rfl 1 (by decide) fl_X11_27 (fun _ h => h) rfl dX11_rests_33 ?_
            refine w_get (ci := 6) F hK hP fb_X4 6 rfl rfl 1 (by decide) fl_X11_78 (fun _ h => h) rfl dX11_rests_36 ?_
            refine lv_if_eq (tgt := 51) hx hb dX11_rests_39 (by decide) (fun h11 => ?_) (fun h11 => ?_)
            · have hf := o_t h11 hf
              refine lv_bipush (v := (-103)) hx hb dX11_rests_51 (by decide) ?_
              cases hf
              exact r_ci F hQ ⟨rfl, rfl⟩ hw dX11_rests_53
            · have hf := o_f h11 hf
              refine lv_aload_n hx hb dX11_rests_42 rfl (lv_at hl 0 rfl) ?_
              refine w_get (ci := 11) F hK hP fb_X11 0 rfl rfl 7 (by decide) fl_X11_155 (fun _ h => h) rfl dX11_rests_43 ?_
              refine lv_bipush (v := 20) hx hb dX11_rests_46 (by decide) ?_
              refine lv_icmp_lt (tgt := 54) hx hb dX11_rests_48 (by decide) (fun h12 => ?_) (fun h12 => ?_)
              · have hf := o_t h12 hf
                refine lv_aload_n hx hb dX11_rests_54 rfl (lv_at hl 0 rfl) ?_
                refine lv_dup hx hb dX11_rests_55 rfl ?_
                refine w_get (ci := 11) F hK hP fb_X11 0 rfl rfl 7 (by decide) fl_X11_155 (fun _ h => h) rfl dX11_rests_56 ?_
                refine lv_iconst (v := 1) hx hb dX11_rests_59 (by decide) ?_
                refine lv_iadd hx hb dX11_rests_60 ?_
                refine lv_topi (fun z13 ez13 => ?_)
                have hf := o_bnd ez13 hf
                refine w_put (ci := 11) (ws' := ([ob a_this 11 [.ref a_this_page, .ref a_this_hall, .ref a_this_course, .ref a_this_heard, .ref a_this_image, .ref a_this_rests, .int v_hallsRead, .int z13], ob a_this_course 7 [.ref a_this_hall, .ref a_this_course_ends, .ref a_this_course_touchers, .ref a_this_course_stops, .ref a_this_course_silences, .int v_course_getter], ia g a_this_course_ends 5 v_course_ends, ia g a_this_course_silences 5 v_course_silences, ia g a_this_course_stops 5 v_course_stops, ia g a_this_course_touchers 5 v_course_touchers, ob a_this_hall 6 [.ref a_this_hall_seats, .int v_hall_size, .int v_hall_fall], ra g a_this_hall_seats 5 (fun i => some (sa i)), ob a_this_rests 10 [.ref a_this_rests_getters, .ref a_this_rests_gains, .ref a_this_rests_weights, .ref a_this_rests_choices, .ref a_this_rests_firstChoices, .int v_rests_size, .int v_rests_breaths, .int v_rests_howMany], ia g a_this_rests_choices 5 v_rests_choices, ia g a_this_rests_firstChoices 5 v_rests_firstChoices, ia g a_this_rests_gains 1024 v_rests_gains, ia g a_this_rests_getters 1024 v_rests_getters, ia g a_this_rests_weights 5 v_rests_weights] ++ swl sa b_K b_su b_wi b_wd b_ch b_tc)) F hK hw fb_X11 0 rfl rfl 7 (by decide) fl_X11_155 (fun _ h => h) rfl rfl rfl rfl (Nat.le_of_ble_eq_true rfl) rfl dX11_rests_61 (fun H locs hw => ?_)
                have hP := hw.1
                refine lv_aload_n hx hb dX11_rests_64 rfl (lv_at hl 0 rfl) ?_
                refine w_get (ci := 11) F hK hP fb_X11 0 rfl rfl 5 (by decide) fl_X11_45 (fun _ h => h) rfl dX11_rests_65 ?_
                refine lv_aload_n hx hb dX11_rests_68 rfl (lv_at hl 0 rfl) ?_
                refine w_get (ci := 11) F hK hP fb_X11 0 rfl rfl 2 (by decide) fl_X11_19 (fun _ h => h) rfl dX11_rests_69 ?_
                refine lv_iload_n hx hb dX11_rests_72 rfl (lv_at hl 1 rfl) ?_
                obtain ⟨q14, hq14, hf⟩ := o_bind hf
                refine k_dV (wr := [ob a_this 11 [.ref a_this_page, .ref a_this_hall, .ref a_this_course, .ref a_this_heard, .ref a_this_image, .ref a_this_rests, .int v_hallsRead, .int z13]]) (ws' := ([ob a_this 11 [.ref a_this_page, .ref a_this_hall, .ref a_this_course, .ref a_this_heard, .ref a_this_image, .ref a_this_rests, .int v_hallsRead, .int z13], ob a_this_course 7 [.ref a_this_hall, .ref a_this_course_ends, .ref a_this_course_touchers, .ref a_this_course_stops, .ref a_this_course_silences, .int q14.2.2.2.2.2.2.2.1], ia g a_this_course_ends 5 q14.2.2.2.2.2.2.1, ia g a_this_course_silences 5 q14.2.2.2.2.2.2.2.2.1, ia g a_this_course_stops 5 q14.2.2.2.2.2.2.2.2.2.1, ia g a_this_course_touchers 5 q14.2.2.2.2.2.2.2.2.2.2.1, ob a_this_hall 6 [.ref a_this_hall_seats, .int v_hall_size, .int v_hall_fall], ra g a_this_hall_seats 5 (fun i => some (sa i)), ob a_this_rests 10 [.ref a_this_rests_getters, .ref a_this_rests_gains, .ref a_this_rests_weights, .ref a_this_rests_choices, .ref a_this_rests_firstChoices, .int q14.2.2.2.2.2.2.2.2.2.2.2.1, .int q14.1, .int q14.2.2.2.2.2.1], ia g a_this_rests_choices 5 q14.2.1, ia g a_this_rests_firstChoices 5 q14.2.2.1, ia g a_this_rests_gains 1024 q14.2.2.2.1, ia g a_this_rests_getters 1024 q14.2.2.2.2.1, ia g a_this_rests_weights 5 q14.2.2.2.2.2.2.2.2.2.2.2.2] ++ swl sa b_K b_su b_wi b_wd b_ch b_tc)) F (c_X8_find l g a_this_rests a_this_course a_this_hall a_this_course_ends a_this_course_touchers a_this_course_stops a_this_course_silences a_this_hall_seats a_this_rests_getters a_this_rests_gains a_this_rests_weights a_this_rests_choices a_this_rests_firstChoices sa x1 v_course_getter v_course_ends v_hall_size v_hall_fall v_course_silences v_course_stops v_course_touchers v_rests_size v_rests_breaths v_rests_howMany v_rests_choices v_rests_firstChoices v_rests_gains v_rests_getters v_rests_weights b_K b_su b_wi b_wd b_ch b_tc hK5 hq14) qv_X8_find ml_X11_158 hw hA hK [1, 2, 6, 7, 3, 4, 5, 8, 9, 10, 11, 12, 13, 14, 15, 16, 17, 18] [0] [0, 1, 2, 5, 6, 7, 3, 4, 8, 9, 10, 11, 12, 13, 14, 15, 16, 17, 18] rfl rfl rfl rfl rfl (by decide) rfl rfl rfl (va_recv hK.1 hP (ci := 10) (q0 := 8) rfl rfl) rfl hl.1 rfl (Nat.le_of_ble_eq_true rfl) dX11_rests_73 ⟨(Nat.le_of_ble_eq_true rfl), (Nat.le_of_ble_eq_true rfl)⟩ ⟨(Nat.le_of_ble_eq_true rfl), (Nat.le_of_ble_eq_true rfl)⟩ (fun H locs hw => ?_)
                have hP := hw.1
                refine W.eq (g2 := F0 m 76 ls ([])) rfl ?_
                refine lv_iload_n hx hb dX11_rests_76 rfl (lv_at hl 2 rfl) ?_
                refine lv_if_ne (tgt := 90) hx hb dX11_rests_77 (by decide) (fun _ => ?_) (fun h => absurd h h3)
                refine lv_aload_n hx hb dX11_rests_90 rfl (lv_at hl 0 rfl) ?_
                refine w_get (ci := 11) F hK hP fb_X11 0 rfl rfl 5 (by decide) fl_X11_45 (fun _ h => h) rfl dX11_rests_91 ?_
                refine lv_iload_n hx hb dX11_rests_94 rfl (lv_at hl 2 rfl) ?_
                refine lv_bipush (v := 10) hx hb dX11_rests_95 (by decide) ?_
                refine lv_isub hx hb dX11_rests_97 ?_
                obtain ⟨q16, hq16, hf⟩ := o_bind hf
                refine k_rV F (c_X8_choiceInFirst l g a_this_rests a_this_rests_getters a_this_rests_gains a_this_rests_weights a_this_rests_choices a_this_rests_firstChoices (x2 - 10) q14.2.2.2.2.2.2.2.2.2.2.2.1 q14.1 q14.2.2.2.2.2.1 q14.2.2.1 hq16) qv_X8_choiceInFirst ml_X11_165 (hP.sub [8, 10] rfl) hK (va_recv hK.1 hP (ci := 10) (q0 := 8) rfl rfl) rfl hl.1 rfl (Nat.le_of_ble_eq_true rfl) dX11_rests_98 ⟨(Nat.le_of_ble_eq_true rfl), (Nat.le_of_ble_eq_true rfl)⟩ ⟨(Nat.le_of_ble_eq_true rfl), (Nat.le_of_ble_eq_true rfl)⟩ ?_
                refine W.eq (g2 := F0 m 101 ls (.int q16 :: [])) rfl ?_
                cases hf
                exact r_ci F hQ ⟨rfl, rfl⟩ hw dX11_rests_101
              · have hf := o_f h12 hf
                refine lv_bipush (v := (-103)) hx hb dX11_rests_51 (by decide) ?_
                cases hf
                exact r_ci F hQ ⟨rfl, rfl⟩ hw dX11_rests_53
          · have hf := o_f h10 hf
            refine lv_bipush (v := (-102)) hx hb dX11_rests_29 (by decide) ?_
            cases hf
            exact r_ci F hQ ⟨rfl, rfl⟩ hw dX11_rests_31
    · have hf := o_f h2 hf
      refine lv_bipush (v := (-102)) hx hb dX11_rests_10 (by decide) ?_
      cases hf
      exact r_ci F hQ ⟨rfl, rfl⟩ hw dX11_rests_12
def f_X11_hear (x1 : Int32) (x2 : Int32) (v_hall_size : Int32) (v_heard_bidders : Nat → Int32) (v_heard_breaths : Nat → Int32) (v_heard_size : Int32) : Option (Int32 × (Nat → Int32) × (Nat → Int32) × Int32) := ((f_X4_has x1 v_hall_size).bind fun q1 => (if q1 = 0 then (some ((-101), v_heard_bidders, v_heard_breaths, v_heard_size)) else (if x2 < 1 then (some ((-102), v_heard_bidders, v_heard_breaths, v_heard_size)) else (if x2 ≤ 40 then ((f_X5_isFull v_heard_size).bind fun q5 => (if q5 = 0 then ((f_X5_add x1 x2 v_heard_bidders v_heard_breaths v_heard_size).bind fun q7 => (some (q7.2.2, q7.1, q7.2.1, q7.2.2))) else (some ((-104), v_heard_bidders, v_heard_breaths, v_heard_size)))) else (some ((-102), v_heard_bidders, v_heard_breaths, v_heard_size))))))
set_option maxRecDepth 100000 in
set_option maxHeartbeats 4000000 in
theorem c_X11_hear (l : Launch) (g : GG) (a_this : Nat) (a_this_page : Nat) (a_this_hall : Nat) (a_this_course : Nat) (a_this_heard : Nat) (a_this_image : Nat) (a_this_rests : Nat) (a_this_hall_seats : Nat) (a_this_heard_bidders : Nat) (a_this_heard_breaths : Nat) (x1 : Int32) (x2 : Int32) (v_hallsRead : Int32) (v_restsDone : Int32) (v_hall_size : Int32) (v_hall_fall : Int32) (v_heard_size : Int32) (v_heard_bidders : Nat → Int32) (v_heard_breaths : Nat → Int32) {r0 : Int32} {r1 : Nat → Int32} {r2 : Nat → Int32} {r3 : Int32} (hf : f_X11_hear x1 x2 v_hall_size v_heard_bidders v_heard_breaths v_heard_size = some (r0, r1, r2, r3)) : MD l g yX11_hear cX11_hear 3 (some .int) 1 22 [.ref a_this, .int x1, .int x2] [ob a_this 11 [.ref a_this_page, .ref a_this_hall, .ref a_this_course, .ref a_this_heard, .ref a_this_image, .ref a_this_rests, .int v_hallsRead, .int v_restsDone], ob a_this_hall 6 [.ref a_this_hall_seats, .int v_hall_size, .int v_hall_fall], ob a_this_heard 8 [.ref a_this_heard_bidders, .ref a_this_heard_breaths, .int v_heard_size], ia g a_this_heard_bidders 8 v_heard_bidders, ia g a_this_heard_breaths 8 v_heard_breaths] (some (.int r0)) [ob a_this 11 [.ref a_this_page, .ref a_this_hall, .ref a_this_course, .ref a_this_heard, .ref a_this_image, .ref a_this_rests, .int v_hallsRead, .int v_restsDone], ob a_this_hall 6 [.ref a_this_hall_seats, .int v_hall_size, .int v_hall_fall], ob a_this_heard 8 [.ref a_this_heard_bidders, .ref a_this_heard_breaths, .int r3], ia g a_this_heard_bidders 8 r1, ia g a_this_heard_breaths 8 r2] := by
  refine MC.mk (by decide) (Nat.le_of_ble_eq_true rfl) ?_
  intro p e s m args below meth c ls Q A F hnm hK hw hA hl hQ
  have hP := hw.1
  have hx := F.1
  have hb := F.2.1
  have hml := F.2.2.2.1
  have hown := F.2.2.2.2.1
  have hts := F.2.2.2.2.2.1
  have hl : lv_has ls 3 [(0, .ref a_this), (1, .int x1), (2, .int x2)] := hl
  unfold f_X11_hear at hf
  refine lv_aload_n hx hb dX11_hear_0 rfl (lv_at hl 0 rfl) ?_
  refine w_get (ci := 11) F hK hP fb_X11 0 rfl rfl 1 (by decide) fl_X11_27 (fun _ h => h) rfl dX11_hear_1 ?_
  refine lv_iload_n hx hb dX11_hear_4 rfl (lv_at hl 1 rfl) ?_
  obtain ⟨q1, hq1, hf⟩ := o_bind hf
  refine k_rV F (c_X4_has l g a_this_hall a_this_hall_seats x1 v_hall_size v_hall_fall hq1) qv_X4_has ml_X11_81 (hP.sub [1] rfl) hK (va_recv hK.1 hP (ci := 6) (q0 := 1) rfl rfl) rfl hl.1 rfl (Nat.le_of_ble_eq_true rfl) dX11_hear_5 ⟨(Nat.le_of_ble_eq_true rfl), (Nat.le_of_ble_eq_true rfl)⟩ ⟨(Nat.le_of_ble_eq_true rfl), (Nat.le_of_ble_eq_true rfl)⟩ ?_
  refine W.eq (g2 := F0 m 8 ls (.int q1 :: [])) rfl ?_
  refine lv_if_ne (tgt := 14) hx hb dX11_hear_8 (by decide) (fun h2 => ?_) (fun h2 => ?_)
  · have hf := o_f h2 hf
    refine lv_iload_n hx hb dX11_hear_14 rfl (lv_at hl 2 rfl) ?_
    refine lv_iconst (v := 1) hx hb dX11_hear_15 (by decide) ?_
    refine lv_icmp_lt (tgt := 25) hx hb dX11_hear_16 (by decide) (fun h3 => ?_) (fun h3 => ?_)
    · have hf := o_t h3 hf
      refine lv_bipush (v := (-102)) hx hb dX11_hear_25 (by decide) ?_
      cases hf
      exact r_ci F hQ ⟨rfl, rfl⟩ hw dX11_hear_27
    · have hf := o_f h3 hf
      refine lv_iload_n hx hb dX11_hear_19 rfl (lv_at hl 2 rfl) ?_
      refine lv_bipush (v := 40) hx hb dX11_hear_20 (by decide) ?_
      refine lv_icmp_le (tgt := 28) hx hb dX11_hear_22 (by decide) (fun h4 => ?_) (fun h4 => ?_)
      · have hf := o_t h4 hf
        refine lv_aload_n hx hb dX11_hear_28 rfl (lv_at hl 0 rfl) ?_
        refine w_get (ci := 11) F hK hP fb_X11 0 rfl rfl 3 (by decide) fl_X11_31 (fun _ h => h) rfl dX11_hear_29 ?_
        obtain ⟨q5, hq5, hf⟩ := o_bind hf
        refine k_rV F (c_X5_isFull l g a_this_heard a_this_heard_bidders a_this_heard_breaths v_heard_size hq5) qv_X5_isFull ml_X11_168 (hP.sub [2] rfl) hK (va_recv hK.1 hP (ci := 8) (q0 := 2) rfl rfl) rfl hl.1 rfl (Nat.le_of_ble_eq_true rfl) dX11_hear_32 ⟨(Nat.le_of_ble_eq_true rfl), (Nat.le_of_ble_eq_true rfl)⟩ ⟨(Nat.le_of_ble_eq_true rfl), (Nat.le_of_ble_eq_true rfl)⟩ ?_
        refine W.eq (g2 := F0 m 35 ls (.int q5 :: [])) rfl ?_
        refine lv_if_eq (tgt := 41) hx hb dX11_hear_35 (by decide) (fun h6 => ?_) (fun h6 => ?_)
        · have hf := o_t h6 hf
          refine lv_aload_n hx hb dX11_hear_41 rfl (lv_at hl 0 rfl) ?_
          refine w_get (ci := 11) F hK hP fb_X11 0 rfl rfl 3 (by decide) fl_X11_31 (fun _ h => h) rfl dX11_hear_42 ?_
          refine lv_iload_n hx hb dX11_hear_45 rfl (lv_at hl 1 rfl) ?_
          refine lv_iload_n hx hb dX11_hear_46 rfl (lv_at hl 2 rfl) ?_
          obtain ⟨q7, hq7, hf⟩ := o_bind hf
          refine k_dV (wr := [ob a_this 11 [.ref a_this_page, .ref a_this_hall, .ref a_this_course, .ref a_this_heard, .ref a_this_image, .ref a_this_rests, .int v_hallsRead, .int v_restsDone], ob a_this_hall 6 [.ref a_this_hall_seats, .int v_hall_size, .int v_hall_fall]]) (ws' := [ob a_this 11 [.ref a_this_page, .ref a_this_hall, .ref a_this_course, .ref a_this_heard, .ref a_this_image, .ref a_this_rests, .int v_hallsRead, .int v_restsDone], ob a_this_hall 6 [.ref a_this_hall_seats, .int v_hall_size, .int v_hall_fall], ob a_this_heard 8 [.ref a_this_heard_bidders, .ref a_this_heard_breaths, .int q7.2.2], ia g a_this_heard_bidders 8 q7.1, ia g a_this_heard_breaths 8 q7.2.1]) F (c_X5_add l g a_this_heard a_this_heard_bidders a_this_heard_breaths x1 x2 v_heard_size v_heard_bidders v_heard_breaths hq7) qv_X5_add ml_X11_169 hw hA hK [2, 3, 4] [0, 1] [0, 1, 2, 3, 4] rfl rfl rfl rfl rfl (by decide) rfl rfl rfl (va_recv hK.1 hP (ci := 8) (q0 := 2) rfl rfl) rfl hl.1 rfl (Nat.le_of_ble_eq_true rfl) dX11_hear_47 ⟨(Nat.le_of_ble_eq_true rfl), (Nat.le_of_ble_eq_true rfl)⟩ ⟨(Nat.le_of_ble_eq_true rfl), (Nat.le_of_ble_eq_true rfl)⟩ (fun H locs hw => ?_)
          have hP := hw.1
          refine W.eq (g2 := F0 m 50 ls ([])) rfl ?_
          refine lv_aload_n hx hb dX11_hear_50 rfl (lv_at hl 0 rfl) ?_
          refine w_get (ci := 11) F hK hP fb_X11 0 rfl rfl 3 (by decide) fl_X11_31 (fun _ h => h) rfl dX11_hear_51 ?_
          refine w_get (ci := 8) F hK hP fb_X5 2 rfl rfl 2 (by decide) fl_X11_72 (fun _ h => h) rfl dX11_hear_54 ?_
          cases hf
          exact r_ci F hQ ⟨rfl, rfl⟩ hw dX11_hear_57
        · have hf := o_f h6 hf
          refine lv_bipush (v := (-104)) hx hb dX11_hear_38 (by decide) ?_
          cases hf
          exact r_ci F hQ ⟨rfl, rfl⟩ hw dX11_hear_40
      · have hf := o_f h4 hf
        refine lv_bipush (v := (-102)) hx hb dX11_hear_25 (by decide) ?_
        cases hf
        exact r_ci F hQ ⟨rfl, rfl⟩ hw dX11_hear_27
  · have hf := o_t h2 hf
    refine lv_bipush (v := (-101)) hx hb dX11_hear_11 (by decide) ?_
    cases hf
    exact r_ci F hQ ⟨rfl, rfl⟩ hw dX11_hear_13
def f_X11_forget (v_heard_size : Int32) : Option (Int32 × Int32) := (some (v_heard_size, 0))
set_option maxRecDepth 100000 in
set_option maxHeartbeats 4000000 in
theorem c_X11_forget (l : Launch) (g : GG) (a_this : Nat) (a_this_page : Nat) (a_this_hall : Nat) (a_this_course : Nat) (a_this_heard : Nat) (a_this_image : Nat) (a_this_rests : Nat) (a_this_heard_bidders : Nat) (a_this_heard_breaths : Nat) (v_hallsRead : Int32) (v_restsDone : Int32) (v_heard_size : Int32) {r0 : Int32} {r1 : Int32} (hf : f_X11_forget v_heard_size = some (r0, r1)) : MD l g yX11_forget cX11_forget 2 (some .int) 0 0 [.ref a_this] [ob a_this 11 [.ref a_this_page, .ref a_this_hall, .ref a_this_course, .ref a_this_heard, .ref a_this_image, .ref a_this_rests, .int v_hallsRead, .int v_restsDone], ob a_this_heard 8 [.ref a_this_heard_bidders, .ref a_this_heard_breaths, .int v_heard_size]] (some (.int r0)) [ob a_this 11 [.ref a_this_page, .ref a_this_hall, .ref a_this_course, .ref a_this_heard, .ref a_this_image, .ref a_this_rests, .int v_hallsRead, .int v_restsDone], ob a_this_heard 8 [.ref a_this_heard_bidders, .ref a_this_heard_breaths, .int r1]] := by
  refine MC.mk (by decide) (Nat.le_of_ble_eq_true rfl) ?_
  intro p e s m args below meth c ls Q A F hnm hK hw hA hl hQ
  have hP := hw.1
  have hx := F.1
  have hb := F.2.1
  have hml := F.2.2.2.1
  have hown := F.2.2.2.2.1
  have hts := F.2.2.2.2.2.1
  have hl : lv_has ls 2 [(0, .ref a_this)] := hl
  unfold f_X11_forget at hf
  refine lv_aload_n hx hb dX11_forget_0 rfl (lv_at hl 0 rfl) ?_
  refine w_get (ci := 11) F hK hP fb_X11 0 rfl rfl 3 (by decide) fl_X11_31 (fun _ h => h) rfl dX11_forget_1 ?_
  refine w_get (ci := 8) F hK hP fb_X5 1 rfl rfl 2 (by decide) fl_X11_72 (fun _ h => h) rfl dX11_forget_4 ?_
  refine lv_istore_n (lv' := [(1, .int v_heard_size), (0, .ref a_this)]) hx hb dX11_forget_7 rfl hl (by decide) rfl (fun ls hl => ?_)
  refine lv_aload_n hx hb dX11_forget_8 rfl (lv_at hl 1 rfl) ?_
  refine w_get (ci := 11) F hK hP fb_X11 0 rfl rfl 3 (by decide) fl_X11_31 (fun _ h => h) rfl dX11_forget_9 ?_
  refine lv_iconst (v := 0) hx hb dX11_forget_12 (by decide) ?_
  refine w_put (ci := 8) (ws' := [ob a_this 11 [.ref a_this_page, .ref a_this_hall, .ref a_this_course, .ref a_this_heard, .ref a_this_image, .ref a_this_rests, .int v_hallsRead, .int v_restsDone], ob a_this_heard 8 [.ref a_this_heard_bidders, .ref a_this_heard_breaths, .int 0]]) F hK hw fb_X5 1 rfl rfl 2 (by decide) fl_X11_72 (fun _ h => h) rfl rfl rfl rfl (Nat.le_of_ble_eq_true rfl) rfl dX11_forget_13 (fun H locs hw => ?_)
  have hP := hw.1
  refine lv_iload_n hx hb dX11_forget_16 rfl (lv_at hl 0 rfl) ?_
  cases hf
  exact r_ci F hQ ⟨rfl, rfl⟩ hw dX11_forget_17
def f_X11_winds_25 (fuel : Nat) (x1 : Int32) (b_K : Nat → Nat) (b_ch : Nat → Int32) (b_tc : Nat → Int32) (b_wd : Nat → Int32) (v_hall_size : Int32) (v_heard_bidders : Nat → Int32) (v_heard_breaths : Nat → Int32) (v_heard_size : Int32) (y3 : Int32) (y2 : Int32) (w_v_course_ends : Nat → Int32) (w_v_course_getter : Int32) (w_v_course_silences : Nat → Int32) (w_v_course_stops : Nat → Int32) (w_v_course_touchers : Nat → Int32) : Option (Int32 × Int32 × (Nat → Int32) × Int32 × (Nat → Int32) × (Nat → Int32) × (Nat → Int32)) := match fuel with
  | 0 => none
  | k + 1 => (if 9 < y3 then (some (y3, y2, w_v_course_ends, w_v_course_getter, w_v_course_silences, w_v_course_stops, w_v_course_touchers)) else ((f_X2_supposeWind x1 y3 b_K b_ch w_v_course_ends).bind fun q5 => ((f_X2_run b_K q5 w_v_course_getter v_hall_size w_v_course_silences w_v_course_stops w_v_course_touchers).bind fun q6 => ((f_X5_agreesOn x1 v_heard_bidders v_heard_breaths q6.2.1 v_heard_size).bind fun q7 => (if q7 = 0 then (bnd (y3 + 1 : Int32) fun z9 => (f_X11_winds_25 k x1 b_K b_ch b_tc b_wd v_hall_size v_heard_bidders v_heard_breaths v_heard_size z9 y2 q5 q6.1 q6.2.1 q6.2.2 w_v_course_touchers)) else (bnd (y2 ||| ((1 : Int32) <<< (y3 &&& 31))) fun z10 => (bnd (y3 + 1 : Int32) fun z11 => (f_X11_winds_25 k x1 b_K b_ch b_tc b_wd v_hall_size v_heard_bidders v_heard_breaths v_heard_size z11 z10 q5 q6.1 q6.2.1 q6.2.2 w_v_course_touchers))))))))
def f_X11_winds (x1 : Int32) (b_K : Nat → Nat) (b_ch : Nat → Int32) (b_tc : Nat → Int32) (b_wd : Nat → Int32) (v_course_ends : Nat → Int32) (v_course_getter : Int32) (v_course_silences : Nat → Int32) (v_course_stops : Nat → Int32) (v_course_touchers : Nat → Int32) (v_hall_size : Int32) (v_heard_bidders : Nat → Int32) (v_heard_breaths : Nat → Int32) (v_heard_size : Int32) : Option (Int32 × (Nat → Int32) × Int32 × (Nat → Int32) × (Nat → Int32) × (Nat → Int32)) := ((f_X4_has x1 v_hall_size).bind fun q1 => (if q1 = 0 then (some ((-101), v_course_ends, v_course_getter, v_course_silences, v_course_stops, v_course_touchers)) else ((f_X2_takeAsItIs b_K b_ch b_tc b_wd v_course_ends v_hall_size v_course_touchers).bind fun q3 => ((f_X11_winds_25 4096 x1 b_K b_ch b_tc b_wd v_hall_size v_heard_bidders v_heard_breaths v_heard_size 1 0 q3.1 v_course_getter v_course_silences v_course_stops q3.2).bind fun q12 => (some (q12.2.1, q12.2.2.1, q12.2.2.2.1, q12.2.2.2.2.1, q12.2.2.2.2.2.1, q12.2.2.2.2.2.2))))))
set_option maxRecDepth 100000 in
set_option maxHeartbeats 4000000 in
theorem c_X11_winds (l : Launch) (g : GG) (a_this : Nat) (a_this_page : Nat) (a_this_hall : Nat) (a_this_course : Nat) (a_this_heard : Nat) (a_this_image : Nat) (a_this_rests : Nat) (a_this_course_ends : Nat) (a_this_course_touchers : Nat) (a_this_course_stops : Nat) (a_this_course_silences : Nat) (a_this_hall_seats : Nat) (a_this_heard_bidders : Nat) (a_this_heard_breaths : Nat) (sa : Nat → Nat) (x1 : Int32) (v_hallsRead : Int32) (v_restsDone : Int32) (v_course_getter : Int32) (v_course_ends : Nat → Int32) (v_course_silences : Nat → Int32) (v_course_stops : Nat → Int32) (v_course_touchers : Nat → Int32) (v_hall_size : Int32) (v_hall_fall : Int32) (v_heard_size : Int32) (v_heard_bidders : Nat → Int32) (v_heard_breaths : Nat → Int32) (b_K : Nat → Nat) (b_su : Nat → Int32) (b_wi : Nat → Int32) (b_wd : Nat → Int32) (b_ch : Nat → Int32) (b_tc : Nat → Int32) (hK5 : ∀ i, b_K i < 5) {r0 : Int32} {r1 : Nat → Int32} {r2 : Int32} {r3 : Nat → Int32} {r4 : Nat → Int32} {r5 : Nat → Int32} (hf : f_X11_winds x1 b_K b_ch b_tc b_wd v_course_ends v_course_getter v_course_silences v_course_stops v_course_touchers v_hall_size v_heard_bidders v_heard_breaths v_heard_size = some (r0, r1, r2, r3, r4, r5)) : MD l g yX11_winds cX11_winds 4 (some .int) 4 89 [.ref a_this, .int x1] ([ob a_this 11 [.ref a_this_page, .ref a_this_hall, .ref a_this_course, .ref a_this_heard, .ref a_this_image, .ref a_this_rests, .int v_hallsRead, .int v_restsDone], ob a_this_course 7 [.ref a_this_hall, .ref a_this_course_ends, .ref a_this_course_touchers, .ref a_this_course_stops, .ref a_this_course_silences, .int v_course_getter], ia g a_this_course_ends 5 v_course_ends, ia g a_this_course_silences 5 v_course_silences, ia g a_this_course_stops 5 v_course_stops, ia g a_this_course_touchers 5 v_course_touchers, ob a_this_hall 6 [.ref a_this_hall_seats, .int v_hall_size, .int v_hall_fall], ra g a_this_hall_seats 5 (fun i => some (sa i)), ob a_this_heard 8 [.ref a_this_heard_bidders, .ref a_this_heard_breaths, .int v_heard_size], ia g a_this_heard_bidders 8 v_heard_bidders, ia g a_this_heard_breaths 8 v_heard_breaths] ++ swl sa b_K b_su b_wi b_wd b_ch b_tc) (some (.int r0)) ([ob a_this 11 [.ref a_this_page, .ref a_this_hall, .ref a_this_course, .ref a_this_heard, .ref a_this_image, .ref a_this_rests, .int v_hallsRead, .int v_restsDone], ob a_this_course 7 [.ref a_this_hall, .ref a_this_course_ends, .ref a_this_course_touchers, .ref a_this_course_stops, .ref a_this_course_silences, .int r2], ia g a_this_course_ends 5 r1, ia g a_this_course_silences 5 r3, ia g a_this_course_stops 5 r4, ia g a_this_course_touchers 5 r5, ob a_this_hall 6 [.ref a_this_hall_seats, .int v_hall_size, .int v_hall_fall], ra g a_this_hall_seats 5 (fun i => some (sa i)), ob a_this_heard 8 [.ref a_this_heard_bidders, .ref a_this_heard_breaths, .int v_heard_size], ia g a_this_heard_bidders 8 v_heard_bidders, ia g a_this_heard_breaths 8 v_heard_breaths] ++ swl sa b_K b_su b_wi b_wd b_ch b_tc) := by
  refine MC.mk (by decide) (Nat.le_of_ble_eq_true rfl) ?_
  intro p e s m args below meth c ls Q A F hnm hK hw hA hl hQ
  have hP := hw.1
  have hx := F.1
  have hb := F.2.1
  have hml := F.2.2.2.1
  have hown := F.2.2.2.2.1
  have hts := F.2.2.2.2.2.1
  have hl : lv_has ls 4 [(0, .ref a_this), (1, .int x1)] := hl
  have L25 : ∀ (k : Nat) (y3 : Int32) (y2 : Int32) (w_v_course_ends : Nat → Int32) (w_v_course_getter : Int32) (w_v_course_silences : Nat → Int32) (w_v_course_stops : Nat → Int32) (w_v_course_touchers : Nat → Int32) (q : Int32 × Int32 × (Nat → Int32) × Int32 × (Nat → Int32) × (Nat → Int32) × (Nat → Int32)), f_X11_winds_25 k x1 b_K b_ch b_tc b_wd v_hall_size v_heard_bidders v_heard_breaths v_heard_size y3 y2 w_v_course_ends w_v_course_getter w_v_course_silences w_v_course_stops w_v_course_touchers = some q → ∀ (H : Heap) (locs : List Loc) (ls : Array Slot), WD g A s.heap ([ob a_this 11 [.ref a_this_page, .ref a_this_hall, .ref a_this_course, .ref a_this_heard, .ref a_this_image, .ref a_this_rests, .int v_hallsRead, .int v_restsDone], ob a_this_course 7 [.ref a_this_hall, .ref a_this_course_ends, .ref a_this_course_touchers, .ref a_this_course_stops, .ref a_this_course_silences, .int w_v_course_getter], ia g a_this_course_ends 5 w_v_course_ends, ia g a_this_course_silences 5 w_v_course_silences, ia g a_this_course_stops 5 w_v_course_stops, ia g a_this_course_touchers 5 w_v_course_touchers, ob a_this_hall 6 [.ref a_this_hall_seats, .int v_hall_size, .int v_hall_fall], ra g a_this_hall_seats 5 (fun i => some (sa i)), ob a_this_heard 8 [.ref a_this_heard_bidders, .ref a_this_heard_breaths, .int v_heard_size], ia g a_this_heard_bidders 8 v_heard_bidders, ia g a_this_heard_breaths 8 v_heard_breaths] ++ swl sa b_K b_su b_wi b_wd b_ch b_tc) H locs → lv_has ls 4 [(3, .int y3), (2, .int y2), (0, .ref a_this), (1, .int x1)] → (∀ (H : Heap) (locs : List Loc) (ls : Array Slot), WD g A s.heap ([ob a_this 11 [.ref a_this_page, .ref a_this_hall, .ref a_this_course, .ref a_this_heard, .ref a_this_image, .ref a_this_rests, .int v_hallsRead, .int v_restsDone], ob a_this_course 7 [.ref a_this_hall, .ref a_this_course_ends, .ref a_this_course_touchers, .ref a_this_course_stops, .ref a_this_course_silences, .int q.2.2.2.1], ia g a_this_course_ends 5 q.2.2.1, ia g a_this_course_silences 5 q.2.2.2.2.1, ia g a_this_course_stops 5 q.2.2.2.2.2.1, ia g a_this_course_touchers 5 q.2.2.2.2.2.2, ob a_this_hall 6 [.ref a_this_hall_seats, .int v_hall_size, .int v_hall_fall], ra g a_this_hall_seats 5 (fun i => some (sa i)), ob a_this_heard 8 [.ref a_this_heard_bidders, .ref a_this_heard_breaths, .int v_heard_size], ia g a_this_heard_bidders 8 v_heard_bidders, ia g a_this_heard_breaths 8 v_heard_breaths] ++ swl sa b_K b_su b_wi b_wd b_ch b_tc) H locs → lv_has ls 4 [(3, .int q.1), (2, .int q.2.1), (0, .ref a_this), (1, .int x1)] → W p l e (rmc 4 0 0 89) s m args below meth c H locs 0 0 Q (F0 m 74 ls [])) → W p l e (rmc 4 0 0 89) s m args below meth c H locs 0 0 Q (F0 m 25 ls []) := by
    intro k
    induction k with
    | zero => intro y3 y2 w_v_course_ends w_v_course_getter w_v_course_silences w_v_course_stops w_v_course_touchers q hf; rw [f_X11_winds_25] at hf; cases hf
    | succ k ih =>
      intro y3 y2 w_v_course_ends w_v_course_getter w_v_course_silences w_v_course_stops w_v_course_touchers q hf H locs ls hw hl kx
      rw [f_X11_winds_25] at hf
      have hP := hw.1
      refine lv_iload_n hx hb dX11_winds_25 rfl (lv_at hl 0 rfl) ?_
      refine lv_bipush (v := 9) hx hb dX11_winds_26 (by decide) ?_
      refine lv_icmp_gt (tgt := 74) hx hb dX11_winds_28 (by decide) (fun h4 => ?_) (fun h4 => ?_)
      · have hf := o_t h4 hf
        cases hf
        exact kx _ _ ls hw (lv_sub hl [0, 1, 2, 3] rfl)
      · have hf := o_f h4 hf
        refine lv_aload_n hx hb dX11_winds_31 rfl (lv_at hl 2 rfl) ?_
        refine w_get (ci := 11) F hK hP fb_X11 0 rfl rfl 2 (by decide) fl_X11_19 (fun _ h => h) rfl dX11_winds_32 ?_
        refine lv_iload_n hx hb dX11_winds_35 rfl (lv_at hl 3 rfl) ?_
        refine lv_iload_n hx hb dX11_winds_36 rfl (lv_at hl 0 rfl) ?_
        obtain ⟨q5, hq5, hf⟩ := o_bind hf
        refine k_dV (wr := [ob a_this 11 [.ref a_this_page, .ref a_this_hall, .ref a_this_course, .ref a_this_heard, .ref a_this_image, .ref a_this_rests, .int v_hallsRead, .int v_restsDone], ia g a_this_course_silences 5 w_v_course_silences, ia g a_this_course_stops 5 w_v_course_stops, ia g a_this_course_touchers 5 w_v_course_touchers, ob a_this_heard 8 [.ref a_this_heard_bidders, .ref a_this_heard_breaths, .int v_heard_size], ia g a_this_heard_bidders 8 v_heard_bidders, ia g a_this_heard_breaths 8 v_heard_breaths]) (ws' := ([ob a_this 11 [.ref a_this_page, .ref a_this_hall, .ref a_this_course, .ref a_this_heard, .ref a_this_image, .ref a_this_rests, .int v_hallsRead, .int v_restsDone], ob a_this_course 7 [.ref a_this_hall, .ref a_this_course_ends, .ref a_this_course_touchers, .ref a_this_course_stops, .ref a_this_course_silences, .int w_v_course_getter], ia g a_this_course_ends 5 q5, ia g a_this_course_silences 5 w_v_course_silences, ia g a_this_course_stops 5 w_v_course_stops, ia g a_this_course_touchers 5 w_v_course_touchers, ob a_this_hall 6 [.ref a_this_hall_seats, .int v_hall_size, .int v_hall_fall], ra g a_this_hall_seats 5 (fun i => some (sa i)), ob a_this_heard 8 [.ref a_this_heard_bidders, .ref a_this_heard_breaths, .int v_heard_size], ia g a_this_heard_bidders 8 v_heard_bidders, ia g a_this_heard_breaths 8 v_heard_breaths] ++ swl sa b_K b_su b_wi b_wd b_ch b_tc)) F (c_X2_supposeWind l g a_this_course a_this_hall a_this_course_ends a_this_course_touchers a_this_course_stops a_this_course_silences a_this_hall_seats sa x1 y3 w_v_course_getter w_v_course_ends v_hall_size v_hall_fall b_K b_su b_wi b_wd b_ch b_tc hK5 hq5) qv_X2_supposeWind ml_X11_172 hw hA hK [1, 2, 6, 7, 11, 12, 13, 14, 15] [0, 3, 4, 5, 8, 9, 10] [0, 7, 8, 1, 2, 3, 9, 10, 4, 5, 6, 11, 12, 13, 14, 15] rfl rfl rfl rfl rfl (by decide) rfl rfl rfl (va_recv hK.1 hP (ci := 7) (q0 := 1) rfl rfl) rfl hl.1 rfl (Nat.le_of_ble_eq_true rfl) dX11_winds_37 ⟨(Nat.le_of_ble_eq_true rfl), (Nat.le_of_ble_eq_true rfl)⟩ ⟨(Nat.le_of_ble_eq_true rfl), (Nat.le_of_ble_eq_true rfl)⟩ (fun H locs hw => ?_)
        have hP := hw.1
        refine W.eq (g2 := F0 m 40 ls ([])) rfl ?_
        refine lv_aload_n hx hb dX11_winds_40 rfl (lv_at hl 2 rfl) ?_
        refine w_get (ci := 11) F hK hP fb_X11 0 rfl rfl 2 (by decide) fl_X11_19 (fun _ h => h) rfl dX11_winds_41 ?_
        obtain ⟨q6, hq6, hf⟩ := o_bind hf
        refine k_dV (wr := [ob a_this 11 [.ref a_this_page, .ref a_this_hall, .ref a_this_course, .ref a_this_heard, .ref a_this_image, .ref a_this_rests, .int v_hallsRead, .int v_restsDone], ob a_this_heard 8 [.ref a_this_heard_bidders, .ref a_this_heard_breaths, .int v_heard_size], ia g a_this_heard_bidders 8 v_heard_bidders, ia g a_this_heard_breaths 8 v_heard_breaths]) (ws' := ([ob a_this 11 [.ref a_this_page, .ref a_this_hall, .ref a_this_course, .ref a_this_heard, .ref a_this_image, .ref a_this_rests, .int v_hallsRead, .int v_restsDone], ob a_this_course 7 [.ref a_this_hall, .ref a_this_course_ends, .ref a_this_course_touchers, .ref a_this_course_stops, .ref a_this_course_silences, .int q6.1], ia g a_this_course_ends 5 q5, ia g a_this_course_silences 5 q6.2.1, ia g a_this_course_stops 5 q6.2.2, ia g a_this_course_touchers 5 w_v_course_touchers, ob a_this_hall 6 [.ref a_this_hall_seats, .int v_hall_size, .int v_hall_fall], ra g a_this_hall_seats 5 (fun i => some (sa i)), ob a_this_heard 8 [.ref a_this_heard_bidders, .ref a_this_heard_breaths, .int v_heard_size], ia g a_this_heard_bidders 8 v_heard_bidders, ia g a_this_heard_breaths 8 v_heard_breaths] ++ swl sa b_K b_su b_wi b_wd b_ch b_tc)) F (c_X2_run l g a_this_course a_this_hall a_this_course_ends a_this_course_touchers a_this_course_stops a_this_course_silences a_this_hall_seats sa w_v_course_getter q5 v_hall_size v_hall_fall w_v_course_silences w_v_course_stops w_v_course_touchers b_K b_su b_wi b_wd b_ch b_tc hK5 hq6) qv_X2_run ml_X11_152 hw hA hK [1, 2, 6, 7, 3, 4, 5, 11, 12, 13, 14, 15] [0, 8, 9, 10] [0, 4, 5, 8, 9, 10, 6, 7, 1, 2, 3, 11, 12, 13, 14, 15] rfl rfl rfl rfl rfl (by decide) rfl rfl rfl (va_recv hK.1 hP (ci := 7) (q0 := 1) rfl rfl) rfl hl.1 rfl (Nat.le_of_ble_eq_true rfl) dX11_winds_44 ⟨(Nat.le_of_ble_eq_true rfl), (Nat.le_of_ble_eq_true rfl)⟩ ⟨(Nat.le_of_ble_eq_true rfl), (Nat.le_of_ble_eq_true rfl)⟩ (fun H locs hw => ?_)
        have hP := hw.1
        refine W.eq (g2 := F0 m 47 ls ([])) rfl ?_
        refine lv_aload_n hx hb dX11_winds_47 rfl (lv_at hl 2 rfl) ?_
        refine w_get (ci := 11) F hK hP fb_X11 0 rfl rfl 3 (by decide) fl_X11_31 (fun _ h => h) rfl dX11_winds_48 ?_
        refine lv_iload_n hx hb dX11_winds_51 rfl (lv_at hl 3 rfl) ?_
        refine lv_aload_n hx hb dX11_winds_52 rfl (lv_at hl 2 rfl) ?_
        refine w_get (ci := 11) F hK hP fb_X11 0 rfl rfl 2 (by decide) fl_X11_19 (fun _ h => h) rfl dX11_winds_53 ?_
        obtain ⟨q7, hq7, hf⟩ := o_bind hf
        refine k_rV F (c_X5_agreesOn l g a_this_heard a_this_course a_this_hall a_this_course_ends a_this_course_touchers a_this_course_stops a_this_course_silences a_this_heard_bidders a_this_heard_breaths x1 q6.1 q6.2.1 v_heard_size v_heard_bidders v_heard_breaths hq7) qv_X5_agreesOn ml_X11_175 (hP.sub [1, 3, 8, 9, 10] rfl) hK (va_recv hK.1 hP (ci := 8) (q0 := 8) rfl rfl) rfl hl.1 rfl (Nat.le_of_ble_eq_true rfl) dX11_winds_56 ⟨(Nat.le_of_ble_eq_true rfl), (Nat.le_of_ble_eq_true rfl)⟩ ⟨(Nat.le_of_ble_eq_true rfl), (Nat.le_of_ble_eq_true rfl)⟩ ?_
        refine W.eq (g2 := F0 m 59 ls (.int q7 :: [])) rfl ?_
        refine lv_if_eq (tgt := 68) hx hb dX11_winds_59 (by decide) (fun h8 => ?_) (fun h8 => ?_)
        · have hf := o_t h8 hf
          obtain ⟨z9, ez9⟩ : ∃ y : Int32, y = y3 + 1 := ⟨_, rfl⟩
          have hf := o_bnd ez9 hf
          refine lv_iinc (v := z9) (lv' := [(3, .int z9), (2, .int y2), (0, .ref a_this), (1, .int x1)]) hx hb dX11_winds_68 hl (k := 0) rfl (by rw [ez9]; rfl) (by decide) rfl (fun ls hl => ?_)
          refine lv_goto (tgt := 25) hx hb dX11_winds_71 (by decide) ?_
          exact ih z9 y2 q5 q6.1 q6.2.1 q6.2.2 w_v_course_touchers _ hf _ _ ls hw (lv_sub hl [0, 1, 2, 3] rfl) kx
        · have hf := o_f h8 hf
          refine lv_iload_n hx hb dX11_winds_62 rfl (lv_at hl 1 rfl) ?_
          refine lv_iconst (v := 1) hx hb dX11_winds_63 (by decide) ?_
          refine lv_iload_n hx hb dX11_winds_64 rfl (lv_at hl 0 rfl) ?_
          refine lv_ishl hx hb dX11_winds_65 ?_
          refine lv_ior hx hb dX11_winds_66 ?_
          refine lv_topi (fun z10 ez10 => ?_)
          have hf := o_bnd ez10 hf
          refine lv_istore_n (lv' := [(2, .int z10), (3, .int y3), (0, .ref a_this), (1, .int x1)]) hx hb dX11_winds_67 rfl hl (by decide) rfl (fun ls hl => ?_)
          obtain ⟨z11, ez11⟩ : ∃ y : Int32, y = y3 + 1 := ⟨_, rfl⟩
          have hf := o_bnd ez11 hf
          refine lv_iinc (v := z11) (lv' := [(3, .int z11), (2, .int z10), (0, .ref a_this), (1, .int x1)]) hx hb dX11_winds_68 hl (k := 1) rfl (by rw [ez11]; rfl) (by decide) rfl (fun ls hl => ?_)
          refine lv_goto (tgt := 25) hx hb dX11_winds_71 (by decide) ?_
          exact ih z11 z10 q5 q6.1 q6.2.1 q6.2.2 w_v_course_touchers _ hf _ _ ls hw (lv_sub hl [0, 1, 2, 3] rfl) kx
  unfold f_X11_winds at hf
  refine lv_aload_n hx hb dX11_winds_0 rfl (lv_at hl 0 rfl) ?_
  refine w_get (ci := 11) F hK hP fb_X11 0 rfl rfl 1 (by decide) fl_X11_27 (fun _ h => h) rfl dX11_winds_1 ?_
  refine lv_iload_n hx hb dX11_winds_4 rfl (lv_at hl 1 rfl) ?_
  obtain ⟨q1, hq1, hf⟩ := o_bind hf
  refine k_rV F (c_X4_has l g a_this_hall a_this_hall_seats x1 v_hall_size v_hall_fall hq1) qv_X4_has ml_X11_81 (hP.sub [6] rfl) hK (va_recv hK.1 hP (ci := 6) (q0 := 6) rfl rfl) rfl hl.1 rfl (Nat.le_of_ble_eq_true rfl) dX11_winds_5 ⟨(Nat.le_of_ble_eq_true rfl), (Nat.le_of_ble_eq_true rfl)⟩ ⟨(Nat.le_of_ble_eq_true rfl), (Nat.le_of_ble_eq_true rfl)⟩ ?_
  refine W.eq (g2 := F0 m 8 ls (.int q1 :: [])) rfl ?_
  refine lv_if_ne (tgt := 14) hx hb dX11_winds_8 (by decide) (fun h2 => ?_) (fun h2 => ?_)
  · have hf := o_f h2 hf
    refine lv_iconst (v := 0) hx hb dX11_winds_14 (by decide) ?_
    refine lv_istore_n (lv' := [(2, .int 0), (0, .ref a_this), (1, .int x1)]) hx hb dX11_winds_15 rfl hl (by decide) rfl (fun ls hl => ?_)
    refine lv_aload_n hx hb dX11_winds_16 rfl (lv_at hl 1 rfl) ?_
    refine w_get (ci := 11) F hK hP fb_X11 0 rfl rfl 2 (by decide) fl_X11_19 (fun _ h => h) rfl dX11_winds_17 ?_
    obtain ⟨q3, hq3, hf⟩ := o_bind hf
    refine k_dV (wr := [ob a_this 11 [.ref a_this_page, .ref a_this_hall, .ref a_this_course, .ref a_this_heard, .ref a_this_image, .ref a_this_rests, .int v_hallsRead, .int v_restsDone], ia g a_this_course_silences 5 v_course_silences, ia g a_this_course_stops 5 v_course_stops, ob a_this_heard 8 [.ref a_this_heard_bidders, .ref a_this_heard_breaths, .int v_heard_size], ia g a_this_heard_bidders 8 v_heard_bidders, ia g a_this_heard_breaths 8 v_heard_breaths]) (ws' := ([ob a_this 11 [.ref a_this_page, .ref a_this_hall, .ref a_this_course, .ref a_this_heard, .ref a_this_image, .ref a_this_rests, .int v_hallsRead, .int v_restsDone], ob a_this_course 7 [.ref a_this_hall, .ref a_this_course_ends, .ref a_this_course_touchers, .ref a_this_course_stops, .ref a_this_course_silences, .int v_course_getter], ia g a_this_course_ends 5 q3.1, ia g a_this_course_silences 5 v_course_silences, ia g a_this_course_stops 5 v_course_stops, ia g a_this_course_touchers 5 q3.2, ob a_this_hall 6 [.ref a_this_hall_seats, .int v_hall_size, .int v_hall_fall], ra g a_this_hall_seats 5 (fun i => some (sa i)), ob a_this_heard 8 [.ref a_this_heard_bidders, .ref a_this_heard_breaths, .int v_heard_size], ia g a_this_heard_bidders 8 v_heard_bidders, ia g a_this_heard_breaths 8 v_heard_breaths] ++ swl sa b_K b_su b_wi b_wd b_ch b_tc)) F (c_X2_takeAsItIs l g a_this_course a_this_hall a_this_course_ends a_this_course_touchers a_this_course_stops a_this_course_silences a_this_hall_seats sa v_course_getter v_course_ends v_hall_size v_hall_fall v_course_touchers b_K b_su b_wi b_wd b_ch b_tc hK5 hq3) qv_X2_takeAsItIs ml_X11_141 hw hA hK [1, 2, 6, 7, 5, 11, 12, 13, 14, 15] [0, 3, 4, 8, 9, 10] [0, 6, 7, 1, 2, 10, 8, 9, 3, 4, 5, 11, 12, 13, 14, 15] rfl rfl rfl rfl rfl (by decide) rfl rfl rfl (va_recv hK.1 hP (ci := 7) (q0 := 1) rfl rfl) rfl hl.1 rfl (Nat.le_of_ble_eq_true rfl) dX11_winds_20 ⟨(Nat.le_of_ble_eq_true rfl), (Nat.le_of_ble_eq_true rfl)⟩ ⟨(Nat.le_of_ble_eq_true rfl), (Nat.le_of_ble_eq_true rfl)⟩ (fun H locs hw => ?_)
    have hP := hw.1
    refine W.eq (g2 := F0 m 23 ls ([])) rfl ?_
    refine lv_iconst (v := 1) hx hb dX11_winds_23 (by decide) ?_
    refine lv_istore_n (lv' := [(3, .int 1), (2, .int 0), (0, .ref a_this), (1, .int x1)]) hx hb dX11_winds_24 rfl hl (by decide) rfl (fun ls hl => ?_)
    obtain ⟨q12, hq12, hf⟩ := o_bind hf
    refine L25 _ 1 0 q3.1 v_course_getter v_course_silences v_course_stops q3.2 _ hq12 _ _ ls hw (lv_sub hl [0, 1, 2, 3] rfl) (fun H locs ls hw hl => ?_)
    have hP := hw.1
    refine lv_iload_n hx hb dX11_winds_74 rfl (lv_at hl 1 rfl) ?_
    cases hf
    exact r_ci F hQ ⟨rfl, rfl⟩ hw dX11_winds_75
  · have hf := o_t h2 hf
    refine lv_bipush (v := (-101)) hx hb dX11_winds_11 (by decide) ?_
    cases hf
    exact r_ci F hQ ⟨rfl, rfl⟩ hw dX11_winds_13
def f_X11_explainsHeard (x1 : Int32) (x2 : Int32) (b_K : Nat → Nat) (b_ch : Nat → Int32) (b_tc : Nat → Int32) (b_wd : Nat → Int32) (v_course_ends : Nat → Int32) (v_course_getter : Int32) (v_course_silences : Nat → Int32) (v_course_stops : Nat → Int32) (v_course_touchers : Nat → Int32) (v_hall_size : Int32) (v_heard_bidders : Nat → Int32) (v_heard_breaths : Nat → Int32) (v_heard_size : Int32) : Option (Int32 × (Nat → Int32) × Int32 × (Nat → Int32) × (Nat → Int32) × (Nat → Int32)) := ((f_X4_has x1 v_hall_size).bind fun q1 => (if q1 = 0 then (some (0, v_course_ends, v_course_getter, v_course_silences, v_course_stops, v_course_touchers)) else ((f_X4_has x2 v_hall_size).bind fun q3 => (if q3 = 0 then (some (0, v_course_ends, v_course_getter, v_course_silences, v_course_stops, v_course_touchers)) else (if x1 = x2 then (some (0, v_course_ends, v_course_getter, v_course_silences, v_course_stops, v_course_touchers)) else ((f_X4_touches x1 x2 b_tc).bind fun q6 => (if q6 = 0 then ((f_X2_takeAsItIs b_K b_ch b_tc b_wd v_course_ends v_hall_size v_course_touchers).bind fun q8 => ((f_X2_supposeTouch x1 x2 q8.2).bind fun q9 => ((f_X2_run b_K q8.1 v_course_getter v_hall_size v_course_silences v_course_stops q9).bind fun q10 => ((f_X5_agrees v_heard_bidders v_heard_breaths q10.2.1 v_heard_size).bind fun q11 => (if ¬ (q11 = 0 ∨ q11 = 1) then none else (some (q11, q8.1, q10.1, q10.2.1, q10.2.2, q9))))))) else (some (0, v_course_ends, v_course_getter, v_course_silences, v_course_stops, v_course_touchers)))))))))
set_option maxRecDepth 100000 in
set_option maxHeartbeats 4000000 in
theorem c_X11_explainsHeard (l : Launch) (g : GG) (a_this : Nat) (a_this_page : Nat) (a_this_hall : Nat) (a_this_course : Nat) (a_this_heard : Nat) (a_this_image : Nat) (a_this_rests : Nat) (a_this_course_ends : Nat) (a_this_course_touchers : Nat) (a_this_course_stops : Nat) (a_this_course_silences : Nat) (a_this_hall_seats : Nat) (a_this_heard_bidders : Nat) (a_this_heard_breaths : Nat) (sa : Nat → Nat) (x1 : Int32) (x2 : Int32) (v_hallsRead : Int32) (v_restsDone : Int32) (v_course_getter : Int32) (v_course_ends : Nat → Int32) (v_course_silences : Nat → Int32) (v_course_stops : Nat → Int32) (v_course_touchers : Nat → Int32) (v_hall_size : Int32) (v_hall_fall : Int32) (v_heard_size : Int32) (v_heard_bidders : Nat → Int32) (v_heard_breaths : Nat → Int32) (b_K : Nat → Nat) (b_su : Nat → Int32) (b_wi : Nat → Int32) (b_wd : Nat → Int32) (b_ch : Nat → Int32) (b_tc : Nat → Int32) (hK5 : ∀ i, b_K i < 5) {r0 : Int32} {r1 : Nat → Int32} {r2 : Int32} {r3 : Nat → Int32} {r4 : Nat → Int32} {r5 : Nat → Int32} (hf : f_X11_explainsHeard x1 x2 b_K b_ch b_tc b_wd v_course_ends v_course_getter v_course_silences v_course_stops v_course_touchers v_hall_size v_heard_bidders v_heard_breaths v_heard_size = some (r0, r1, r2, r3, r4, r5)) : MD l g yX11_explainsHeard cX11_explainsHeard 3 (some .boolean) 4 89 [.ref a_this, .int x1, .int x2] ([ob a_this 11 [.ref a_this_page, .ref a_this_hall, .ref a_this_course, .ref a_this_heard, .ref a_this_image, .ref a_this_rests, .int v_hallsRead, .int v_restsDone], ob a_this_course 7 [.ref a_this_hall, .ref a_this_course_ends, .ref a_this_course_touchers, .ref a_this_course_stops, .ref a_this_course_silences, .int v_course_getter], ia g a_this_course_ends 5 v_course_ends, ia g a_this_course_silences 5 v_course_silences, ia g a_this_course_stops 5 v_course_stops, ia g a_this_course_touchers 5 v_course_touchers, ob a_this_hall 6 [.ref a_this_hall_seats, .int v_hall_size, .int v_hall_fall], ra g a_this_hall_seats 5 (fun i => some (sa i)), ob a_this_heard 8 [.ref a_this_heard_bidders, .ref a_this_heard_breaths, .int v_heard_size], ia g a_this_heard_bidders 8 v_heard_bidders, ia g a_this_heard_breaths 8 v_heard_breaths] ++ swl sa b_K b_su b_wi b_wd b_ch b_tc) (some (.int r0)) ([ob a_this 11 [.ref a_this_page, .ref a_this_hall, .ref a_this_course, .ref a_this_heard, .ref a_this_image, .ref a_this_rests, .int v_hallsRead, .int v_restsDone], ob a_this_course 7 [.ref a_this_hall, .ref a_this_course_ends, .ref a_this_course_touchers, .ref a_this_course_stops, .ref a_this_course_silences, .int r2], ia g a_this_course_ends 5 r1, ia g a_this_course_silences 5 r3, ia g a_this_course_stops 5 r4, ia g a_this_course_touchers 5 r5, ob a_this_hall 6 [.ref a_this_hall_seats, .int v_hall_size, .int v_hall_fall], ra g a_this_hall_seats 5 (fun i => some (sa i)), ob a_this_heard 8 [.ref a_this_heard_bidders, .ref a_this_heard_breaths, .int v_heard_size], ia g a_this_heard_bidders 8 v_heard_bidders, ia g a_this_heard_breaths 8 v_heard_breaths] ++ swl sa b_K b_su b_wi b_wd b_ch b_tc) := by
  refine MC.mk (by decide) (Nat.le_of_ble_eq_true rfl) ?_
  intro p e s m args below meth c ls Q A F hnm hK hw hA hl hQ
  have hP := hw.1
  have hx := F.1
  have hb := F.2.1
  have hml := F.2.2.2.1
  have hown := F.2.2.2.2.1
  have hts := F.2.2.2.2.2.1
  have hl : lv_has ls 3 [(0, .ref a_this), (1, .int x1), (2, .int x2)] := hl
  unfold f_X11_explainsHeard at hf
  refine lv_aload_n hx hb dX11_explainsHeard_0 rfl (lv_at hl 0 rfl) ?_
  refine w_get (ci := 11) F hK hP fb_X11 0 rfl rfl 1 (by decide) fl_X11_27 (fun _ h => h) rfl dX11_explainsHeard_1 ?_
  refine lv_iload_n hx hb dX11_explainsHeard_4 rfl (lv_at hl 1 rfl) ?_
  obtain ⟨q1, hq1, hf⟩ := o_bind hf
  refine k_rV F (c_X4_has l g a_this_hall a_this_hall_seats x1 v_hall_size v_hall_fall hq1) qv_X4_has ml_X11_81 (hP.sub [6] rfl) hK (va_recv hK.1 hP (ci := 6) (q0 := 6) rfl rfl) rfl hl.1 rfl (Nat.le_of_ble_eq_true rfl) dX11_explainsHeard_5 ⟨(Nat.le_of_ble_eq_true rfl), (Nat.le_of_ble_eq_true rfl)⟩ ⟨(Nat.le_of_ble_eq_true rfl), (Nat.le_of_ble_eq_true rfl)⟩ ?_
  refine W.eq (g2 := F0 m 8 ls (.int q1 :: [])) rfl ?_
  refine lv_if_eq (tgt := 39) hx hb dX11_explainsHeard_8 (by decide) (fun h2 => ?_) (fun h2 => ?_)
  · have hf := o_t h2 hf
    refine lv_iconst (v := 0) hx hb dX11_explainsHeard_39 (by decide) ?_
    cases hf
    exact r_cz F hQ (by decide) ⟨rfl, rfl⟩ hw dX11_explainsHeard_40
  · have hf := o_f h2 hf
    refine lv_aload_n hx hb dX11_explainsHeard_11 rfl (lv_at hl 0 rfl) ?_
    refine w_get (ci := 11) F hK hP fb_X11 0 rfl rfl 1 (by decide) fl_X11_27 (fun _ h => h) rfl dX11_explainsHeard_12 ?_
    refine lv_iload_n hx hb dX11_explainsHeard_15 rfl (lv_at hl 2 rfl) ?_
    obtain ⟨q3, hq3, hf⟩ := o_bind hf
    refine k_rV F (c_X4_has l g a_this_hall a_this_hall_seats x2 v_hall_size v_hall_fall hq3) qv_X4_has ml_X11_81 (hP.sub [6] rfl) hK (va_recv hK.1 hP (ci := 6) (q0 := 6) rfl rfl) rfl hl.1 rfl (Nat.le_of_ble_eq_true rfl) dX11_explainsHeard_16 ⟨(Nat.le_of_ble_eq_true rfl), (Nat.le_of_ble_eq_true rfl)⟩ ⟨(Nat.le_of_ble_eq_true rfl), (Nat.le_of_ble_eq_true rfl)⟩ ?_
    refine W.eq (g2 := F0 m 19 ls (.int q3 :: [])) rfl ?_
    refine lv_if_eq (tgt := 39) hx hb dX11_explainsHeard_19 (by decide) (fun h4 => ?_) (fun h4 => ?_)
    · have hf := o_t h4 hf
      refine lv_iconst (v := 0) hx hb dX11_explainsHeard_39 (by decide) ?_
      cases hf
      exact r_cz F hQ (by decide) ⟨rfl, rfl⟩ hw dX11_explainsHeard_40
    · have hf := o_f h4 hf
      refine lv_iload_n hx hb dX11_explainsHeard_22 rfl (lv_at hl 1 rfl) ?_
      refine lv_iload_n hx hb dX11_explainsHeard_23 rfl (lv_at hl 2 rfl) ?_
      refine lv_icmp_eq (tgt := 39) hx hb dX11_explainsHeard_24 (by decide) (fun h5 => ?_) (fun h5 => ?_)
      · have hf := o_t h5 hf
        refine lv_iconst (v := 0) hx hb dX11_explainsHeard_39 (by decide) ?_
        cases hf
        exact r_cz F hQ (by decide) ⟨rfl, rfl⟩ hw dX11_explainsHeard_40
      · have hf := o_f h5 hf
        refine lv_aload_n hx hb dX11_explainsHeard_27 rfl (lv_at hl 0 rfl) ?_
        refine w_get (ci := 11) F hK hP fb_X11 0 rfl rfl 1 (by decide) fl_X11_27 (fun _ h => h) rfl dX11_explainsHeard_28 ?_
        refine lv_iload_n hx hb dX11_explainsHeard_31 rfl (lv_at hl 1 rfl) ?_
        refine lv_iload_n hx hb dX11_explainsHeard_32 rfl (lv_at hl 2 rfl) ?_
        obtain ⟨q6, hq6, hf⟩ := o_bind hf
        refine k_rV F (c_X4_touches l g a_this_hall a_this_hall_seats sa x1 x2 v_hall_size v_hall_fall b_K b_su b_wi b_wd b_ch b_tc hK5 hq6) qv_X4_touches ml_X11_187 (hP.sub [6, 7, 11, 12, 13, 14, 15] rfl) hK (va_recv hK.1 hP (ci := 6) (q0 := 6) rfl rfl) rfl hl.1 rfl (Nat.le_of_ble_eq_true rfl) dX11_explainsHeard_33 ⟨(Nat.le_of_ble_eq_true rfl), (Nat.le_of_ble_eq_true rfl)⟩ ⟨(Nat.le_of_ble_eq_true rfl), (Nat.le_of_ble_eq_true rfl)⟩ ?_
        refine W.eq (g2 := F0 m 36 ls (.int q6 :: [])) rfl ?_
        refine lv_if_eq (tgt := 41) hx hb dX11_explainsHeard_36 (by decide) (fun h7 => ?_) (fun h7 => ?_)
        · have hf := o_t h7 hf
          refine lv_aload_n hx hb dX11_explainsHeard_41 rfl (lv_at hl 0 rfl) ?_
          refine w_get (ci := 11) F hK hP fb_X11 0 rfl rfl 2 (by decide) fl_X11_19 (fun _ h => h) rfl dX11_explainsHeard_42 ?_
          obtain ⟨q8, hq8, hf⟩ := o_bind hf
          refine k_dV (wr := [ob a_this 11 [.ref a_this_page, .ref a_this_hall, .ref a_this_course, .ref a_this_heard, .ref a_this_image, .ref a_this_rests, .int v_hallsRead, .int v_restsDone], ia g a_this_course_silences 5 v_course_silences, ia g a_this_course_stops 5 v_course_stops, ob a_this_heard 8 [.ref a_this_heard_bidders, .ref a_this_heard_breaths, .int v_heard_size], ia g a_this_heard_bidders 8 v_heard_bidders, ia g a_this_heard_breaths 8 v_heard_breaths]) (ws' := ([ob a_this 11 [.ref a_this_page, .ref a_this_hall, .ref a_this_course, .ref a_this_heard, .ref a_this_image, .ref a_this_rests, .int v_hallsRead, .int v_restsDone], ob a_this_course 7 [.ref a_this_hall, .ref a_this_course_ends, .ref a_this_course_touchers, .ref a_this_course_stops, .ref a_this_course_silences, .int v_course_getter], ia g a_this_course_ends 5 q8.1, ia g a_this_course_silences 5 v_course_silences, ia g a_this_course_stops 5 v_course_stops, ia g a_this_course_touchers 5 q8.2, ob a_this_hall 6 [.ref a_this_hall_seats, .int v_hall_size, .int v_hall_fall], ra g a_this_hall_seats 5 (fun i => some (sa i)), ob a_this_heard 8 [.ref a_this_heard_bidders, .ref a_this_heard_breaths, .int v_heard_size], ia g a_this_heard_bidders 8 v_heard_bidders, ia g a_this_heard_breaths 8 v_heard_breaths] ++ swl sa b_K b_su b_wi b_wd b_ch b_tc)) F (c_X2_takeAsItIs l g a_this_course a_this_hall a_this_course_ends a_this_course_touchers a_this_course_stops a_this_course_silences a_this_hall_seats sa v_course_getter v_course_ends v_hall_size v_hall_fall v_course_touchers b_K b_su b_wi b_wd b_ch b_tc hK5 hq8) qv_X2_takeAsItIs ml_X11_141 hw hA hK [1, 2, 6, 7, 5, 11, 12, 13, 14, 15] [0, 3, 4, 8, 9, 10] [0, 6, 7, 1, 2, 10, 8, 9, 3, 4, 5, 11, 12, 13, 14, 15] rfl rfl rfl rfl rfl (by decide) rfl rfl rfl (va_recv hK.1 hP (ci := 7) (q0 := 1) rfl rfl) rfl hl.1 rfl (Nat.le_of_ble_eq_true rfl) dX11_explainsHeard_45 ⟨(Nat.le_of_ble_eq_true rfl), (Nat.le_of_ble_eq_true rfl)⟩ ⟨(Nat.le_of_ble_eq_true rfl), (Nat.le_of_ble_eq_true rfl)⟩ (fun H locs hw => ?_)
          have hP := hw.1
          refine W.eq (g2 := F0 m 48 ls ([])) rfl ?_
          refine lv_aload_n hx hb dX11_explainsHeard_48 rfl (lv_at hl 0 rfl) ?_
          refine w_get (ci := 11) F hK hP fb_X11 0 rfl rfl 2 (by decide) fl_X11_19 (fun _ h => h) rfl dX11_explainsHeard_49 ?_
          refine lv_iload_n hx hb dX11_explainsHeard_52 rfl (lv_at hl 1 rfl) ?_
          refine lv_iload_n hx hb dX11_explainsHeard_53 rfl (lv_at hl 2 rfl) ?_
          obtain ⟨q9, hq9, hf⟩ := o_bind hf
          refine k_dV (wr := ([ob a_this 11 [.ref a_this_page, .ref a_this_hall, .ref a_this_course, .ref a_this_heard, .ref a_this_image, .ref a_this_rests, .int v_hallsRead, .int v_restsDone], ia g a_this_course_ends 5 q8.1, ia g a_this_course_silences 5 v_course_silences, ia g a_this_course_stops 5 v_course_stops, ob a_this_hall 6 [.ref a_this_hall_seats, .int v_hall_size, .int v_hall_fall], ra g a_this_hall_seats 5 (fun i => some (sa i)), ob a_this_heard 8 [.ref a_this_heard_bidders, .ref a_this_heard_breaths, .int v_heard_size], ia g a_this_heard_bidders 8 v_heard_bidders, ia g a_this_heard_breaths 8 v_heard_breaths] ++ swl sa b_K b_su b_wi b_wd b_ch b_tc)) (ws' := ([ob a_this 11 [.ref a_this_page, .ref a_this_hall, .ref a_this_course, .ref a_this_heard, .ref a_this_image, .ref a_this_rests, .int v_hallsRead, .int v_restsDone], ob a_this_course 7 [.ref a_this_hall, .ref a_this_course_ends, .ref a_this_course_touchers, .ref a_this_course_stops, .ref a_this_course_silences, .int v_course_getter], ia g a_this_course_ends 5 q8.1, ia g a_this_course_silences 5 v_course_silences, ia g a_this_course_stops 5 v_course_stops, ia g a_this_course_touchers 5 q9, ob a_this_hall 6 [.ref a_this_hall_seats, .int v_hall_size, .int v_hall_fall], ra g a_this_hall_seats 5 (fun i => some (sa i)), ob a_this_heard 8 [.ref a_this_heard_bidders, .ref a_this_heard_breaths, .int v_heard_size], ia g a_this_heard_bidders 8 v_heard_bidders, ia g a_this_heard_breaths 8 v_heard_breaths] ++ swl sa b_K b_su b_wi b_wd b_ch b_tc)) F (c_X2_supposeTouch l g a_this_course a_this_hall a_this_course_ends a_this_course_touchers a_this_course_stops a_this_course_silences x1 x2 v_course_getter q8.2 hq9) qv_X2_supposeTouch ml_X11_190 hw hA hK [1, 5] [0, 2, 3, 4, 6, 7, 8, 9, 10, 11, 12, 13, 14, 15] [0, 14, 1, 2, 3, 15, 4, 5, 6, 7, 8, 9, 10, 11, 12, 13] rfl rfl rfl rfl rfl (by decide) rfl rfl rfl (va_recv hK.1 hP (ci := 7) (q0 := 1) rfl rfl) rfl hl.1 rfl (Nat.le_of_ble_eq_true rfl) dX11_explainsHeard_54 ⟨(Nat.le_of_ble_eq_true rfl), (Nat.le_of_ble_eq_true rfl)⟩ ⟨(Nat.le_of_ble_eq_true rfl), (Nat.le_of_ble_eq_true rfl)⟩ (fun H locs hw => ?_)
          have hP := hw.1
          refine W.eq (g2 := F0 m 57 ls ([])) rfl ?_
          refine lv_aload_n hx hb dX11_explainsHeard_57 rfl (lv_at hl 0 rfl) ?_
          refine w_get (ci := 11) F hK hP fb_X11 0 rfl rfl 2 (by decide) fl_X11_19 (fun _ h => h) rfl dX11_explainsHeard_58 ?_
          obtain ⟨q10, hq10, hf⟩ := o_bind hf
          refine k_dV (wr := [ob a_this 11 [.ref a_this_page, .ref a_this_hall, .ref a_this_course, .ref a_this_heard, .ref a_this_image, .ref a_this_rests, .int v_hallsRead, .int v_restsDone], ob a_this_heard 8 [.ref a_this_heard_bidders, .ref a_this_heard_breaths, .int v_heard_size], ia g a_this_heard_bidders 8 v_heard_bidders, ia g a_this_heard_breaths 8 v_heard_breaths]) (ws' := ([ob a_this 11 [.ref a_this_page, .ref a_this_hall, .ref a_this_course, .ref a_this_heard, .ref a_this_image, .ref a_this_rests, .int v_hallsRead, .int v_restsDone], ob a_this_course 7 [.ref a_this_hall, .ref a_this_course_ends, .ref a_this_course_touchers, .ref a_this_course_stops, .ref a_this_course_silences, .int q10.1], ia g a_this_course_ends 5 q8.1, ia g a_this_course_silences 5 q10.2.1, ia g a_this_course_stops 5 q10.2.2, ia g a_this_course_touchers 5 q9, ob a_this_hall 6 [.ref a_this_hall_seats, .int v_hall_size, .int v_hall_fall], ra g a_this_hall_seats 5 (fun i => some (sa i)), ob a_this_heard 8 [.ref a_this_heard_bidders, .ref a_this_heard_breaths, .int v_heard_size], ia g a_this_heard_bidders 8 v_heard_bidders, ia g a_this_heard_breaths 8 v_heard_breaths] ++ swl sa b_K b_su b_wi b_wd b_ch b_tc)) F (c_X2_run l g a_this_course a_this_hall a_this_course_ends a_this_course_touchers a_this_course_stops a_this_course_silences a_this_hall_seats sa v_course_getter q8.1 v_hall_size v_hall_fall v_course_silences v_course_stops q9 b_K b_su b_wi b_wd b_ch b_tc hK5 hq10) qv_X2_run ml_X11_152 hw hA hK [1, 2, 6, 7, 3, 4, 5, 11, 12, 13, 14, 15] [0, 8, 9, 10] [0, 4, 5, 8, 9, 10, 6, 7, 1, 2, 3, 11, 12, 13, 14, 15] rfl rfl rfl rfl rfl (by decide) rfl rfl rfl (va_recv hK.1 hP (ci := 7) (q0 := 1) rfl rfl) rfl hl.1 rfl (Nat.le_of_ble_eq_true rfl) dX11_explainsHeard_61 ⟨(Nat.le_of_ble_eq_true rfl), (Nat.le_of_ble_eq_true rfl)⟩ ⟨(Nat.le_of_ble_eq_true rfl), (Nat.le_of_ble_eq_true rfl)⟩ (fun H locs hw => ?_)
          have hP := hw.1
          refine W.eq (g2 := F0 m 64 ls ([])) rfl ?_
          refine lv_aload_n hx hb dX11_explainsHeard_64 rfl (lv_at hl 0 rfl) ?_
          refine w_get (ci := 11) F hK hP fb_X11 0 rfl rfl 3 (by decide) fl_X11_31 (fun _ h => h) rfl dX11_explainsHeard_65 ?_
          refine lv_aload_n hx hb dX11_explainsHeard_68 rfl (lv_at hl 0 rfl) ?_
          refine w_get (ci := 11) F hK hP fb_X11 0 rfl rfl 2 (by decide) fl_X11_19 (fun _ h => h) rfl dX11_explainsHeard_69 ?_
          obtain ⟨q11, hq11, hf⟩ := o_bind hf
          refine k_rV F (c_X5_agrees l g a_this_heard a_this_course a_this_hall a_this_course_ends a_this_course_touchers a_this_course_stops a_this_course_silences a_this_heard_bidders a_this_heard_breaths q10.1 q10.2.1 v_heard_size v_heard_bidders v_heard_breaths hq11) qv_X5_agrees ml_X11_179 (hP.sub [1, 3, 8, 9, 10] rfl) hK (va_recv hK.1 hP (ci := 8) (q0 := 8) rfl rfl) rfl hl.1 rfl (Nat.le_of_ble_eq_true rfl) dX11_explainsHeard_72 ⟨(Nat.le_of_ble_eq_true rfl), (Nat.le_of_ble_eq_true rfl)⟩ ⟨(Nat.le_of_ble_eq_true rfl), (Nat.le_of_ble_eq_true rfl)⟩ ?_
          refine W.eq (g2 := F0 m 75 ls (.int q11 :: [])) rfl ?_
          obtain ⟨h12, hf⟩ := o_chk hf
          cases hf
          exact r_cz F hQ (Decidable.not_not.mp h12) ⟨rfl, rfl⟩ hw dX11_explainsHeard_75
        · have hf := o_f h7 hf
          refine lv_iconst (v := 0) hx hb dX11_explainsHeard_39 (by decide) ?_
          cases hf
          exact r_cz F hQ (by decide) ⟨rfl, rfl⟩ hw dX11_explainsHeard_40
