def f_X8_choiceInFirst (x1 : Int32) (v_firstChoices : Nat → Int32) (v_howMany : Int32) (v_size : Int32) : Option (Int32) := (if v_howMany = 0 then (some (-1)) else (if x1 < v_size then (if x1 < 0 ∨ 5 ≤ Int32.toNatClampNeg x1 then none else (some (v_firstChoices (Int32.toNatClampNeg x1)))) else (some (-1))))
set_option maxRecDepth 100000 in
set_option maxHeartbeats 4000000 in
theorem c_X8_choiceInFirst (l : Launch) (g : GG) (a_this : Nat) (a_this_getters : Nat) (a_this_gains : Nat) (a_this_weights : Nat) (a_this_choices : Nat) (a_this_firstChoices : Nat) (x1 : Int32) (v_size : Int32) (v_breaths : Int32) (v_howMany : Int32) (v_firstChoices : Nat → Int32) {r0 : Int32} (hf : f_X8_choiceInFirst x1 v_firstChoices v_howMany v_size = some r0) : MR l g yX8_choiceInFirst cX8_choiceInFirst 2 (some .int) 0 0 [.ref a_this, .int x1] [ob a_this 10 [.ref a_this_getters, .ref a_this_gains, .ref a_this_weights, .ref a_this_choices, .ref a_this_firstChoices, .int v_size, .int v_breaths, .int v_howMany], ia g a_this_firstChoices 5 v_firstChoices] (some (.int r0)) := by
  refine MR.mk (by decide) (Nat.le_of_ble_eq_true rfl) ?_
  intro p e s m args below meth c ls Q F hK hP hl hQ
  have hx := F.1
  have hb := F.2.1
  have hml := F.2.2.2.1
  have hown := F.2.2.2.2.1
  have hts := F.2.2.2.2.2.1
  have hl : lv_has ls 2 [(0, .ref a_this), (1, .int x1)] := hl
  unfold f_X8_choiceInFirst at hf
  refine lv_aload_n hx hb dX8_choiceInFirst_0 rfl (lv_at hl 0 rfl) ?_
  refine w_get (ci := 10) F hK hP fb_X8 0 rfl rfl 7 (by decide) fl_X8_51 (fun _ h => h) rfl dX8_choiceInFirst_1 ?_
  refine lv_if_eq (tgt := 15) hx hb dX8_choiceInFirst_4 (by decide) (fun h1 => ?_) (fun h1 => ?_)
  · have hf := o_t h1 hf
    refine lv_iconst (v := (-1)) hx hb dX8_choiceInFirst_15 (by decide) ?_
    refine lv_goto (tgt := 25) hx hb dX8_choiceInFirst_16 (by decide) ?_
    exact r_ri F hQ (Option.some.inj hf) dX8_choiceInFirst_25
  · have hf := o_f h1 hf
    refine lv_iload_n hx hb dX8_choiceInFirst_7 rfl (lv_at hl 1 rfl) ?_
    refine lv_aload_n hx hb dX8_choiceInFirst_8 rfl (lv_at hl 0 rfl) ?_
    refine w_get (ci := 10) F hK hP fb_X8 0 rfl rfl 5 (by decide) fl_X8_39 (fun _ h => h) rfl dX8_choiceInFirst_9 ?_
    refine lv_icmp_lt (tgt := 19) hx hb dX8_choiceInFirst_12 (by decide) (fun h2 => ?_) (fun h2 => ?_)
    · have hf := o_t h2 hf
      refine lv_aload_n hx hb dX8_choiceInFirst_19 rfl (lv_at hl 0 rfl) ?_
      refine w_get (ci := 10) F hK hP fb_X8 0 rfl rfl 4 (by decide) fl_X8_24 (fun _ h => h) rfl dX8_choiceInFirst_20 ?_
      refine lv_iload_n hx hb dX8_choiceInFirst_23 rfl (lv_at hl 1 rfl) ?_
      obtain ⟨h3, hf⟩ := o_chk hf
      refine w_iald F hK hP 1 rfl h3 dX8_choiceInFirst_24 ?_
      exact r_ri F hQ (Option.some.inj hf) dX8_choiceInFirst_25
    · have hf := o_f h2 hf
      refine lv_iconst (v := (-1)) hx hb dX8_choiceInFirst_15 (by decide) ?_
      refine lv_goto (tgt := 25) hx hb dX8_choiceInFirst_16 (by decide) ?_
      exact r_ri F hQ (Option.some.inj hf) dX8_choiceInFirst_25
def f_X11_letter (x1 : Int32) (v_page_codes : Nat → Int32) (v_page_length : Int32) : Option (Int32 × (Nat → Int32) × Int32) := (if x1 < 32 then (some ((-102), v_page_codes, v_page_length)) else (if x1 ≤ 126 then ((f_X7_isFull v_page_length).bind fun q3 => (if q3 = 0 then ((f_X7_write x1 v_page_codes v_page_length).bind fun q5 => (some (q5.2, q5.1, q5.2))) else (some ((-104), v_page_codes, v_page_length)))) else (some ((-102), v_page_codes, v_page_length))))
set_option maxRecDepth 100000 in
set_option maxHeartbeats 4000000 in
theorem c_X11_letter (l : Launch) (g : GG) (a_this : Nat) (a_this_page : Nat) (a_this_hall : Nat) (a_this_course : Nat) (a_this_heard : Nat) (a_this_image : Nat) (a_this_rests : Nat) (a_this_page_codes : Nat) (x1 : Int32) (v_hallsRead : Int32) (v_restsDone : Int32) (v_page_length : Int32) (v_page_codes : Nat → Int32) {r0 : Int32} {r1 : Nat → Int32} {r2 : Int32} (hf : f_X11_letter x1 v_page_codes v_page_length = some (r0, r1, r2)) : MD l g yX11_letter cX11_letter 2 (some .int) 1 21 [.ref a_this, .int x1] [ob a_this 11 [.ref a_this_page, .ref a_this_hall, .ref a_this_course, .ref a_this_heard, .ref a_this_image, .ref a_this_rests, .int v_hallsRead, .int v_restsDone], ob a_this_page 5 [.ref a_this_page_codes, .int v_page_length], ia g a_this_page_codes 28 v_page_codes] (some (.int r0)) [ob a_this 11 [.ref a_this_page, .ref a_this_hall, .ref a_this_course, .ref a_this_heard, .ref a_this_image, .ref a_this_rests, .int v_hallsRead, .int v_restsDone], ob a_this_page 5 [.ref a_this_page_codes, .int r2], ia g a_this_page_codes 28 r1] := by
  refine MC.mk (by decide) (Nat.le_of_ble_eq_true rfl) ?_
  intro p e s m args below meth c ls Q A F hnm hK hw hA hl hQ
  have hP := hw.1
  have hx := F.1
  have hb := F.2.1
  have hml := F.2.2.2.1
  have hown := F.2.2.2.2.1
  have hts := F.2.2.2.2.2.1
  have hl : lv_has ls 2 [(0, .ref a_this), (1, .int x1)] := hl
  unfold f_X11_letter at hf
  refine lv_iload_n hx hb dX11_letter_0 rfl (lv_at hl 1 rfl) ?_
  refine lv_bipush (v := 32) hx hb dX11_letter_1 (by decide) ?_
  refine lv_icmp_lt (tgt := 12) hx hb dX11_letter_3 (by decide) (fun h1 => ?_) (fun h1 => ?_)
  · have hf := o_t h1 hf
    refine lv_bipush (v := (-102)) hx hb dX11_letter_12 (by decide) ?_
    cases hf
    exact r_ci F hQ ⟨rfl, rfl⟩ hw dX11_letter_14
  · have hf := o_f h1 hf
    refine lv_iload_n hx hb dX11_letter_6 rfl (lv_at hl 1 rfl) ?_
    refine lv_bipush (v := 126) hx hb dX11_letter_7 (by decide) ?_
    refine lv_icmp_le (tgt := 15) hx hb dX11_letter_9 (by decide) (fun h2 => ?_) (fun h2 => ?_)
    · have hf := o_t h2 hf
      refine lv_aload_n hx hb dX11_letter_15 rfl (lv_at hl 0 rfl) ?_
      refine w_get (ci := 11) F hK hP fb_X11 0 rfl rfl 0 (by decide) fl_X11_10 (fun _ h => h) rfl dX11_letter_16 ?_
      obtain ⟨q3, hq3, hf⟩ := o_bind hf
      refine k_rV F (c_X7_isFull l g a_this_page a_this_page_codes v_page_length hq3) qv_X7_isFull ml_X11_49 (hP.sub [1] rfl) hK (va_recv hK.1 hP (ci := 5) (q0 := 1) rfl rfl) rfl hl.1 rfl (Nat.le_of_ble_eq_true rfl) dX11_letter_19 ⟨(Nat.le_of_ble_eq_true rfl), (Nat.le_of_ble_eq_true rfl)⟩ ⟨(Nat.le_of_ble_eq_true rfl), (Nat.le_of_ble_eq_true rfl)⟩ ?_
      refine W.eq (g2 := F0 m 22 ls (.int q3 :: [])) rfl ?_
      refine lv_if_eq (tgt := 28) hx hb dX11_letter_22 (by decide) (fun h4 => ?_) (fun h4 => ?_)
      · have hf := o_t h4 hf
        refine lv_aload_n hx hb dX11_letter_28 rfl (lv_at hl 0 rfl) ?_
        refine w_get (ci := 11) F hK hP fb_X11 0 rfl rfl 0 (by decide) fl_X11_10 (fun _ h => h) rfl dX11_letter_29 ?_
        refine lv_iload_n hx hb dX11_letter_32 rfl (lv_at hl 1 rfl) ?_
        obtain ⟨q5, hq5, hf⟩ := o_bind hf
        refine k_dV (wr := [ob a_this 11 [.ref a_this_page, .ref a_this_hall, .ref a_this_course, .ref a_this_heard, .ref a_this_image, .ref a_this_rests, .int v_hallsRead, .int v_restsDone]]) (ws' := [ob a_this 11 [.ref a_this_page, .ref a_this_hall, .ref a_this_course, .ref a_this_heard, .ref a_this_image, .ref a_this_rests, .int v_hallsRead, .int v_restsDone], ob a_this_page 5 [.ref a_this_page_codes, .int q5.2], ia g a_this_page_codes 28 q5.1]) F (c_X7_write l g a_this_page a_this_page_codes x1 v_page_length v_page_codes hq5) qv_X7_write ml_X11_53 hw hA hK [1, 2] [0] [0, 1, 2] rfl rfl rfl rfl rfl (by decide) rfl rfl rfl (va_recv hK.1 hP (ci := 5) (q0 := 1) rfl rfl) rfl hl.1 rfl (Nat.le_of_ble_eq_true rfl) dX11_letter_33 ⟨(Nat.le_of_ble_eq_true rfl), (Nat.le_of_ble_eq_true rfl)⟩ ⟨(Nat.le_of_ble_eq_true rfl), (Nat.le_of_ble_eq_true rfl)⟩ (fun H locs hw => ?_)
        have hP := hw.1
        refine W.eq (g2 := F0 m 36 ls ([])) rfl ?_
        refine lv_aload_n hx hb dX11_letter_36 rfl (lv_at hl 0 rfl) ?_
        refine w_get (ci := 11) F hK hP fb_X11 0 rfl rfl 0 (by decide) fl_X11_10 (fun _ h => h) rfl dX11_letter_37 ?_
        refine w_get (ci := 5) F hK hP fb_X7 1 rfl rfl 1 (by decide) fl_X11_57 (fun _ h => h) rfl dX11_letter_40 ?_
        cases hf
        exact r_ci F hQ ⟨rfl, rfl⟩ hw dX11_letter_43
      · have hf := o_f h4 hf
        refine lv_bipush (v := (-104)) hx hb dX11_letter_25 (by decide) ?_
        cases hf
        exact r_ci F hQ ⟨rfl, rfl⟩ hw dX11_letter_27
    · have hf := o_f h2 hf
      refine lv_bipush (v := (-102)) hx hb dX11_letter_12 (by decide) ?_
      cases hf
      exact r_ci F hQ ⟨rfl, rfl⟩ hw dX11_letter_14
def f_X11_blank (v_page_length : Int32) : Option (Int32 × Int32) := (some (v_page_length, 0))
set_option maxRecDepth 100000 in
set_option maxHeartbeats 4000000 in
theorem c_X11_blank (l : Launch) (g : GG) (a_this : Nat) (a_this_page : Nat) (a_this_hall : Nat) (a_this_course : Nat) (a_this_heard : Nat) (a_this_image : Nat) (a_this_rests : Nat) (a_this_page_codes : Nat) (v_hallsRead : Int32) (v_restsDone : Int32) (v_page_length : Int32) {r0 : Int32} {r1 : Int32} (hf : f_X11_blank v_page_length = some (r0, r1)) : MD l g yX11_blank cX11_blank 2 (some .int) 0 0 [.ref a_this] [ob a_this 11 [.ref a_this_page, .ref a_this_hall, .ref a_this_course, .ref a_this_heard, .ref a_this_image, .ref a_this_rests, .int v_hallsRead, .int v_restsDone], ob a_this_page 5 [.ref a_this_page_codes, .int v_page_length]] (some (.int r0)) [ob a_this 11 [.ref a_this_page, .ref a_this_hall, .ref a_this_course, .ref a_this_heard, .ref a_this_image, .ref a_this_rests, .int v_hallsRead, .int v_restsDone], ob a_this_page 5 [.ref a_this_page_codes, .int r1]] := by
  refine MC.mk (by decide) (Nat.le_of_ble_eq_true rfl) ?_
  intro p e s m args below meth c ls Q A F hnm hK hw hA hl hQ
  have hP := hw.1
  have hx := F.1
  have hb := F.2.1
  have hml := F.2.2.2.1
  have hown := F.2.2.2.2.1
  have hts := F.2.2.2.2.2.1
  have hl : lv_has ls 2 [(0, .ref a_this)] := hl
  unfold f_X11_blank at hf
  refine lv_aload_n hx hb dX11_blank_0 rfl (lv_at hl 0 rfl) ?_
  refine w_get (ci := 11) F hK hP fb_X11 0 rfl rfl 0 (by decide) fl_X11_10 (fun _ h => h) rfl dX11_blank_1 ?_
  refine w_get (ci := 5) F hK hP fb_X7 1 rfl rfl 1 (by decide) fl_X11_57 (fun _ h => h) rfl dX11_blank_4 ?_
  refine lv_istore_n (lv' := [(1, .int v_page_length), (0, .ref a_this)]) hx hb dX11_blank_7 rfl hl (by decide) rfl (fun ls hl => ?_)
  refine lv_aload_n hx hb dX11_blank_8 rfl (lv_at hl 1 rfl) ?_
  refine w_get (ci := 11) F hK hP fb_X11 0 rfl rfl 0 (by decide) fl_X11_10 (fun _ h => h) rfl dX11_blank_9 ?_
  refine lv_iconst (v := 0) hx hb dX11_blank_12 (by decide) ?_
  refine w_put (ci := 5) (ws' := [ob a_this 11 [.ref a_this_page, .ref a_this_hall, .ref a_this_course, .ref a_this_heard, .ref a_this_image, .ref a_this_rests, .int v_hallsRead, .int v_restsDone], ob a_this_page 5 [.ref a_this_page_codes, .int 0]]) F hK hw fb_X7 1 rfl rfl 1 (by decide) fl_X11_57 (fun _ h => h) rfl rfl rfl rfl (Nat.le_of_ble_eq_true rfl) rfl dX11_blank_13 (fun H locs hw => ?_)
  have hP := hw.1
  refine lv_iload_n hx hb dX11_blank_16 rfl (lv_at hl 0 rfl) ?_
  cases hf
  exact r_ci F hQ ⟨rfl, rfl⟩ hw dX11_blank_17
def f_X11_about (x1 : Int32) (x2 : Int32) (b_K : Nat → Nat) (b_ch : Nat → Int32) (b_su : Nat → Int32) (b_tc : Nat → Int32) (b_wd : Nat → Int32) (b_wi : Nat → Int32) (v_course_ends : Nat → Int32) (v_course_getter : Int32) (v_course_silences : Nat → Int32) (v_course_stops : Nat → Int32) (v_course_touchers : Nat → Int32) (v_hall_fall : Int32) (v_hall_size : Int32) : Option (Int32 × (Nat → Int32) × Int32 × (Nat → Int32) × (Nat → Int32) × (Nat → Int32)) := ((f_X4_has x1 v_hall_size).bind fun q1 => (if q1 = 0 then (some ((-101), v_course_ends, v_course_getter, v_course_silences, v_course_stops, v_course_touchers)) else (if x2 < 0 then (some ((-102), v_course_ends, v_course_getter, v_course_silences, v_course_stops, v_course_touchers)) else (if x2 ≤ 9 then (if x2 < 5 then (if x1 < 0 ∨ 5 ≤ Int32.toNatClampNeg x1 then none else (if x2 = 0 then (some ((kinF (b_K (Int32.toNatClampNeg x1))), v_course_ends, v_course_getter, v_course_silences, v_course_stops, v_course_touchers)) else (if x2 = 1 then (some ((b_wd (Int32.toNatClampNeg x1)), v_course_ends, v_course_getter, v_course_silences, v_course_stops, v_course_touchers)) else (if x2 = 2 then (some ((b_su (Int32.toNatClampNeg x1)), v_course_ends, v_course_getter, v_course_silences, v_course_stops, v_course_touchers)) else (if x2 = 3 then (some ((b_wi (Int32.toNatClampNeg x1)), v_course_ends, v_course_getter, v_course_silences, v_course_stops, v_course_touchers)) else (if x2 = 4 then (some ((b_ch (Int32.toNatClampNeg x1)), v_course_ends, v_course_getter, v_course_silences, v_course_stops, v_course_touchers)) else (if x2 = 5 then (some ((v_course_stops (Int32.toNatClampNeg x1)), v_course_ends, v_course_getter, v_course_silences, v_course_stops, v_course_touchers)) else (if x2 = 6 then (some ((v_course_silences (Int32.toNatClampNeg x1)), v_course_ends, v_course_getter, v_course_silences, v_course_stops, v_course_touchers)) else (if x2 = 7 then ((f_X2_priceOf x1 b_K b_su v_hall_fall v_course_stops).bind fun q15 => (some (q15, v_course_ends, v_course_getter, v_course_silences, v_course_stops, v_course_touchers))) else (if x2 = 8 then ((f_X2_gainOf x1 b_K b_su b_wi v_course_getter v_hall_fall v_course_stops).bind fun q17 => (some (q17, v_course_ends, v_course_getter, v_course_silences, v_course_stops, v_course_touchers))) else (some ((b_tc (Int32.toNatClampNeg x1)), v_course_ends, v_course_getter, v_course_silences, v_course_stops, v_course_touchers)))))))))))) else (if 8 < x2 then (if x1 < 0 ∨ 5 ≤ Int32.toNatClampNeg x1 then none else (if x2 = 0 then (some ((kinF (b_K (Int32.toNatClampNeg x1))), v_course_ends, v_course_getter, v_course_silences, v_course_stops, v_course_touchers)) else (if x2 = 1 then (some ((b_wd (Int32.toNatClampNeg x1)), v_course_ends, v_course_getter, v_course_silences, v_course_stops, v_course_touchers)) else (if x2 = 2 then (some ((b_su (Int32.toNatClampNeg x1)), v_course_ends, v_course_getter, v_course_silences, v_course_stops, v_course_touchers)) else (if x2 = 3 then (some ((b_wi (Int32.toNatClampNeg x1)), v_course_ends, v_course_getter, v_course_silences, v_course_stops, v_course_touchers)) else (if x2 = 4 then (some ((b_ch (Int32.toNatClampNeg x1)), v_course_ends, v_course_getter, v_course_silences, v_course_stops, v_course_touchers)) else (if x2 = 5 then (some ((v_course_stops (Int32.toNatClampNeg x1)), v_course_ends, v_course_getter, v_course_silences, v_course_stops, v_course_touchers)) else (if x2 = 6 then (some ((v_course_silences (Int32.toNatClampNeg x1)), v_course_ends, v_course_getter, v_course_silences, v_course_stops, v_course_touchers)) else (if x2 = 7 then ((f_X2_priceOf x1 b_K b_su v_hall_fall v_course_stops).bind fun q28 => (some (q28, v_course_ends, v_course_getter, v_course_silences, v_course_stops, v_course_touchers))) else (if x2 = 8 then ((f_X2_gainOf x1 b_K b_su b_wi v_course_getter v_hall_fall v_course_stops).bind fun q30 => (some (q30, v_course_ends, v_course_getter, v_course_silences, v_course_stops, v_course_touchers))) else (some ((b_tc (Int32.toNatClampNeg x1)), v_course_ends, v_course_getter, v_course_silences, v_course_stops, v_course_touchers)))))))))))) else ((f_X2_runAsItIs b_K b_ch b_tc b_wd v_course_ends v_course_getter v_hall_size v_course_silences v_course_stops v_course_touchers).bind fun q31 => (if x1 < 0 ∨ 5 ≤ Int32.toNatClampNeg x1 then none else (if x2 = 0 then (some ((kinF (b_K (Int32.toNatClampNeg x1))), q31.1, q31.2.1, q31.2.2.1, q31.2.2.2.1, q31.2.2.2.2)) else (if x2 = 1 then (some ((b_wd (Int32.toNatClampNeg x1)), q31.1, q31.2.1, q31.2.2.1, q31.2.2.2.1, q31.2.2.2.2)) else (if x2 = 2 then (some ((b_su (Int32.toNatClampNeg x1)), q31.1, q31.2.1, q31.2.2.1, q31.2.2.2.1, q31.2.2.2.2)) else (if x2 = 3 then (some ((b_wi (Int32.toNatClampNeg x1)), q31.1, q31.2.1, q31.2.2.1, q31.2.2.2.1, q31.2.2.2.2)) else (if x2 = 4 then (some ((b_ch (Int32.toNatClampNeg x1)), q31.1, q31.2.1, q31.2.2.1, q31.2.2.2.1, q31.2.2.2.2)) else (if x2 = 5 then (some ((q31.2.2.2.1 (Int32.toNatClampNeg x1)), q31.1, q31.2.1, q31.2.2.1, q31.2.2.2.1, q31.2.2.2.2)) else (if x2 = 6 then (some ((q31.2.2.1 (Int32.toNatClampNeg x1)), q31.1, q31.2.1, q31.2.2.1, q31.2.2.2.1, q31.2.2.2.2)) else (if x2 = 7 then ((f_X2_priceOf x1 b_K b_su v_hall_fall q31.2.2.2.1).bind fun q41 => (some (q41, q31.1, q31.2.1, q31.2.2.1, q31.2.2.2.1, q31.2.2.2.2))) else (if x2 = 8 then ((f_X2_gainOf x1 b_K b_su b_wi q31.2.1 v_hall_fall q31.2.2.2.1).bind fun q43 => (some (q43, q31.1, q31.2.1, q31.2.2.1, q31.2.2.2.1, q31.2.2.2.2))) else (some ((b_tc (Int32.toNatClampNeg x1)), q31.1, q31.2.1, q31.2.2.1, q31.2.2.2.1, q31.2.2.2.2))))))))))))))) else (some ((-102), v_course_ends, v_course_getter, v_course_silences, v_course_stops, v_course_touchers))))))
set_option maxRecDepth 100000 in
set_option maxHeartbeats 4000000 in
theorem c_X11_about (l : Launch) (g : GG) (a_this : Nat) (a_this_page : Nat) (a_this_hall : Nat) (a_this_course : Nat) (a_this_heard : Nat) (a_this_image : Nat) (a_this_rests : Nat) (a_this_course_ends : Nat) (a_this_course_touchers : Nat) (a_this_course_stops : Nat) (a_this_course_silences : Nat) (a_this_hall_seats : Nat) (sa : Nat → Nat) (x1 : Int32) (x2 : Int32) (v_hallsRead : Int32) (v_restsDone : Int32) (v_course_getter : Int32) (v_course_ends : Nat → Int32) (v_course_silences : Nat → Int32) (v_course_stops : Nat → Int32) (v_course_touchers : Nat → Int32) (v_hall_size : Int32) (v_hall_fall : Int32) (b_K : Nat → Nat) (b_su : Nat → Int32) (b_wi : Nat → Int32) (b_wd : Nat → Int32) (b_ch : Nat → Int32) (b_tc : Nat → Int32) (hK5 : ∀ i, b_K i < 5) {r0 : Int32} {r1 : Nat → Int32} {r2 : Int32} {r3 : Nat → Int32} {r4 : Nat → Int32} {r5 : Nat → Int32} (hf : f_X11_about x1 x2 b_K b_ch b_su b_tc b_wd b_wi v_course_ends v_course_getter v_course_silences v_course_stops v_course_touchers v_hall_fall v_hall_size = some (r0, r1, r2, r3, r4, r5)) : MD l g yX11_about cX11_about 4 (some .int) 5 109 [.ref a_this, .int x1, .int x2] ([ob a_this 11 [.ref a_this_page, .ref a_this_hall, .ref a_this_course, .ref a_this_heard, .ref a_this_image, .ref a_this_rests, .int v_hallsRead, .int v_restsDone], ob a_this_course 7 [.ref a_this_hall, .ref a_this_course_ends, .ref a_this_course_touchers, .ref a_this_course_stops, .ref a_this_course_silences, .int v_course_getter], ia g a_this_course_ends 5 v_course_ends, ia g a_this_course_silences 5 v_course_silences, ia g a_this_course_stops 5 v_course_stops, ia g a_this_course_touchers 5 v_course_touchers, ob a_this_hall 6 [.ref a_this_hall_seats, .int v_hall_size, .int v_hall_fall], ra g a_this_hall_seats 5 (fun i => some (sa i))] ++ swl sa b_K b_su b_wi b_wd b_ch b_tc) (some (.int r0)) ([ob a_this 11 [.ref a_this_page, .ref a_this_hall, .ref a_this_course, .ref a_this_heard, .ref a_this_image, .ref a_this_rests, .int v_hallsRead, .int v_restsDone], ob a_this_course 7 [.ref a_this_hall, .ref a_this_course_ends, .ref a_this_course_touchers, .ref a_this_course_stops, .ref a_this_course_silences, .int r2], ia g a_this_course_ends 5 r1, ia g a_this_course_silences 5 r3, ia g a_this_course_stops 5 r4, ia g a_this_course_touchers 5 r5, ob a_this_hall 6 [.ref a_this_hall_seats, .int v_hall_size, .int v_hall_fall], ra g a_this_hall_seats 5 (fun i => some (sa i))] ++ swl sa b_K b_su b_wi b_wd b_ch b_tc) := by
  refine MC.mk (by decide) (Nat.le_of_ble_eq_true rfl) ?_
  intro p e s m args below meth c ls Q A F hnm hK hw hA hl hQ
  have hP := hw.1
  have hx := F.1
  have hb := F.2.1
  have hml := F.2.2.2.1
  have hown := F.2.2.2.2.1
  have hts := F.2.2.2.2.2.1
  have hl : lv_has ls 4 [(0, .ref a_this), (1, .int x1), (2, .int x2)] := hl
  unfold f_X11_about at hf
  refine lv_aload_n hx hb dX11_about_0 rfl (lv_at hl 0 rfl) ?_
  refine w_get (ci := 11) F hK hP fb_X11 0 rfl rfl 1 (by decide) fl_X11_27 (fun _ h => h) rfl dX11_about_1 ?_
  refine lv_iload_n hx hb dX11_about_4 rfl (lv_at hl 1 rfl) ?_
  obtain ⟨q1, hq1, hf⟩ := o_bind hf
  refine k_rV F (c_X4_has l g a_this_hall a_this_hall_seats x1 v_hall_size v_hall_fall hq1) qv_X4_has ml_X11_81 (hP.sub [6] rfl) hK (va_recv hK.1 hP (ci := 6) (q0 := 6) rfl rfl) rfl hl.1 rfl (Nat.le_of_ble_eq_true rfl) dX11_about_5 ⟨(Nat.le_of_ble_eq_true rfl), (Nat.le_of_ble_eq_true rfl)⟩ ⟨(Nat.le_of_ble_eq_true rfl), (Nat.le_of_ble_eq_true rfl)⟩ ?_
  refine W.eq (g2 := F0 m 8 ls (.int q1 :: [])) rfl ?_
  refine lv_if_ne (tgt := 14) hx hb dX11_about_8 (by decide) (fun h2 => ?_) (fun h2 => ?_)
  · have hf := o_f h2 hf
    refine lv_iload_n hx hb dX11_about_14 rfl (lv_at hl 2 rfl) ?_
    refine lv_if_lt (tgt := 24) hx hb dX11_about_15 (by decide) (fun h3 => ?_) (fun h3 => ?_)
    · have hf := o_t h3 hf
      refine lv_bipush (v := (-102)) hx hb dX11_about_24 (by decide) ?_
      cases hf
      exact r_ci F hQ ⟨rfl, rfl⟩ hw dX11_about_26
    · have hf := o_f h3 hf
      refine lv_iload_n hx hb dX11_about_18 rfl (lv_at hl 2 rfl) ?_
      refine lv_bipush (v := 9) hx hb dX11_about_19 (by decide) ?_
      refine lv_icmp_le (tgt := 27) hx hb dX11_about_21 (by decide) (fun h4 => ?_) (fun h4 => ?_)
      · have hf := o_t h4 hf
        refine lv_iload_n hx hb dX11_about_27 rfl (lv_at hl 2 rfl) ?_
        refine lv_iconst (v := 5) hx hb dX11_about_28 (by decide) ?_
        refine lv_icmp_lt (tgt := 45) hx hb dX11_about_29 (by decide) (fun h5 => ?_) (fun h5 => ?_)
        · have hf := o_t h5 hf
          refine lv_aload_n hx hb dX11_about_45 rfl (lv_at hl 0 rfl) ?_
          refine w_get (ci := 11) F hK hP fb_X11 0 rfl rfl 1 (by decide) fl_X11_27 (fun _ h => h) rfl dX11_about_46 ?_
          refine w_get (ci := 6) F hK hP fb_X4 6 rfl rfl 0 (by decide) fl_X11_88 (fun _ h => h) rfl dX11_about_49 ?_
          refine lv_iload_n hx hb dX11_about_52 rfl (lv_at hl 1 rfl) ?_
          obtain ⟨h6, hf⟩ := o_chk hf
          refine w_aald F hK hP 7 rfl h6 dX11_about_53 ?_
          refine lv_astore_n (lv' := [(3, .ref (sa (Int32.toNatClampNeg x1))), (0, .ref a_this), (1, .int x1), (2, .int x2)]) hx hb dX11_about_54 rfl hl (by decide) rfl (fun ls hl => ?_)
          refine lv_iload_n hx hb dX11_about_55 rfl (lv_at hl 3 rfl) ?_
          by_cases h7 : x2 = 0
          · have hf := o_t h7 hf
            refine lv_tableIn (off := 52) (tgt := 108) hx hb dX11_about_56 (by rw [h7]; decide) (by rw [h7]; decide) (by rw [h7]; rfl) (by decide) ?_
            refine lv_aload_n hx hb dX11_about_108 rfl (lv_at hl 0 rfl) ?_
            refine s_kind F hK hP (in5 h6) hK5 hl.1 (Nat.le_of_ble_eq_true rfl) (Nat.le_of_ble_eq_true rfl) (Nat.le_of_ble_eq_true rfl) (Nat.le_of_ble_eq_true rfl) (Nat.le_of_ble_eq_true rfl) dX11_about_109 ?_
            cases hf
            exact r_ci F hQ ⟨rfl, rfl⟩ hw dX11_about_112
          · have hf := o_f h7 hf
            by_cases h8 : x2 = 1
            · have hf := o_t h8 hf
              refine lv_tableIn (off := 57) (tgt := 113) hx hb dX11_about_56 (by rw [h8]; decide) (by rw [h8]; decide) (by rw [h8]; rfl) (by decide) ?_
              refine lv_aload_n hx hb dX11_about_113 rfl (lv_at hl 0 rfl) ?_
              refine s_get F hK hP (in5 h6) hK5 2 rfl fl_X11_97 dX11_about_114 ?_
              cases hf
              exact r_ci F hQ ⟨rfl, rfl⟩ hw dX11_about_117
            · have hf := o_f h8 hf
              by_cases h9 : x2 = 2
              · have hf := o_t h9 hf
                refine lv_tableIn (off := 62) (tgt := 118) hx hb dX11_about_56 (by rw [h9]; decide) (by rw [h9]; decide) (by rw [h9]; rfl) (by decide) ?_
                refine lv_aload_n hx hb dX11_about_118 rfl (lv_at hl 0 rfl) ?_
                refine s_get F hK hP (in5 h6) hK5 0 rfl fl_X11_100 dX11_about_119 ?_
                cases hf
                exact r_ci F hQ ⟨rfl, rfl⟩ hw dX11_about_122
              · have hf := o_f h9 hf
                by_cases h10 : x2 = 3
                · have hf := o_t h10 hf
                  refine lv_tableIn (off := 67) (tgt := 123) hx hb dX11_about_56 (by rw [h10]; decide) (by rw [h10]; decide) (by rw [h10]; rfl) (by decide) ?_
                  refine lv_aload_n hx hb dX11_about_123 rfl (lv_at hl 0 rfl) ?_
                  refine s_get F hK hP (in5 h6) hK5 1 rfl fl_X11_103 dX11_about_124 ?_
                  cases hf
                  exact r_ci F hQ ⟨rfl, rfl⟩ hw dX11_about_127
                · have hf := o_f h10 hf
                  by_cases h11 : x2 = 4
                  · have hf := o_t h11 hf
                    refine lv_tableIn (off := 72) (tgt := 128) hx hb dX11_about_56 (by rw [h11]; decide) (by rw [h11]; decide) (by rw [h11]; rfl) (by decide) ?_
                    refine lv_aload_n hx hb dX11_about_128 rfl (lv_at hl 0 rfl) ?_
                    refine s_get F hK hP (in5 h6) hK5 3 rfl fl_X11_106 dX11_about_129 ?_
                    cases hf
                    exact r_ci F hQ ⟨rfl, rfl⟩ hw dX11_about_132
                  · have hf := o_f h11 hf
                    by_cases h12 : x2 = 5
                    · have hf := o_t h12 hf
                      refine lv_tableIn (off := 77) (tgt := 133) hx hb dX11_about_56 (by rw [h12]; decide) (by rw [h12]; decide) (by rw [h12]; rfl) (by decide) ?_
                      refine lv_aload_n hx hb dX11_about_133 rfl (lv_at hl 1 rfl) ?_
                      refine w_get (ci := 11) F hK hP fb_X11 0 rfl rfl 2 (by decide) fl_X11_19 (fun _ h => h) rfl dX11_about_134 ?_
                      refine w_get (ci := 7) F hK hP fb_X2 1 rfl rfl 3 (by decide) fl_X11_109 (fun _ h => h) rfl dX11_about_137 ?_
                      refine lv_iload_n hx hb dX11_about_140 rfl (lv_at hl 2 rfl) ?_
                      refine w_iald F hK hP 4 rfl h6 dX11_about_141 ?_
                      cases hf
                      exact r_ci F hQ ⟨rfl, rfl⟩ hw dX11_about_142
                    · have hf := o_f h12 hf
                      by_cases h13 : x2 = 6
                      · have hf := o_t h13 hf
                        refine lv_tableIn (off := 87) (tgt := 143) hx hb dX11_about_56 (by rw [h13]; decide) (by rw [h13]; decide) (by rw [h13]; rfl) (by decide) ?_
                        refine lv_aload_n hx hb dX11_about_143 rfl (lv_at hl 1 rfl) ?_
                        refine w_get (ci := 11) F hK hP fb_X11 0 rfl rfl 2 (by decide) fl_X11_19 (fun _ h => h) rfl dX11_about_144 ?_
                        refine w_get (ci := 7) F hK hP fb_X2 1 rfl rfl 4 (by decide) fl_X11_113 (fun _ h => h) rfl dX11_about_147 ?_
                        refine lv_iload_n hx hb dX11_about_150 rfl (lv_at hl 2 rfl) ?_
                        refine w_iald F hK hP 3 rfl h6 dX11_about_151 ?_
                        cases hf
                        exact r_ci F hQ ⟨rfl, rfl⟩ hw dX11_about_152
                      · have hf := o_f h13 hf
                        by_cases h14 : x2 = 7
                        · have hf := o_t h14 hf
                          refine lv_tableIn (off := 97) (tgt := 153) hx hb dX11_about_56 (by rw [h14]; decide) (by rw [h14]; decide) (by rw [h14]; rfl) (by decide) ?_
                          refine lv_aload_n hx hb dX11_about_153 rfl (lv_at hl 1 rfl) ?_
                          refine w_get (ci := 11) F hK hP fb_X11 0 rfl rfl 2 (by decide) fl_X11_19 (fun _ h => h) rfl dX11_about_154 ?_
                          refine lv_iload_n hx hb dX11_about_157 rfl (lv_at hl 2 rfl) ?_
                          obtain ⟨q15, hq15, hf⟩ := o_bind hf
                          refine k_rV F (c_X2_priceOf l g a_this_course a_this_hall a_this_course_ends a_this_course_touchers a_this_course_stops a_this_course_silences a_this_hall_seats sa x1 v_course_getter v_hall_size v_hall_fall v_course_stops b_K b_su b_wi b_wd b_ch b_tc hK5 hq15) qv_X2_priceOf ml_X11_116 (hP.sub [1, 6, 7, 4, 8, 9, 10, 11, 12] rfl) hK (va_recv hK.1 hP (ci := 7) (q0 := 1) rfl rfl) rfl hl.1 rfl (Nat.le_of_ble_eq_true rfl) dX11_about_158 ⟨(Nat.le_of_ble_eq_true rfl), (Nat.le_of_ble_eq_true rfl)⟩ ⟨(Nat.le_of_ble_eq_true rfl), (Nat.le_of_ble_eq_true rfl)⟩ ?_
                          refine W.eq (g2 := F0 m 161 ls (.int q15 :: [])) rfl ?_
                          cases hf
                          exact r_ci F hQ ⟨rfl, rfl⟩ hw dX11_about_161
                        · have hf := o_f h14 hf
                          by_cases h16 : x2 = 8
                          · have hf := o_t h16 hf
                            refine lv_tableIn (off := 106) (tgt := 162) hx hb dX11_about_56 (by rw [h16]; decide) (by rw [h16]; decide) (by rw [h16]; rfl) (by decide) ?_
                            refine lv_aload_n hx hb dX11_about_162 rfl (lv_at hl 1 rfl) ?_
                            refine w_get (ci := 11) F hK hP fb_X11 0 rfl rfl 2 (by decide) fl_X11_19 (fun _ h => h) rfl dX11_about_163 ?_
                            refine lv_iload_n hx hb dX11_about_166 rfl (lv_at hl 2 rfl) ?_
                            obtain ⟨q17, hq17, hf⟩ := o_bind hf
                            refine k_rV F (c_X2_gainOf l g a_this_course a_this_hall a_this_course_ends a_this_course_touchers a_this_course_stops a_this_course_silences a_this_hall_seats sa x1 v_course_getter v_hall_size v_hall_fall v_course_stops b_K b_su b_wi b_wd b_ch b_tc hK5 hq17) qv_X2_gainOf ml_X11_120 (hP.sub [1, 6, 7, 4, 8, 9, 10, 11, 12] rfl) hK (va_recv hK.1 hP (ci := 7) (q0 := 1) rfl rfl) rfl hl.1 rfl (Nat.le_of_ble_eq_true rfl) dX11_about_167 ⟨(Nat.le_of_ble_eq_true rfl), (Nat.le_of_ble_eq_true rfl)⟩ ⟨(Nat.le_of_ble_eq_true rfl), (Nat.le_of_ble_eq_true rfl)⟩ ?_
                            refine W.eq (g2 := F0 m 170 ls (.int q17 :: [])) rfl ?_
                            cases hf
                            exact r_ci F hQ ⟨rfl, rfl⟩ hw dX11_about_170
                          · have hf := o_f h16 hf
                            refine lv_tableOut (tgt := 171) hx hb dX11_about_56 (by have := tI h7 (k := 0) rfl; have := tI h8 (k := 1) rfl; have := tI h9 (k := 2) rfl; have := tI h10 (k := 3) rfl; have := tI h11 (k := 4) rfl; have := tI h12 (k := 5) rfl; have := tI h13 (k := 6) rfl; have := tI h14 (k := 7) rfl; have := tI h16 (k := 8) rfl; omega) (by decide) ?_
                            refine lv_aload_n hx hb dX11_about_171 rfl (lv_at hl 0 rfl) ?_
                            refine s_get F hK hP (in5 h6) hK5 4 rfl fl_X11_123 dX11_about_172 ?_
                            cases hf
                            exact r_ci F hQ ⟨rfl, rfl⟩ hw dX11_about_175
        · have hf := o_f h5 hf
          refine lv_iload_n hx hb dX11_about_32 rfl (lv_at hl 2 rfl) ?_
          refine lv_bipush (v := 8) hx hb dX11_about_33 (by decide) ?_
          refine lv_icmp_gt (tgt := 45) hx hb dX11_about_35 (by decide) (fun h18 => ?_) (fun h18 => ?_)
          · have hf := o_t h18 hf
            refine lv_aload_n hx hb dX11_about_45 rfl (lv_at hl 0 rfl) ?_
            refine w_get (ci := 11) F hK hP fb_X11 0 rfl rfl 1 (by decide) fl_X11_27 (fun _ h => h) rfl dX11_about_46 ?_
            refine w_get (ci := 6) F hK hP fb_X4 6 rfl rfl 0 (by decide) fl_X11_88 (fun _ h => h) rfl dX11_about_49 ?_
            refine lv_iload_n hx hb dX11_about_52 rfl (lv_at hl 1 rfl) ?_
            obtain ⟨h19, hf⟩ := o_chk hf
            refine w_aald F hK hP 7 rfl h19 dX11_about_53 ?_
            refine lv_astore_n (lv' := [(3, .ref (sa (Int32.toNatClampNeg x1))), (0, .ref a_this), (1, .int x1), (2, .int x2)]) hx hb dX11_about_54 rfl hl (by decide) rfl (fun ls hl => ?_)
            refine lv_iload_n hx hb dX11_about_55 rfl (lv_at hl 3 rfl) ?_
            by_cases h20 : x2 = 0
            · have hf := o_t h20 hf
              refine lv_tableIn (off := 52) (tgt := 108) hx hb dX11_about_56 (by rw [h20]; decide) (by rw [h20]; decide) (by rw [h20]; rfl) (by decide) ?_
              refine lv_aload_n hx hb dX11_about_108 rfl (lv_at hl 0 rfl) ?_
              refine s_kind F hK hP (in5 h19) hK5 hl.1 (Nat.le_of_ble_eq_true rfl) (Nat.le_of_ble_eq_true rfl) (Nat.le_of_ble_eq_true rfl) (Nat.le_of_ble_eq_true rfl) (Nat.le_of_ble_eq_true rfl) dX11_about_109 ?_
              cases hf
              exact r_ci F hQ ⟨rfl, rfl⟩ hw dX11_about_112
            · have hf := o_f h20 hf
              by_cases h21 : x2 = 1
              · have hf := o_t h21 hf
                refine lv_tableIn (off := 57) (tgt := 113) hx hb dX11_about_56 (by rw [h21]; decide) (by rw [h21]; decide) (by rw [h21]; rfl) (by decide) ?_
                refine lv_aload_n hx hb dX11_about_113 rfl (lv_at hl 0 rfl) ?_
                refine s_get F hK hP (in5 h19) hK5 2 rfl fl_X11_97 dX11_about_114 ?_
                cases hf
                exact r_ci F hQ ⟨rfl, rfl⟩ hw dX11_about_117
              · have hf := o_f h21 hf
                by_cases h22 : x2 = 2
                · have hf := o_t h22 hf
                  refine lv_tableIn (off := 62) (tgt := 118) hx hb dX11_about_56 (by rw [h22]; decide) (by rw [h22]; decide) (by rw [h22]; rfl) (by decide) ?_
                  refine lv_aload_n hx hb dX11_about_118 rfl (lv_at hl 0 rfl) ?_
                  refine s_get F hK hP (in5 h19) hK5 0 rfl fl_X11_100 dX11_about_119 ?_
                  cases hf
                  exact r_ci F hQ ⟨rfl, rfl⟩ hw dX11_about_122
                · have hf := o_f h22 hf
                  by_cases h23 : x2 = 3
                  · have hf := o_t h23 hf
                    refine lv_tableIn (off := 67) (tgt := 123) hx hb dX11_about_56 (by rw [h23]; decide) (by rw [h23]; decide) (by rw [h23]; rfl) (by decide) ?_
                    refine lv_aload_n hx hb dX11_about_123 rfl (lv_at hl 0 rfl) ?_
                    refine s_get F hK hP (in5 h19) hK5 1 rfl fl_X11_103 dX11_about_124 ?_
                    cases hf
                    exact r_ci F hQ ⟨rfl, rfl⟩ hw dX11_about_127
                  · have hf := o_f h23 hf
                    by_cases h24 : x2 = 4
                    · have hf := o_t h24 hf
                      refine lv_tableIn (off := 72) (tgt := 128) hx hb dX11_about_56 (by rw [h24]; decide) (by rw [h24]; decide) (by rw [h24]; rfl) (by decide) ?_
                      refine lv_aload_n hx hb dX11_about_128 rfl (lv_at hl 0 rfl) ?_
                      refine s_get F hK hP (in5 h19) hK5 3 rfl fl_X11_106 dX11_about_129 ?_
                      cases hf
                      exact r_ci F hQ ⟨rfl, rfl⟩ hw dX11_about_132
                    · have hf := o_f h24 hf
                      by_cases h25 : x2 = 5
                      · have hf := o_t h25 hf
                        refine lv_tableIn (off := 77) (tgt := 133) hx hb dX11_about_56 (by rw [h25]; decide) (by rw [h25]; decide) (by rw [h25]; rfl) (by decide) ?_
                        refine lv_aload_n hx hb dX11_about_133 rfl (lv_at hl 1 rfl) ?_
                        refine w_get (ci := 11) F hK hP fb_X11 0 rfl rfl 2 (by decide) fl_X11_19 (fun _ h => h) rfl dX11_about_134 ?_
                        refine w_get (ci := 7) F hK hP fb_X2 1 rfl rfl 3 (by decide) fl_X11_109 (fun _ h => h) rfl dX11_about_137 ?_
                        refine lv_iload_n hx hb dX11_about_140 rfl (lv_at hl 2 rfl) ?_
                        refine w_iald F hK hP 4 rfl h19 dX11_about_141 ?_
                        cases hf
                        exact r_ci F hQ ⟨rfl, rfl⟩ hw dX11_about_142
                      · have hf := o_f h25 hf
                        by_cases h26 : x2 = 6
                        · have hf := o_t h26 hf
                          refine lv_tableIn (off := 87) (tgt := 143) hx hb dX11_about_56 (by rw [h26]; decide) (by rw [h26]; decide) (by rw [h26]; rfl) (by decide) ?_
                          refine lv_aload_n hx hb dX11_about_143 rfl (lv_at hl 1 rfl) ?_
                          refine w_get (ci := 11) F hK hP fb_X11 0 rfl rfl 2 (by decide) fl_X11_19 (fun _ h => h) rfl dX11_about_144 ?_
                          refine w_get (ci := 7) F hK hP fb_X2 1 rfl rfl 4 (by decide) fl_X11_113 (fun _ h => h) rfl dX11_about_147 ?_
                          refine lv_iload_n hx hb dX11_about_150 rfl (lv_at hl 2 rfl) ?_
                          refine w_iald F hK hP 3 rfl h19 dX11_about_151 ?_
                          cases hf
                          exact r_ci F hQ ⟨rfl, rfl⟩ hw dX11_about_152
                        · have hf := o_f h26 hf
                          by_cases h27 : x2 = 7
                          · have hf := o_t h27 hf
                            refine lv_tableIn (off := 97) (tgt := 153) hx hb dX11_about_56 (by rw [h27]; decide) (by rw [h27]; decide) (by rw [h27]; rfl) (by decide) ?_
                            refine lv_aload_n hx hb dX11_about_153 rfl (lv_at hl 1 rfl) ?_
                            refine w_get (ci := 11) F hK hP fb_X11 0 rfl rfl 2 (by decide) fl_X11_19 (fun _ h => h) rfl dX11_about_154 ?_
                            refine lv_iload_n hx hb dX11_about_157 rfl (lv_at hl 2 rfl) ?_
                            obtain ⟨q28, hq28, hf⟩ := o_bind hf
                            refine k_rV F (c_X2_priceOf l g a_this_course a_this_hall a_this_course_ends a_this_course_touchers a_this_course_stops a_this_course_silences a_this_hall_seats sa x1 v_course_getter v_hall_size v_hall_fall v_course_stops b_K b_su b_wi b_wd b_ch b_tc hK5 hq28) qv_X2_priceOf ml_X11_116 (hP.sub [1, 6, 7, 4, 8, 9, 10, 11, 12] rfl) hK (va_recv hK.1 hP (ci := 7) (q0 := 1) rfl rfl) rfl hl.1 rfl (Nat.le_of_ble_eq_true rfl) dX11_about_158 ⟨(Nat.le_of_ble_eq_true rfl), (Nat.le_of_ble_eq_true rfl)⟩ ⟨(Nat.le_of_ble_eq_true rfl), (Nat.le_of_ble_eq_true rfl)⟩ ?_
                            refine W.eq (g2 := F0 m 161 ls (.int q28 :: [])) rfl ?_
                            cases hf
                            exact r_ci F hQ ⟨rfl, rfl⟩ hw dX11_about_161
                          · have hf := o_f h27 hf
                            by_cases h29 : x2 = 8
                            · have hf := o_t h29 hf
                              refine lv_tableIn (off := 106) (tgt := 162) hx hb dX11_about_56 (by rw [h29]; decide) (by rw [h29]; decide) (by rw [h29]; rfl) (by decide) ?_
                              refine lv_aload_n hx hb dX11_about_162 rfl (lv_at hl 1 rfl) ?_
                              refine w_get (ci := 11) F hK hP fb_X11 0 rfl rfl 2 (by decide) fl_X11_19 (fun _ h => h) rfl dX11_about_163 ?_
                              refine lv_iload_n hx hb dX11_about_166 rfl (lv_at hl 2 rfl) ?_
                              obtain ⟨q30, hq30, hf⟩ := o_bind hf
                              refine k_rV F (c_X2_gainOf l g a_this_course a_this_hall a_this_course_ends a_this_course_touchers a_this_course_stops a_this_course_silences a_this_hall_seats sa x1 v_course_getter v_hall_size v_hall_fall v_course_stops b_K b_su b_wi b_wd b_ch b_tc hK5 hq30) qv_X2_gainOf ml_X11_120 (hP.sub [1, 6, 7, 4, 8, 9, 10, 11, 12] rfl) hK (va_recv hK.1 hP (ci := 7) (q0 := 1) rfl rfl) rfl hl.1 rfl (Nat.le_of_ble_eq_true rfl) dX11_about_167 ⟨(Nat.le_of_ble_eq_true rfl), (Nat.le_of_ble_eq_true rfl)⟩ ⟨(Nat.le_of_ble_eq_true rfl), (Nat.le_of_ble_eq_true rfl)⟩ ?_
                              refine W.eq (g2 := F0 m 170 ls (.int q30 :: [])) rfl ?_
                              cases hf
                              exact r_ci F hQ ⟨rfl, rfl⟩ hw dX11_about_170
                            · have hf := o_f h29 hf
                              refine lv_tableOut (tgt := 171) hx hb dX11_about_56 (by have := tI h20 (k := 0) rfl; have := tI h21 (k := 1) rfl; have := tI h22 (k := 2) rfl; have := tI h23 (k := 3) rfl; have := tI h24 (k := 4) rfl; have := tI h25 (k := 5) rfl; have := tI h26 (k := 6) rfl; have := tI h27 (k := 7) rfl; have := tI h29 (k := 8) rfl; omega) (by decide) ?_
                              refine lv_aload_n hx hb dX11_about_171 rfl (lv_at hl 0 rfl) ?_
                              refine s_get F hK hP (in5 h19) hK5 4 rfl fl_X11_123 dX11_about_172 ?_
                              cases hf
                              exact r_ci F hQ ⟨rfl, rfl⟩ hw dX11_about_175
          · have hf := o_f h18 hf
            refine lv_aload_n hx hb dX11_about_38 rfl (lv_at hl 0 rfl) ?_
            refine w_get (ci := 11) F hK hP fb_X11 0 rfl rfl 2 (by decide) fl_X11_19 (fun _ h => h) rfl dX11_about_39 ?_
            obtain ⟨q31, hq31, hf⟩ := o_bind hf
            refine k_dV (wr := [ob a_this 11 [.ref a_this_page, .ref a_this_hall, .ref a_this_course, .ref a_this_heard, .ref a_this_image, .ref a_this_rests, .int v_hallsRead, .int v_restsDone]]) (ws' := ([ob a_this 11 [.ref a_this_page, .ref a_this_hall, .ref a_this_course, .ref a_this_heard, .ref a_this_image, .ref a_this_rests, .int v_hallsRead, .int v_restsDone], ob a_this_course 7 [.ref a_this_hall, .ref a_this_course_ends, .ref a_this_course_touchers, .ref a_this_course_stops, .ref a_this_course_silences, .int q31.2.1], ia g a_this_course_ends 5 q31.1, ia g a_this_course_silences 5 q31.2.2.1, ia g a_this_course_stops 5 q31.2.2.2.1, ia g a_this_course_touchers 5 q31.2.2.2.2, ob a_this_hall 6 [.ref a_this_hall_seats, .int v_hall_size, .int v_hall_fall], ra g a_this_hall_seats 5 (fun i => some (sa i))] ++ swl sa b_K b_su b_wi b_wd b_ch b_tc)) F (c_X2_runAsItIs l g a_this_course a_this_hall a_this_course_ends a_this_course_touchers a_this_course_stops a_this_course_silences a_this_hall_seats sa v_course_getter v_course_ends v_hall_size v_hall_fall v_course_silences v_course_stops v_course_touchers b_K b_su b_wi b_wd b_ch b_tc hK5 hq31) qv_X2_runAsItIs ml_X11_85 hw hA hK [1, 2, 6, 7, 3, 4, 5, 8, 9, 10, 11, 12] [0] [0, 1, 2, 5, 6, 7, 3, 4, 8, 9, 10, 11, 12] rfl rfl rfl rfl rfl (by decide) rfl rfl rfl (va_recv hK.1 hP (ci := 7) (q0 := 1) rfl rfl) rfl hl.1 rfl (Nat.le_of_ble_eq_true rfl) dX11_about_42 ⟨(Nat.le_of_ble_eq_true rfl), (Nat.le_of_ble_eq_true rfl)⟩ ⟨(Nat.le_of_ble_eq_true rfl), (Nat.le_of_ble_eq_true rfl)⟩ (fun H locs hw => ?_)
            have hP := hw.1
            refine W.eq (g2 := F0 m 45 ls ([])) rfl ?_
            refine lv_aload_n hx hb dX11_about_45 rfl (lv_at hl 0 rfl) ?_
            refine w_get (ci := 11) F hK hP fb_X11 0 rfl rfl 1 (by decide) fl_X11_27 (fun _ h => h) rfl dX11_about_46 ?_
            refine w_get (ci := 6) F hK hP fb_X4 6 rfl rfl 0 (by decide) fl_X11_88 (fun _ h => h) rfl dX11_about_49 ?_
            refine lv_iload_n hx hb dX11_about_52 rfl (lv_at hl 1 rfl) ?_
            obtain ⟨h32, hf⟩ := o_chk hf
            refine w_aald F hK hP 7 rfl h32 dX11_about_53 ?_
            refine lv_astore_n (lv' := [(3, .ref (sa (Int32.toNatClampNeg x1))), (0, .ref a_this), (1, .int x1), (2, .int x2)]) hx hb dX11_about_54 rfl hl (by decide) rfl (fun ls hl => ?_)
            refine lv_iload_n hx hb dX11_about_55 rfl (lv_at hl 3 rfl) ?_
            by_cases h33 : x2 = 0
            · have hf := o_t h33 hf
              refine lv_tableIn (off := 52) (tgt := 108) hx hb dX11_about_56 (by rw [h33]; decide) (by rw [h33]; decide) (by rw [h33]; rfl) (by decide) ?_
              refine lv_aload_n hx hb dX11_about_108 rfl (lv_at hl 0 rfl) ?_
              refine s_kind F hK hP (in5 h32) hK5 hl.1 (Nat.le_of_ble_eq_true rfl) (Nat.le_of_ble_eq_true rfl) (Nat.le_of_ble_eq_true rfl) (Nat.le_of_ble_eq_true rfl) (Nat.le_of_ble_eq_true rfl) dX11_about_109 ?_
              cases hf
              exact r_ci F hQ ⟨rfl, rfl⟩ hw dX11_about_112
            · have hf := o_f h33 hf
              by_cases h34 : x2 = 1
              · have hf := o_t h34 hf
                refine lv_tableIn (off := 57) (tgt := 113) hx hb dX11_about_56 (by rw [h34]; decide) (by rw [h34]; decide) (by rw [h34]; rfl) (by decide) ?_
                refine lv_aload_n hx hb dX11_about_113 rfl (lv_at hl 0 rfl) ?_
                refine s_get F hK hP (in5 h32) hK5 2 rfl fl_X11_97 dX11_about_114 ?_
                cases hf
                exact r_ci F hQ ⟨rfl, rfl⟩ hw dX11_about_117
              · have hf := o_f h34 hf
                by_cases h35 : x2 = 2
                · have hf := o_t h35 hf
                  refine lv_tableIn (off := 62) (tgt := 118) hx hb dX11_about_56 (by rw [h35]; decide) (by rw [h35]; decide) (by rw [h35]; rfl) (by decide) ?_
                  refine lv_aload_n hx hb dX11_about_118 rfl (lv_at hl 0 rfl) ?_
                  refine s_get F hK hP (in5 h32) hK5 0 rfl fl_X11_100 dX11_about_119 ?_
                  cases hf
                  exact r_ci F hQ ⟨rfl, rfl⟩ hw dX11_about_122
                · have hf := o_f h35 hf
                  by_cases h36 : x2 = 3
                  · have hf := o_t h36 hf
                    refine lv_tableIn (off := 67) (tgt := 123) hx hb dX11_about_56 (by rw [h36]; decide) (by rw [h36]; decide) (by rw [h36]; rfl) (by decide) ?_
                    refine lv_aload_n hx hb dX11_about_123 rfl (lv_at hl 0 rfl) ?_
                    refine s_get F hK hP (in5 h32) hK5 1 rfl fl_X11_103 dX11_about_124 ?_
                    cases hf
                    exact r_ci F hQ ⟨rfl, rfl⟩ hw dX11_about_127
                  · have hf := o_f h36 hf
                    by_cases h37 : x2 = 4
                    · have hf := o_t h37 hf
                      refine lv_tableIn (off := 72) (tgt := 128) hx hb dX11_about_56 (by rw [h37]; decide) (by rw [h37]; decide) (by rw [h37]; rfl) (by decide) ?_
                      refine lv_aload_n hx hb dX11_about_128 rfl (lv_at hl 0 rfl) ?_
                      refine s_get F hK hP (in5 h32) hK5 3 rfl fl_X11_106 dX11_about_129 ?_
                      cases hf
                      exact r_ci F hQ ⟨rfl, rfl⟩ hw dX11_about_132
                    · have hf := o_f h37 hf
                      by_cases h38 : x2 = 5
                      · have hf := o_t h38 hf
                        refine lv_tableIn (off := 77) (tgt := 133) hx hb dX11_about_56 (by rw [h38]; decide) (by rw [h38]; decide) (by rw [h38]; rfl) (by decide) ?_
                        refine lv_aload_n hx hb dX11_about_133 rfl (lv_at hl 1 rfl) ?_
                        refine w_get (ci := 11) F hK hP fb_X11 0 rfl rfl 2 (by decide) fl_X11_19 (fun _ h => h) rfl dX11_about_134 ?_
                        refine w_get (ci := 7) F hK hP fb_X2 1 rfl rfl 3 (by decide) fl_X11_109 (fun _ h => h) rfl dX11_about_137 ?_
                        refine lv_iload_n hx hb dX11_about_140 rfl (lv_at hl 2 rfl) ?_
                        refine w_iald F hK hP 4 rfl h32 dX11_about_141 ?_
                        cases hf
                        exact r_ci F hQ ⟨rfl, rfl⟩ hw dX11_about_142
                      · have hf := o_f h38 hf
                        by_cases h39 : x2 = 6
                        · have hf := o_t h39 hf
                          refine lv_tableIn (off := 87) (tgt := 143) hx hb dX11_about_56 (by rw [h39]; decide) (by rw [h39]; decide) (by rw [h39]; rfl) (by decide) ?_
                          refine lv_aload_n hx hb dX11_about_143 rfl (lv_at hl 1 rfl) ?_
                          refine w_get (ci := 11) F hK hP fb_X11 0 rfl rfl 2 (by decide) fl_X11_19 (fun _ h => h) rfl dX11_about_144 ?_
                          refine w_get (ci := 7) F hK hP fb_X2 1 rfl rfl 4 (by decide) fl_X11_113 (fun _ h => h) rfl dX11_about_147 ?_
                          refine lv_iload_n hx hb dX11_about_150 rfl (lv_at hl 2 rfl) ?_
                          refine w_iald F hK hP 3 rfl h32 dX11_about_151 ?_
                          cases hf
                          exact r_ci F hQ ⟨rfl, rfl⟩ hw dX11_about_152
                        · have hf := o_f h39 hf
                          by_cases h40 : x2 = 7
                          · have hf := o_t h40 hf
                            refine lv_tableIn (off := 97) (tgt := 153) hx hb dX11_about_56 (by rw [h40]; decide) (by rw [h40]; decide) (by rw [h40]; rfl) (by decide) ?_
                            refine lv_aload_n hx hb dX11_about_153 rfl (lv_at hl 1 rfl) ?_
                            refine w_get (ci := 11) F hK hP fb_X11 0 rfl rfl 2 (by decide) fl_X11_19 (fun _ h => h) rfl dX11_about_154 ?_
                            refine lv_iload_n hx hb dX11_about_157 rfl (lv_at hl 2 rfl) ?_
                            obtain ⟨q41, hq41, hf⟩ := o_bind hf
                            refine k_rV F (c_X2_priceOf l g a_this_course a_this_hall a_this_course_ends a_this_course_touchers a_this_course_stops a_this_course_silences a_this_hall_seats sa x1 q31.2.1 v_hall_size v_hall_fall q31.2.2.2.1 b_K b_su b_wi b_wd b_ch b_tc hK5 hq41) qv_X2_priceOf ml_X11_116 (hP.sub [1, 6, 7, 4, 8, 9, 10, 11, 12] rfl) hK (va_recv hK.1 hP (ci := 7) (q0 := 1) rfl rfl) rfl hl.1 rfl (Nat.le_of_ble_eq_true rfl) dX11_about_158 ⟨(Nat.le_of_ble_eq_true rfl), (Nat.le_of_ble_eq_true rfl)⟩ ⟨(Nat.le_of_ble_eq_true rfl), (Nat.le_of_ble_eq_true rfl)⟩ ?_
                            refine W.eq (g2 := F0 m 161 ls (.int q41 :: [])) rfl ?_
                            cases hf
                            exact r_ci F hQ ⟨rfl, rfl⟩ hw dX11_about_161
                          · have hf := o_f h40 hf
                            by_cases h42 : x2 = 8
                            · have hf := o_t h42 hf
                              refine lv_tableIn (off := 106) (tgt := 162) hx hb dX11_about_56 (by rw [h42]; decide) (by rw [h42]; decide) (by rw [h42]; rfl) (by decide) ?_
                              refine lv_aload_n hx hb dX11_about_162 rfl (lv_at hl 1 rfl) ?_
                              refine w_get (ci := 11) F hK hP fb_X11 0 rfl rfl 2 (by decide) fl_X11_19 (fun _ h => h) rfl dX11_about_163 ?_
                              refine lv_iload_n hx hb dX11_about_166 rfl (lv_at hl 2 rfl) ?_
                              obtain ⟨q43, hq43, hf⟩ := o_bind hf
                              refine k_rV F (c_X2_gainOf l g a_this_course a_this_hall a_this_course_ends a_this_course_touchers a_this_course_stops a_this_course_silences a_this_hall_seats sa x1 q31.2.1 v_hall_size v_hall_fall q31.2.2.2.1 b_K b_su b_wi b_wd b_ch b_tc hK5 hq43) qv_X2_gainOf ml_X11_120 (hP.sub [1, 6, 7, 4, 8, 9, 10, 11, 12] rfl) hK (va_recv hK.1 hP (ci := 7) (q0 := 1) rfl rfl) rfl hl.1 rfl (Nat.le_of_ble_eq_true rfl) dX11_about_167 ⟨(Nat.le_of_ble_eq_true rfl), (Nat.le_of_ble_eq_true rfl)⟩ ⟨(Nat.le_of_ble_eq_true rfl), (Nat.le_of_ble_eq_true rfl)⟩ ?_
                              refine W.eq (g2 := F0 m 170 ls (.int q43 :: [])) rfl ?_
                              cases hf
                              exact r_ci F hQ ⟨rfl, rfl⟩ hw dX11_about_170
                            · have hf := o_f h42 hf
                              refine lv_tableOut (tgt := 171) hx hb dX11_about_56 (by have := tI h33 (k := 0) rfl; have := tI h34 (k := 1) rfl; have := tI h35 (k := 2) rfl; have := tI h36 (k := 3) rfl; have := tI h37 (k := 4) rfl; have := tI h38 (k := 5) rfl; have := tI h39 (k := 6) rfl; have := tI h40 (k := 7) rfl; have := tI h42 (k := 8) rfl; omega) (by decide) ?_
                              refine lv_aload_n hx hb dX11_about_171 rfl (lv_at hl 0 rfl) ?_
                              refine s_get F hK hP (in5 h32) hK5 4 rfl fl_X11_123 dX11_about_172 ?_
                              cases hf
                              exact r_ci F hQ ⟨rfl, rfl⟩ hw dX11_about_175
      · have hf := o_f h4 hf
        refine lv_bipush (v := (-102)) hx hb dX11_about_24 (by decide) ?_
        cases hf
        exact r_ci F hQ ⟨rfl, rfl⟩ hw dX11_about_26
  · have hf := o_t h2 hf
    refine lv_bipush (v := (-101)) hx hb dX11_about_11 (by decide) ?_
    cases hf
    exact r_ci F hQ ⟨rfl, rfl⟩ hw dX11_about_13
def f_X11_as (x1 : Int32) (x2 : Int32) (b_K : Nat → Nat) (v_hall_size : Int32) : Option (Int32) := ((f_X4_has x1 v_hall_size).bind fun q1 => (if q1 = 0 then (some (-101)) else (if x2 < 0 then (some (-102)) else (if x2 ≤ 4 then (if x1 < 0 ∨ 5 ≤ Int32.toNatClampNeg x1 then none else ((f_X11_isOfKind (b_K (Int32.toNatClampNeg x1)) x2).bind fun q6 => (if q6 = 0 then (some (-1)) else (some x1)))) else (some (-102))))))
set_option maxRecDepth 100000 in
set_option maxHeartbeats 4000000 in
theorem c_X11_as (l : Launch) (g : GG) (a_this : Nat) (a_this_page : Nat) (a_this_hall : Nat) (a_this_course : Nat) (a_this_heard : Nat) (a_this_image : Nat) (a_this_rests : Nat) (a_this_hall_seats : Nat) (sa : Nat → Nat) (x1 : Int32) (x2 : Int32) (v_hallsRead : Int32) (v_restsDone : Int32) (v_hall_size : Int32) (v_hall_fall : Int32) (b_K : Nat → Nat) (b_su : Nat → Int32) (b_wi : Nat → Int32) (b_wd : Nat → Int32) (b_ch : Nat → Int32) (b_tc : Nat → Int32) (hK5 : ∀ i, b_K i < 5) {r0 : Int32} (hf : f_X11_as x1 x2 b_K v_hall_size = some r0) : MR l g yX11_as cX11_as 3 (some .int) 1 21 [.ref a_this, .int x1, .int x2] ([ob a_this 11 [.ref a_this_page, .ref a_this_hall, .ref a_this_course, .ref a_this_heard, .ref a_this_image, .ref a_this_rests, .int v_hallsRead, .int v_restsDone], ob a_this_hall 6 [.ref a_this_hall_seats, .int v_hall_size, .int v_hall_fall], ra g a_this_hall_seats 5 (fun i => some (sa i))] ++ swl sa b_K b_su b_wi b_wd b_ch b_tc) (some (.int r0)) := by
  refine MR.mk (by decide) (Nat.le_of_ble_eq_true rfl) ?_
  intro p e s m args below meth c ls Q F hK hP hl hQ
  have hx := F.1
  have hb := F.2.1
  have hml := F.2.2.2.1
  have hown := F.2.2.2.2.1
  have hts := F.2.2.2.2.2.1
  have hl : lv_has ls 3 [(0, .ref a_this), (1, .int x1), (2, .int x2)] := hl
  unfold f_X11_as at hf
  refine lv_aload_n hx hb dX11_as_0 rfl (lv_at hl 0 rfl) ?_
  refine w_get (ci := 11) F hK hP fb_X11 0 rfl rfl 1 (by decide) fl_X11_27 (fun _ h => h) rfl dX11_as_1 ?_
  refine lv_iload_n hx hb dX11_as_4 rfl (lv_at hl 1 rfl) ?_
  obtain ⟨q1, hq1, hf⟩ := o_bind hf
  refine k_rV F (c_X4_has l g a_this_hall a_this_hall_seats x1 v_hall_size v_hall_fall hq1) qv_X4_has ml_X11_81 (hP.sub [1] rfl) hK (va_recv hK.1 hP (ci := 6) (q0 := 1) rfl rfl) rfl hl.1 rfl (Nat.le_of_ble_eq_true rfl) dX11_as_5 ⟨(Nat.le_of_ble_eq_true rfl), (Nat.le_of_ble_eq_true rfl)⟩ ⟨(Nat.le_of_ble_eq_true rfl), (Nat.le_of_ble_eq_true rfl)⟩ ?_
  refine W.eq (g2 := F0 m 8 ls (.int q1 :: [])) rfl ?_
  refine lv_if_ne (tgt := 14) hx hb dX11_as_8 (by decide) (fun h2 => ?_) (fun h2 => ?_)
  · have hf := o_f h2 hf
    refine lv_iload_n hx hb dX11_as_14 rfl (lv_at hl 2 rfl) ?_
    refine lv_if_lt (tgt := 23) hx hb dX11_as_15 (by decide) (fun h3 => ?_) (fun h3 => ?_)
    · have hf := o_t h3 hf
      refine lv_bipush (v := (-102)) hx hb dX11_as_23 (by decide) ?_
      exact r_ri F hQ (Option.some.inj hf) dX11_as_25
    · have hf := o_f h3 hf
      refine lv_iload_n hx hb dX11_as_18 rfl (lv_at hl 2 rfl) ?_
      refine lv_iconst (v := 4) hx hb dX11_as_19 (by decide) ?_
      refine lv_icmp_le (tgt := 26) hx hb dX11_as_20 (by decide) (fun h4 => ?_) (fun h4 => ?_)
      · have hf := o_t h4 hf
        refine lv_aload_n hx hb dX11_as_26 rfl (lv_at hl 0 rfl) ?_
        refine w_get (ci := 11) F hK hP fb_X11 0 rfl rfl 1 (by decide) fl_X11_27 (fun _ h => h) rfl dX11_as_27 ?_
        refine w_get (ci := 6) F hK hP fb_X4 1 rfl rfl 0 (by decide) fl_X11_88 (fun _ h => h) rfl dX11_as_30 ?_
        refine lv_iload_n hx hb dX11_as_33 rfl (lv_at hl 1 rfl) ?_
        obtain ⟨h5, hf⟩ := o_chk hf
        refine w_aald F hK hP 2 rfl h5 dX11_as_34 ?_
        refine lv_iload_n hx hb dX11_as_35 rfl (lv_at hl 2 rfl) ?_
        obtain ⟨q6, hq6, hf⟩ := o_bind hf
        refine s_isOfKind F hK hP (in5 h5) hK5 hq6 hl.1 (Nat.le_of_ble_eq_true rfl) (Nat.le_of_ble_eq_true rfl) (Nat.le_of_ble_eq_true rfl) (Nat.le_of_ble_eq_true rfl) (Nat.le_of_ble_eq_true rfl) dX11_as_36 ?_
        refine lv_if_eq (tgt := 46) hx hb dX11_as_39 (by decide) (fun h7 => ?_) (fun h7 => ?_)
        · have hf := o_t h7 hf
          refine lv_iconst (v := (-1)) hx hb dX11_as_46 (by decide) ?_
          exact r_ri F hQ (Option.some.inj hf) dX11_as_47
        · have hf := o_f h7 hf
          refine lv_iload_n hx hb dX11_as_42 rfl (lv_at hl 1 rfl) ?_
          refine lv_goto (tgt := 47) hx hb dX11_as_43 (by decide) ?_
          exact r_ri F hQ (Option.some.inj hf) dX11_as_47
      · have hf := o_f h4 hf
        refine lv_bipush (v := (-102)) hx hb dX11_as_23 (by decide) ?_
        exact r_ri F hQ (Option.some.inj hf) dX11_as_25
  · have hf := o_t h2 hf
    refine lv_bipush (v := (-101)) hx hb dX11_as_11 (by decide) ?_
    exact r_ri F hQ (Option.some.inj hf) dX11_as_13
def f_X11_choose (x1 : Int32) (x2 : Int32) (b_ch : Nat → Int32) (v_hall_size : Int32) : Option (Int32 × (Nat → Int32)) := ((f_X4_has x1 v_hall_size).bind fun q1 => (if q1 = 0 then (some ((-101), b_ch)) else (if x2 = (-1) then (if x1 < 0 ∨ 5 ≤ Int32.toNatClampNeg x1 then none else (bnd (b_ch (Int32.toNatClampNeg x1)) fun z5 => (some (z5, (upd b_ch (Int32.toNatClampNeg x1) x2))))) else (if x2 < 1 then (some ((-102), b_ch)) else (if x2 ≤ 30 then (if x1 < 0 ∨ 5 ≤ Int32.toNatClampNeg x1 then none else (bnd (b_ch (Int32.toNatClampNeg x1)) fun z9 => (some (z9, (upd b_ch (Int32.toNatClampNeg x1) x2))))) else (some ((-102), b_ch)))))))
set_option maxRecDepth 100000 in
set_option maxHeartbeats 4000000 in
theorem c_X11_choose (l : Launch) (g : GG) (a_this : Nat) (a_this_page : Nat) (a_this_hall : Nat) (a_this_course : Nat) (a_this_heard : Nat) (a_this_image : Nat) (a_this_rests : Nat) (a_this_hall_seats : Nat) (sa : Nat → Nat) (x1 : Int32) (x2 : Int32) (v_hallsRead : Int32) (v_restsDone : Int32) (v_hall_size : Int32) (v_hall_fall : Int32) (b_K : Nat → Nat) (b_su : Nat → Int32) (b_wi : Nat → Int32) (b_wd : Nat → Int32) (b_ch : Nat → Int32) (b_tc : Nat → Int32) (hK5 : ∀ i, b_K i < 5) {r0 : Int32} {r1 : Nat → Int32} (hf : f_X11_choose x1 x2 b_ch v_hall_size = some (r0, r1)) : MD l g yX11_choose cX11_choose 5 (some .int) 1 21 [.ref a_this, .int x1, .int x2] ([ob a_this 11 [.ref a_this_page, .ref a_this_hall, .ref a_this_course, .ref a_this_heard, .ref a_this_image, .ref a_this_rests, .int v_hallsRead, .int v_restsDone], ob a_this_hall 6 [.ref a_this_hall_seats, .int v_hall_size, .int v_hall_fall], ra g a_this_hall_seats 5 (fun i => some (sa i))] ++ swl sa b_K b_su b_wi b_wd b_ch b_tc) (some (.int r0)) ([ob a_this 11 [.ref a_this_page, .ref a_this_hall, .ref a_this_course, .ref a_this_heard, .ref a_this_image, .ref a_this_rests, .int v_hallsRead, .int v_restsDone], ob a_this_hall 6 [.ref a_this_hall_seats, .int v_hall_size, .int v_hall_fall], ra g a_this_hall_seats 5 (fun i => some (sa i))] ++ swl sa b_K b_su b_wi b_wd r1 b_tc) := by
  refine MC.mk (by decide) (Nat.le_of_ble_eq_true rfl) ?_
  intro p e s m args below meth c ls Q A F hnm hK hw hA hl hQ
  have hP := hw.1
  have hx := F.1
  have hb := F.2.1
  have hml := F.2.2.2.1
  have hown := F.2.2.2.2.1
  have hts := F.2.2.2.2.2.1
  have hl : lv_has ls 5 [(0, .ref a_this), (1, .int x1), (2, .int x2)] := hl
  unfold f_X11_choose at hf
  refine lv_aload_n hx hb dX11_choose_0 rfl (lv_at hl 0 rfl) ?_
  refine w_get (ci := 11) F hK hP fb_X11 0 rfl rfl 1 (by decide) fl_X11_27 (fun _ h => h) rfl dX11_choose_1 ?_
  refine lv_iload_n hx hb dX11_choose_4 rfl (lv_at hl 1 rfl) ?_
  obtain ⟨q1, hq1, hf⟩ := o_bind hf
  refine k_rV F (c_X4_has l g a_this_hall a_this_hall_seats x1 v_hall_size v_hall_fall hq1) qv_X4_has ml_X11_81 (hP.sub [1] rfl) hK (va_recv hK.1 hP (ci := 6) (q0 := 1) rfl rfl) rfl hl.1 rfl (Nat.le_of_ble_eq_true rfl) dX11_choose_5 ⟨(Nat.le_of_ble_eq_true rfl), (Nat.le_of_ble_eq_true rfl)⟩ ⟨(Nat.le_of_ble_eq_true rfl), (Nat.le_of_ble_eq_true rfl)⟩ ?_
  refine W.eq (g2 := F0 m 8 ls (.int q1 :: [])) rfl ?_
  refine lv_if_ne (tgt := 14) hx hb dX11_choose_8 (by decide) (fun h2 => ?_) (fun h2 => ?_)
  · have hf := o_f h2 hf
    refine lv_iload_n hx hb dX11_choose_14 rfl (lv_at hl 2 rfl) ?_
    refine lv_iconst (v := (-1)) hx hb dX11_choose_15 (by decide) ?_
    refine lv_icmp_eq (tgt := 33) hx hb dX11_choose_16 (by decide) (fun h3 => ?_) (fun h3 => ?_)
    · have hf := o_t h3 hf
      refine lv_aload_n hx hb dX11_choose_33 rfl (lv_at hl 0 rfl) ?_
      refine w_get (ci := 11) F hK hP fb_X11 0 rfl rfl 1 (by decide) fl_X11_27 (fun _ h => h) rfl dX11_choose_34 ?_
      refine w_get (ci := 6) F hK hP fb_X4 1 rfl rfl 0 (by decide) fl_X11_88 (fun _ h => h) rfl dX11_choose_37 ?_
      refine lv_iload_n hx hb dX11_choose_40 rfl (lv_at hl 1 rfl) ?_
      obtain ⟨h4, hf⟩ := o_chk hf
      refine w_aald F hK hP 2 rfl h4 dX11_choose_41 ?_
      refine lv_astore_n (lv' := [(3, .ref (sa (Int32.toNatClampNeg x1))), (0, .ref a_this), (1, .int x1), (2, .int x2)]) hx hb dX11_choose_42 rfl hl (by decide) rfl (fun ls hl => ?_)
      refine lv_aload_n hx hb dX11_choose_43 rfl (lv_at hl 0 rfl) ?_
      refine s_get F hK hP (in5 h4) hK5 3 rfl fl_X11_106 dX11_choose_44 ?_
      refine lv_topi (fun z5 ez5 => ?_)
      have hf := o_bnd ez5 hf
      refine lv_istore (lv' := [(4, .int z5), (3, .ref (sa (Int32.toNatClampNeg x1))), (0, .ref a_this), (1, .int x1), (2, .int x2)]) hx hb dX11_choose_47 hl (by decide) rfl (fun ls hl => ?_)
      refine lv_aload_n hx hb dX11_choose_49 rfl (lv_at hl 1 rfl) ?_
      refine lv_iload_n hx hb dX11_choose_50 rfl (lv_at hl 4 rfl) ?_
      refine s_put_choice F hK hw (in5 h4) hK5 fl_X11_106 dX11_choose_51 (fun H locs hw => ?_)
      have hP := hw.1
      refine lv_iload hx hb dX11_choose_54 (lv_at hl 0 rfl) ?_
      cases hf
      exact r_ci F hQ ⟨rfl, rfl⟩ hw dX11_choose_56
    · have hf := o_f h3 hf
      refine lv_iload_n hx hb dX11_choose_19 rfl (lv_at hl 2 rfl) ?_
      refine lv_iconst (v := 1) hx hb dX11_choose_20 (by decide) ?_
      refine lv_icmp_lt (tgt := 30) hx hb dX11_choose_21 (by decide) (fun h6 => ?_) (fun h6 => ?_)
      · have hf := o_t h6 hf
        refine lv_bipush (v := (-102)) hx hb dX11_choose_30 (by decide) ?_
        cases hf
        exact r_ci F hQ ⟨rfl, rfl⟩ hw dX11_choose_32
      · have hf := o_f h6 hf
        refine lv_iload_n hx hb dX11_choose_24 rfl (lv_at hl 2 rfl) ?_
        refine lv_bipush (v := 30) hx hb dX11_choose_25 (by decide) ?_
        refine lv_icmp_le (tgt := 33) hx hb dX11_choose_27 (by decide) (fun h7 => ?_) (fun h7 => ?_)
        · have hf := o_t h7 hf
          refine lv_aload_n hx hb dX11_choose_33 rfl (lv_at hl 0 rfl) ?_
          refine w_get (ci := 11) F hK hP fb_X11 0 rfl rfl 1 (by decide) fl_X11_27 (fun _ h => h) rfl dX11_choose_34 ?_
          refine w_get (ci := 6) F hK hP fb_X4 1 rfl rfl 0 (by decide) fl_X11_88 (fun _ h => h) rfl dX11_choose_37 ?_
          refine lv_iload_n hx hb dX11_choose_40 rfl (lv_at hl 1 rfl) ?_
          obtain ⟨h8, hf⟩ := o_chk hf
          refine w_aald F hK hP 2 rfl h8 dX11_choose_41 ?_
          refine lv_astore_n (lv' := [(3, .ref (sa (Int32.toNatClampNeg x1))), (0, .ref a_this), (1, .int x1), (2, .int x2)]) hx hb dX11_choose_42 rfl hl (by decide) rfl (fun ls hl => ?_)
          refine lv_aload_n hx hb dX11_choose_43 rfl (lv_at hl 0 rfl) ?_
          refine s_get F hK hP (in5 h8) hK5 3 rfl fl_X11_106 dX11_choose_44 ?_
          refine lv_topi (fun z9 ez9 => ?_)
          have hf := o_bnd ez9 hf
          refine lv_istore (lv' := [(4, .int z9), (3, .ref (sa (Int32.toNatClampNeg x1))), (0, .ref a_this), (1, .int x1), (2, .int x2)]) hx hb dX11_choose_47 hl (by decide) rfl (fun ls hl => ?_)
          refine lv_aload_n hx hb dX11_choose_49 rfl (lv_at hl 1 rfl) ?_
          refine lv_iload_n hx hb dX11_choose_50 rfl (lv_at hl 4 rfl) ?_
          refine s_put_choice F hK hw (in5 h8) hK5 fl_X11_106 dX11_choose_51 (fun H locs hw => ?_)
          have hP := hw.1
          refine lv_iload hx hb dX11_choose_54 (lv_at hl 0 rfl) ?_
          cases hf
          exact r_ci F hQ ⟨rfl, rfl⟩ hw dX11_choose_56
        · have hf := o_f h7 hf
          refine lv_bipush (v := (-102)) hx hb dX11_choose_30 (by decide) ?_
          cases hf
          exact r_ci F hQ ⟨rfl, rfl⟩ hw dX11_choose_32
  · have hf := o_t h2 hf
    refine lv_bipush (v := (-101)) hx hb dX11_choose_11 (by decide) ?_
    cases hf
    exact r_ci F hQ ⟨rfl, rfl⟩ hw dX11_choose_13
