def f_X8_tryAll_18 (fuel : Nat) (x2 : Int32) (b_K : Nat → Nat) (b_ch : Nat → Int32) (b_su : Nat → Int32) (b_tc : Nat → Int32) (b_wd : Nat → Int32) (b_wi : Nat → Int32) (v_breaths : Int32) (v_p1_hall_fall : Int32) (v_p1_hall_size : Int32) (v_size : Int32) (y4 : Int32) (y3 : Int32) (w_v_choices : Nat → Int32) (w_v_gains : Nat → Int32) (w_v_getters : Nat → Int32) (w_v_p1_ends : Nat → Int32) (w_v_p1_getter : Int32) (w_v_p1_silences : Nat → Int32) (w_v_p1_stops : Nat → Int32) (w_v_p1_touchers : Nat → Int32) : Option (Int32 × Int32 × (Nat → Int32) × (Nat → Int32) × (Nat → Int32) × (Nat → Int32) × Int32 × (Nat → Int32) × (Nat → Int32) × (Nat → Int32)) := match fuel with
  | 0 => none
  | k + 1 => (if v_size ≤ y4 then (some (y4, y3, w_v_choices, w_v_gains, w_v_getters, w_v_p1_ends, w_v_p1_getter, w_v_p1_silences, w_v_p1_stops, w_v_p1_touchers)) else (if y4 < 0 ∨ 5 ≤ Int32.toNatClampNeg y4 then none else ((f_X2_supposeChoice y4 (w_v_choices (Int32.toNatClampNeg y4)) b_K b_wd w_v_p1_ends).bind fun q6 => (bnd (y4 + 1 : Int32) fun z7 => (f_X8_tryAll_18 k x2 b_K b_ch b_su b_tc b_wd b_wi v_breaths v_p1_hall_fall v_p1_hall_size v_size z7 y3 w_v_choices w_v_gains w_v_getters q6 w_v_p1_getter w_v_p1_silences w_v_p1_stops w_v_p1_touchers)))))
def f_X8_tryAll_10 (fuel : Nat) (x2 : Int32) (b_K : Nat → Nat) (b_ch : Nat → Int32) (b_su : Nat → Int32) (b_tc : Nat → Int32) (b_wd : Nat → Int32) (b_wi : Nat → Int32) (v_breaths : Int32) (v_p1_hall_fall : Int32) (v_p1_hall_size : Int32) (v_size : Int32) (y3 : Int32) (w_v_choices : Nat → Int32) (w_v_gains : Nat → Int32) (w_v_getters : Nat → Int32) (w_v_p1_ends : Nat → Int32) (w_v_p1_getter : Int32) (w_v_p1_silences : Nat → Int32) (w_v_p1_stops : Nat → Int32) (w_v_p1_touchers : Nat → Int32) : Option (Int32 × (Nat → Int32) × (Nat → Int32) × (Nat → Int32) × (Nat → Int32) × Int32 × (Nat → Int32) × (Nat → Int32) × (Nat → Int32)) := match fuel with
  | 0 => none
  | k + 1 => (if x2 ≤ y3 then (some (y3, w_v_choices, w_v_gains, w_v_getters, w_v_p1_ends, w_v_p1_getter, w_v_p1_silences, w_v_p1_stops, w_v_p1_touchers)) else ((f_X8_tryAll_18 4096 x2 b_K b_ch b_su b_tc b_wd b_wi v_breaths v_p1_hall_fall v_p1_hall_size v_size 0 y3 w_v_choices w_v_gains w_v_getters w_v_p1_ends w_v_p1_getter w_v_p1_silences w_v_p1_stops w_v_p1_touchers).bind fun q8 => ((f_X2_run b_K q8.2.2.2.2.2.1 q8.2.2.2.2.2.2.1 v_p1_hall_size q8.2.2.2.2.2.2.2.1 q8.2.2.2.2.2.2.2.2.1 q8.2.2.2.2.2.2.2.2.2).bind fun q9 => (if q8.2.1 < 0 ∨ 1024 ≤ Int32.toNatClampNeg q8.2.1 then none else (if q9.1 = (-1) then ((f_X8_chooseNext v_breaths q8.2.2.1 v_size).bind fun q15 => (bnd (q8.2.1 + 1 : Int32) fun z16 => (f_X8_tryAll_10 k x2 b_K b_ch b_su b_tc b_wd b_wi v_breaths v_p1_hall_fall v_p1_hall_size v_size z16 q15 (upd q8.2.2.2.1 (Int32.toNatClampNeg q8.2.1) 0) (upd q8.2.2.2.2.1 (Int32.toNatClampNeg q8.2.1) q9.1) q8.2.2.2.2.2.1 q9.1 q9.2.1 q9.2.2 q8.2.2.2.2.2.2.2.2.2))) else ((f_X2_gainOf q9.1 b_K b_su b_wi q9.1 v_p1_hall_fall q9.2.2).bind fun q12 => ((f_X8_chooseNext v_breaths q8.2.2.1 v_size).bind fun q13 => (bnd (q8.2.1 + 1 : Int32) fun z14 => (f_X8_tryAll_10 k x2 b_K b_ch b_su b_tc b_wd b_wi v_breaths v_p1_hall_fall v_p1_hall_size v_size z14 q13 (upd q8.2.2.2.1 (Int32.toNatClampNeg q8.2.1) q12) (upd q8.2.2.2.2.1 (Int32.toNatClampNeg q8.2.1) q9.1) q8.2.2.2.2.2.1 q9.1 q9.2.1 q9.2.2 q8.2.2.2.2.2.2.2.2.2)))))))))
def f_X8_tryAll (x2 : Int32) (b_K : Nat → Nat) (b_ch : Nat → Int32) (b_su : Nat → Int32) (b_tc : Nat → Int32) (b_wd : Nat → Int32) (b_wi : Nat → Int32) (v_breaths : Int32) (v_choices : Nat → Int32) (v_gains : Nat → Int32) (v_getters : Nat → Int32) (v_p1_ends : Nat → Int32) (v_p1_getter : Int32) (v_p1_hall_fall : Int32) (v_p1_hall_size : Int32) (v_p1_silences : Nat → Int32) (v_p1_stops : Nat → Int32) (v_p1_touchers : Nat → Int32) (v_size : Int32) : Option ((Nat → Int32) × (Nat → Int32) × (Nat → Int32) × (Nat → Int32) × Int32 × (Nat → Int32) × (Nat → Int32) × (Nat → Int32)) := ((f_X2_takeAsItIs b_K b_ch b_tc b_wd v_p1_ends v_p1_hall_size v_p1_touchers).bind fun q1 => ((f_X8_chooseFirst v_choices v_size).bind fun q2 => ((f_X8_tryAll_10 4096 x2 b_K b_ch b_su b_tc b_wd b_wi v_breaths v_p1_hall_fall v_p1_hall_size v_size 0 q2 v_gains v_getters q1.1 v_p1_getter v_p1_silences v_p1_stops q1.2).bind fun q17 => (some (q17.2.1, q17.2.2.1, q17.2.2.2.1, q17.2.2.2.2.1, q17.2.2.2.2.2.1, q17.2.2.2.2.2.2.1, q17.2.2.2.2.2.2.2.1, q17.2.2.2.2.2.2.2.2)))))
set_option maxRecDepth 100000 in
set_option maxHeartbeats 4000000 in
theorem c_X8_tryAll (l : Launch) (g : GG) (a_this : Nat) (a_p1 : Nat) (a_p1_hall : Nat) (a_p1_ends : Nat) (a_p1_touchers : Nat) (a_p1_stops : Nat) (a_p1_silences : Nat) (a_p1_hall_seats : Nat) (a_this_getters : Nat) (a_this_gains : Nat) (a_this_weights : Nat) (a_this_choices : Nat) (a_this_firstChoices : Nat) (sa : Nat → Nat) (x2 : Int32) (v_p1_getter : Int32) (v_p1_ends : Nat → Int32) (v_p1_hall_size : Int32) (v_p1_hall_fall : Int32) (v_p1_silences : Nat → Int32) (v_p1_stops : Nat → Int32) (v_p1_touchers : Nat → Int32) (v_size : Int32) (v_breaths : Int32) (v_howMany : Int32) (v_choices : Nat → Int32) (v_gains : Nat → Int32) (v_getters : Nat → Int32) (b_K : Nat → Nat) (b_su : Nat → Int32) (b_wi : Nat → Int32) (b_wd : Nat → Int32) (b_ch : Nat → Int32) (b_tc : Nat → Int32) (hK5 : ∀ i, b_K i < 5) {r0 : Nat → Int32} {r1 : Nat → Int32} {r2 : Nat → Int32} {r3 : Nat → Int32} {r4 : Int32} {r5 : Nat → Int32} {r6 : Nat → Int32} {r7 : Nat → Int32} (hf : f_X8_tryAll x2 b_K b_ch b_su b_tc b_wd b_wi v_breaths v_choices v_gains v_getters v_p1_ends v_p1_getter v_p1_hall_fall v_p1_hall_size v_p1_silences v_p1_stops v_p1_touchers v_size = some (r0, r1, r2, r3, r4, r5, r6, r7)) : MD l g yX8_tryAll cX8_tryAll 5 none 4 89 [.ref a_this, .ref a_p1, .int x2] ([ob a_p1 7 [.ref a_p1_hall, .ref a_p1_ends, .ref a_p1_touchers, .ref a_p1_stops, .ref a_p1_silences, .int v_p1_getter], ia g a_p1_ends 5 v_p1_ends, ob a_p1_hall 6 [.ref a_p1_hall_seats, .int v_p1_hall_size, .int v_p1_hall_fall], ra g a_p1_hall_seats 5 (fun i => some (sa i)), ia g a_p1_silences 5 v_p1_silences, ia g a_p1_stops 5 v_p1_stops, ia g a_p1_touchers 5 v_p1_touchers, ob a_this 10 [.ref a_this_getters, .ref a_this_gains, .ref a_this_weights, .ref a_this_choices, .ref a_this_firstChoices, .int v_size, .int v_breaths, .int v_howMany], ia g a_this_choices 5 v_choices, ia g a_this_gains 1024 v_gains, ia g a_this_getters 1024 v_getters] ++ swl sa b_K b_su b_wi b_wd b_ch b_tc) none ([ob a_p1 7 [.ref a_p1_hall, .ref a_p1_ends, .ref a_p1_touchers, .ref a_p1_stops, .ref a_p1_silences, .int r4], ia g a_p1_ends 5 r3, ob a_p1_hall 6 [.ref a_p1_hall_seats, .int v_p1_hall_size, .int v_p1_hall_fall], ra g a_p1_hall_seats 5 (fun i => some (sa i)), ia g a_p1_silences 5 r5, ia g a_p1_stops 5 r6, ia g a_p1_touchers 5 r7, ob a_this 10 [.ref a_this_getters, .ref a_this_gains, .ref a_this_weights, .ref a_this_choices, .ref a_this_firstChoices, .int v_size, .int v_breaths, .int v_howMany], ia g a_this_choices 5 r0, ia g a_this_gains 1024 r1, ia g a_this_getters 1024 r2] ++ swl sa b_K b_su b_wi b_wd b_ch b_tc) := by
  refine MC.mk (by decide) (Nat.le_of_ble_eq_true rfl) ?_
  intro p e s m args below meth c ls Q A F hnm hK hw hA hl hQ
  have hP := hw.1
  have hx := F.1
  have hb := F.2.1
  have hml := F.2.2.2.1
  have hown := F.2.2.2.2.1
  have hts := F.2.2.2.2.2.1
  have hl : lv_has ls 5 [(0, .ref a_this), (1, .ref a_p1), (2, .int x2)] := hl
  have L18 : ∀ (k : Nat) (y4 : Int32) (y3 : Int32) (w_v_choices : Nat → Int32) (w_v_gains : Nat → Int32) (w_v_getters : Nat → Int32) (w_v_p1_ends : Nat → Int32) (w_v_p1_getter : Int32) (w_v_p1_silences : Nat → Int32) (w_v_p1_stops : Nat → Int32) (w_v_p1_touchers : Nat → Int32) (q : Int32 × Int32 × (Nat → Int32) × (Nat → Int32) × (Nat → Int32) × (Nat → Int32) × Int32 × (Nat → Int32) × (Nat → Int32) × (Nat → Int32)), f_X8_tryAll_18 k x2 b_K b_ch b_su b_tc b_wd b_wi v_breaths v_p1_hall_fall v_p1_hall_size v_size y4 y3 w_v_choices w_v_gains w_v_getters w_v_p1_ends w_v_p1_getter w_v_p1_silences w_v_p1_stops w_v_p1_touchers = some q → ∀ (H : Heap) (locs : List Loc) (ls : Array Slot), WD g A s.heap ([ob a_p1 7 [.ref a_p1_hall, .ref a_p1_ends, .ref a_p1_touchers, .ref a_p1_stops, .ref a_p1_silences, .int w_v_p1_getter], ia g a_p1_ends 5 w_v_p1_ends, ob a_p1_hall 6 [.ref a_p1_hall_seats, .int v_p1_hall_size, .int v_p1_hall_fall], ra g a_p1_hall_seats 5 (fun i => some (sa i)), ia g a_p1_silences 5 w_v_p1_silences, ia g a_p1_stops 5 w_v_p1_stops, ia g a_p1_touchers 5 w_v_p1_touchers, ob a_this 10 [.ref a_this_getters, .ref a_this_gains, .ref a_this_weights, .ref a_this_choices, .ref a_this_firstChoices, .int v_size, .int v_breaths, .int v_howMany], ia g a_this_choices 5 w_v_choices, ia g a_this_gains 1024 w_v_gains, ia g a_this_getters 1024 w_v_getters] ++ swl sa b_K b_su b_wi b_wd b_ch b_tc) H locs → lv_has ls 5 [(4, .int y4), (3, .int y3), (0, .ref a_this), (1, .ref a_p1), (2, .int x2)] → (∀ (H : Heap) (locs : List Loc) (ls : Array Slot), WD g A s.heap ([ob a_p1 7 [.ref a_p1_hall, .ref a_p1_ends, .ref a_p1_touchers, .ref a_p1_stops, .ref a_p1_silences, .int q.2.2.2.2.2.2.1], ia g a_p1_ends 5 q.2.2.2.2.2.1, ob a_p1_hall 6 [.ref a_p1_hall_seats, .int v_p1_hall_size, .int v_p1_hall_fall], ra g a_p1_hall_seats 5 (fun i => some (sa i)), ia g a_p1_silences 5 q.2.2.2.2.2.2.2.1, ia g a_p1_stops 5 q.2.2.2.2.2.2.2.2.1, ia g a_p1_touchers 5 q.2.2.2.2.2.2.2.2.2, ob a_this 10 [.ref a_this_getters, .ref a_this_gains, .ref a_this_weights, .ref a_this_choices, .ref a_this_firstChoices, .int v_size, .int v_breaths, .int v_howMany], ia g a_this_choices 5 q.2.2.1, ia g a_this_gains 1024 q.2.2.2.1, ia g a_this_getters 1024 q.2.2.2.2.1] ++ swl sa b_K b_su b_wi b_wd b_ch b_tc) H locs → lv_has ls 5 [(4, .int q.1), (3, .int q.2.1), (0, .ref a_this), (1, .ref a_p1), (2, .int x2)] → W p l e (rmc 4 0 0 89) s m args below meth c H locs 0 0 Q (F0 m 46 ls [])) → W p l e (rmc 4 0 0 89) s m args below meth c H locs 0 0 Q (F0 m 18 ls []) := by
    intro k
    induction k with
    | zero => intro y4 y3 w_v_choices w_v_gains w_v_getters w_v_p1_ends w_v_p1_getter w_v_p1_silences w_v_p1_stops w_v_p1_touchers q hf; rw [f_X8_tryAll_18] at hf; cases hf
    | succ k ih =>
      intro y4 y3 w_v_choices w_v_gains w_v_getters w_v_p1_ends w_v_p1_getter w_v_p1_silences w_v_p1_stops w_v_p1_touchers q hf H locs ls hw hl kx
      rw [f_X8_tryAll_18] at hf
      have hP := hw.1
      refine lv_iload hx hb dX8_tryAll_18 (lv_at hl 0 rfl) ?_
      refine lv_aload_n hx hb dX8_tryAll_20 rfl (lv_at hl 2 rfl) ?_
      refine w_get (ci := 10) F hK hP fb_X8 7 rfl rfl 5 (by decide) fl_X8_39 (fun _ h => h) rfl dX8_tryAll_21 ?_
      refine lv_icmp_ge (tgt := 46) hx hb dX8_tryAll_24 (by decide) (fun h4 => ?_) (fun h4 => ?_)
      · have hf := o_t h4 hf
        cases hf
        exact kx _ _ ls hw (lv_sub hl [0, 1, 2, 3, 4] rfl)
      · have hf := o_f h4 hf
        refine lv_aload_n hx hb dX8_tryAll_27 rfl (lv_at hl 3 rfl) ?_
        refine lv_iload hx hb dX8_tryAll_28 (lv_at hl 0 rfl) ?_
        refine lv_aload_n hx hb dX8_tryAll_30 rfl (lv_at hl 2 rfl) ?_
        refine w_get (ci := 10) F hK hP fb_X8 7 rfl rfl 3 (by decide) fl_X8_21 (fun _ h => h) rfl dX8_tryAll_31 ?_
        refine lv_iload hx hb dX8_tryAll_34 (lv_at hl 0 rfl) ?_
        obtain ⟨h5, hf⟩ := o_chk hf
        refine w_iald F hK hP 8 rfl h5 dX8_tryAll_36 ?_
        obtain ⟨q6, hq6, hf⟩ := o_bind hf
        refine k_dV (wr := [ia g a_p1_silences 5 w_v_p1_silences, ia g a_p1_stops 5 w_v_p1_stops, ia g a_p1_touchers 5 w_v_p1_touchers, ob a_this 10 [.ref a_this_getters, .ref a_this_gains, .ref a_this_weights, .ref a_this_choices, .ref a_this_firstChoices, .int v_size, .int v_breaths, .int v_howMany], ia g a_this_choices 5 w_v_choices, ia g a_this_gains 1024 w_v_gains, ia g a_this_getters 1024 w_v_getters]) (ws' := ([ob a_p1 7 [.ref a_p1_hall, .ref a_p1_ends, .ref a_p1_touchers, .ref a_p1_stops, .ref a_p1_silences, .int w_v_p1_getter], ia g a_p1_ends 5 q6, ob a_p1_hall 6 [.ref a_p1_hall_seats, .int v_p1_hall_size, .int v_p1_hall_fall], ra g a_p1_hall_seats 5 (fun i => some (sa i)), ia g a_p1_silences 5 w_v_p1_silences, ia g a_p1_stops 5 w_v_p1_stops, ia g a_p1_touchers 5 w_v_p1_touchers, ob a_this 10 [.ref a_this_getters, .ref a_this_gains, .ref a_this_weights, .ref a_this_choices, .ref a_this_firstChoices, .int v_size, .int v_breaths, .int v_howMany], ia g a_this_choices 5 w_v_choices, ia g a_this_gains 1024 w_v_gains, ia g a_this_getters 1024 w_v_getters] ++ swl sa b_K b_su b_wi b_wd b_ch b_tc)) F (c_X2_supposeChoice l g a_p1 a_p1_hall a_p1_ends a_p1_touchers a_p1_stops a_p1_silences a_p1_hall_seats sa y4 (w_v_choices (Int32.toNatClampNeg y4)) w_v_p1_getter w_v_p1_ends v_p1_hall_size v_p1_hall_fall b_K b_su b_wi b_wd b_ch b_tc hK5 hq6) qv_X2_supposeChoice ml_X8_76 hw hA hK [0, 1, 2, 3, 11, 12, 13, 14, 15] [4, 5, 6, 7, 8, 9, 10] [7, 8, 9, 10, 0, 1, 2, 3, 4, 5, 6, 11, 12, 13, 14, 15] rfl rfl rfl rfl rfl (by decide) rfl rfl rfl (va_recv hK.1 hP (ci := 7) (q0 := 0) rfl rfl) rfl hl.1 rfl (Nat.le_of_ble_eq_true rfl) dX8_tryAll_37 ⟨(Nat.le_of_ble_eq_true rfl), (Nat.le_of_ble_eq_true rfl)⟩ ⟨(Nat.le_of_ble_eq_true rfl), (Nat.le_of_ble_eq_true rfl)⟩ (fun H locs hw => ?_)
        have hP := hw.1
        refine W.eq (g2 := F0 m 40 ls ([])) rfl ?_
        obtain ⟨z7, ez7⟩ : ∃ y : Int32, y = y4 + 1 := ⟨_, rfl⟩
        have hf := o_bnd ez7 hf
        refine lv_iinc (v := z7) (lv' := [(4, .int z7), (3, .int y3), (0, .ref a_this), (1, .ref a_p1), (2, .int x2)]) hx hb dX8_tryAll_40 hl (k := 0) rfl (by rw [ez7]; rfl) (by decide) rfl (fun ls hl => ?_)
        refine lv_goto (tgt := 18) hx hb dX8_tryAll_43 (by decide) ?_
        exact ih z7 y3 w_v_choices w_v_gains w_v_getters q6 w_v_p1_getter w_v_p1_silences w_v_p1_stops w_v_p1_touchers _ hf _ _ ls hw (lv_sub hl [0, 1, 2, 3, 4] rfl) kx
  have L10 : ∀ (k : Nat) (y3 : Int32) (w_v_choices : Nat → Int32) (w_v_gains : Nat → Int32) (w_v_getters : Nat → Int32) (w_v_p1_ends : Nat → Int32) (w_v_p1_getter : Int32) (w_v_p1_silences : Nat → Int32) (w_v_p1_stops : Nat → Int32) (w_v_p1_touchers : Nat → Int32) (q : Int32 × (Nat → Int32) × (Nat → Int32) × (Nat → Int32) × (Nat → Int32) × Int32 × (Nat → Int32) × (Nat → Int32) × (Nat → Int32)), f_X8_tryAll_10 k x2 b_K b_ch b_su b_tc b_wd b_wi v_breaths v_p1_hall_fall v_p1_hall_size v_size y3 w_v_choices w_v_gains w_v_getters w_v_p1_ends w_v_p1_getter w_v_p1_silences w_v_p1_stops w_v_p1_touchers = some q → ∀ (H : Heap) (locs : List Loc) (ls : Array Slot), WD g A s.heap ([ob a_p1 7 [.ref a_p1_hall, .ref a_p1_ends, .ref a_p1_touchers, .ref a_p1_stops, .ref a_p1_silences, .int w_v_p1_getter], ia g a_p1_ends 5 w_v_p1_ends, ob a_p1_hall 6 [.ref a_p1_hall_seats, .int v_p1_hall_size, .int v_p1_hall_fall], ra g a_p1_hall_seats 5 (fun i => some (sa i)), ia g a_p1_silences 5 w_v_p1_silences, ia g a_p1_stops 5 w_v_p1_stops, ia g a_p1_touchers 5 w_v_p1_touchers, ob a_this 10 [.ref a_this_getters, .ref a_this_gains, .ref a_this_weights, .ref a_this_choices, .ref a_this_firstChoices, .int v_size, .int v_breaths, .int v_howMany], ia g a_this_choices 5 w_v_choices, ia g a_this_gains 1024 w_v_gains, ia g a_this_getters 1024 w_v_getters] ++ swl sa b_K b_su b_wi b_wd b_ch b_tc) H locs → lv_has ls 5 [(3, .int y3), (0, .ref a_this), (1, .ref a_p1), (2, .int x2)] → (∀ (H : Heap) (locs : List Loc) (ls : Array Slot), WD g A s.heap ([ob a_p1 7 [.ref a_p1_hall, .ref a_p1_ends, .ref a_p1_touchers, .ref a_p1_stops, .ref a_p1_silences, .int q.2.2.2.2.2.1], ia g a_p1_ends 5 q.2.2.2.2.1, ob a_p1_hall 6 [.ref a_p1_hall_seats, .int v_p1_hall_size, .int v_p1_hall_fall], ra g a_p1_hall_seats 5 (fun i => some (sa i)), ia g a_p1_silences 5 q.2.2.2.2.2.2.1, ia g a_p1_stops 5 q.2.2.2.2.2.2.2.1, ia g a_p1_touchers 5 q.2.2.2.2.2.2.2.2, ob a_this 10 [.ref a_this_getters, .ref a_this_gains, .ref a_this_weights, .ref a_this_choices, .ref a_this_firstChoices, .int v_size, .int v_breaths, .int v_howMany], ia g a_this_choices 5 q.2.1, ia g a_this_gains 1024 q.2.2.1, ia g a_this_getters 1024 q.2.2.2.1] ++ swl sa b_K b_su b_wi b_wd b_ch b_tc) H locs → lv_has ls 5 [(3, .int q.1), (0, .ref a_this), (1, .ref a_p1), (2, .int x2)] → W p l e (rmc 4 0 0 89) s m args below meth c H locs 0 0 Q (F0 m 96 ls [])) → W p l e (rmc 4 0 0 89) s m args below meth c H locs 0 0 Q (F0 m 10 ls []) := by
    intro k
    induction k with
    | zero => intro y3 w_v_choices w_v_gains w_v_getters w_v_p1_ends w_v_p1_getter w_v_p1_silences w_v_p1_stops w_v_p1_touchers q hf; rw [f_X8_tryAll_10] at hf; cases hf
    | succ k ih =>
      intro y3 w_v_choices w_v_gains w_v_getters w_v_p1_ends w_v_p1_getter w_v_p1_silences w_v_p1_stops w_v_p1_touchers q hf H locs ls hw hl kx
      rw [f_X8_tryAll_10] at hf
      have hP := hw.1
      refine lv_iload_n hx hb dX8_tryAll_10 rfl (lv_at hl 0 rfl) ?_
      refine lv_iload_n hx hb dX8_tryAll_11 rfl (lv_at hl 3 rfl) ?_
      refine lv_icmp_ge (tgt := 96) hx hb dX8_tryAll_12 (by decide) (fun h3 => ?_) (fun h3 => ?_)
      · have hf := o_t h3 hf
        cases hf
        exact kx _ _ ls hw (lv_sub hl [0, 1, 2, 3] rfl)
      · have hf := o_f h3 hf
        refine lv_iconst (v := 0) hx hb dX8_tryAll_15 (by decide) ?_
        refine lv_istore (lv' := [(4, .int 0), (3, .int y3), (0, .ref a_this), (1, .ref a_p1), (2, .int x2)]) hx hb dX8_tryAll_16 hl (by decide) rfl (fun ls hl => ?_)
        obtain ⟨q8, hq8, hf⟩ := o_bind hf
        refine L18 _ 0 y3 w_v_choices w_v_gains w_v_getters w_v_p1_ends w_v_p1_getter w_v_p1_silences w_v_p1_stops w_v_p1_touchers _ hq8 _ _ ls hw (lv_sub hl [0, 1, 2, 3, 4] rfl) (fun H locs ls hw hl => ?_)
        have hP := hw.1
        refine lv_aload_n hx hb dX8_tryAll_46 rfl (lv_at hl 3 rfl) ?_
        obtain ⟨q9, hq9, hf⟩ := o_bind hf
        refine k_dV (wr := [ob a_this 10 [.ref a_this_getters, .ref a_this_gains, .ref a_this_weights, .ref a_this_choices, .ref a_this_firstChoices, .int v_size, .int v_breaths, .int v_howMany], ia g a_this_choices 5 q8.2.2.1, ia g a_this_gains 1024 q8.2.2.2.1, ia g a_this_getters 1024 q8.2.2.2.2.1]) (ws' := ([ob a_p1 7 [.ref a_p1_hall, .ref a_p1_ends, .ref a_p1_touchers, .ref a_p1_stops, .ref a_p1_silences, .int q9.1], ia g a_p1_ends 5 q8.2.2.2.2.2.1, ob a_p1_hall 6 [.ref a_p1_hall_seats, .int v_p1_hall_size, .int v_p1_hall_fall], ra g a_p1_hall_seats 5 (fun i => some (sa i)), ia g a_p1_silences 5 q9.2.1, ia g a_p1_stops 5 q9.2.2, ia g a_p1_touchers 5 q8.2.2.2.2.2.2.2.2.2, ob a_this 10 [.ref a_this_getters, .ref a_this_gains, .ref a_this_weights, .ref a_this_choices, .ref a_this_firstChoices, .int v_size, .int v_breaths, .int v_howMany], ia g a_this_choices 5 q8.2.2.1, ia g a_this_gains 1024 q8.2.2.2.1, ia g a_this_getters 1024 q8.2.2.2.2.1] ++ swl sa b_K b_su b_wi b_wd b_ch b_tc)) F (c_X2_run l g a_p1 a_p1_hall a_p1_ends a_p1_touchers a_p1_stops a_p1_silences a_p1_hall_seats sa q8.2.2.2.2.2.2.1 q8.2.2.2.2.2.1 v_p1_hall_size v_p1_hall_fall q8.2.2.2.2.2.2.2.1 q8.2.2.2.2.2.2.2.2.1 q8.2.2.2.2.2.2.2.2.2 b_K b_su b_wi b_wd b_ch b_tc hK5 hq9) qv_X2_run ml_X8_80 hw hA hK [0, 1, 2, 3, 4, 5, 6, 11, 12, 13, 14, 15] [7, 8, 9, 10] [4, 5, 6, 7, 8, 9, 10, 0, 1, 2, 3, 11, 12, 13, 14, 15] rfl rfl rfl rfl rfl (by decide) rfl rfl rfl (va_recv hK.1 hP (ci := 7) (q0 := 0) rfl rfl) rfl hl.1 rfl (Nat.le_of_ble_eq_true rfl) dX8_tryAll_47 ⟨(Nat.le_of_ble_eq_true rfl), (Nat.le_of_ble_eq_true rfl)⟩ ⟨(Nat.le_of_ble_eq_true rfl), (Nat.le_of_ble_eq_true rfl)⟩ (fun H locs hw => ?_)
        have hP := hw.1
        refine W.eq (g2 := F0 m 50 ls ([])) rfl ?_
        refine lv_aload_n hx hb dX8_tryAll_50 rfl (lv_at hl 2 rfl) ?_
        refine w_get (ci := 10) F hK hP fb_X8 7 rfl rfl 0 (by decide) fl_X8_11 (fun _ h => h) rfl dX8_tryAll_51 ?_
        refine lv_iload_n hx hb dX8_tryAll_54 rfl (lv_at hl 1 rfl) ?_
        refine lv_aload_n hx hb dX8_tryAll_55 rfl (lv_at hl 3 rfl) ?_
        refine w_get (ci := 7) F hK hP fb_X2 0 rfl rfl 5 (by decide) fl_X8_83 (fun _ h => h) rfl dX8_tryAll_56 ?_
        obtain ⟨h10, hf⟩ := o_chk hf
        refine w_iast (ws' := ([ob a_p1 7 [.ref a_p1_hall, .ref a_p1_ends, .ref a_p1_touchers, .ref a_p1_stops, .ref a_p1_silences, .int q9.1], ia g a_p1_ends 5 q8.2.2.2.2.2.1, ob a_p1_hall 6 [.ref a_p1_hall_seats, .int v_p1_hall_size, .int v_p1_hall_fall], ra g a_p1_hall_seats 5 (fun i => some (sa i)), ia g a_p1_silences 5 q9.2.1, ia g a_p1_stops 5 q9.2.2, ia g a_p1_touchers 5 q8.2.2.2.2.2.2.2.2.2, ob a_this 10 [.ref a_this_getters, .ref a_this_gains, .ref a_this_weights, .ref a_this_choices, .ref a_this_firstChoices, .int v_size, .int v_breaths, .int v_howMany], ia g a_this_choices 5 q8.2.2.1, ia g a_this_gains 1024 q8.2.2.2.1, ia g a_this_getters 1024 (upd q8.2.2.2.2.1 (Int32.toNatClampNeg q8.2.1) q9.1)] ++ swl sa b_K b_su b_wi b_wd b_ch b_tc)) F hK hw 10 rfl h10 rfl dX8_tryAll_59 (fun H locs hw => ?_)
        have hP := hw.1
        refine lv_aload_n hx hb dX8_tryAll_60 rfl (lv_at hl 2 rfl) ?_
        refine w_get (ci := 10) F hK hP fb_X8 7 rfl rfl 1 (by decide) fl_X8_15 (fun _ h => h) rfl dX8_tryAll_61 ?_
        refine lv_iload_n hx hb dX8_tryAll_64 rfl (lv_at hl 1 rfl) ?_
        refine lv_aload_n hx hb dX8_tryAll_65 rfl (lv_at hl 3 rfl) ?_
        refine w_get (ci := 7) F hK hP fb_X2 0 rfl rfl 5 (by decide) fl_X8_83 (fun _ h => h) rfl dX8_tryAll_66 ?_
        refine lv_iconst (v := (-1)) hx hb dX8_tryAll_69 (by decide) ?_
        refine lv_icmp_ne (tgt := 77) hx hb dX8_tryAll_70 (by decide) (fun h11 => ?_) (fun h11 => ?_)
        · have hf := o_f h11 hf
          refine lv_aload_n hx hb dX8_tryAll_77 rfl (lv_at hl 3 rfl) ?_
          refine lv_aload_n hx hb dX8_tryAll_78 rfl (lv_at hl 3 rfl) ?_
          refine w_get (ci := 7) F hK hP fb_X2 0 rfl rfl 5 (by decide) fl_X8_83 (fun _ h => h) rfl dX8_tryAll_79 ?_
          obtain ⟨q12, hq12, hf⟩ := o_bind hf
          refine k_rV F (c_X2_gainOf l g a_p1 a_p1_hall a_p1_ends a_p1_touchers a_p1_stops a_p1_silences a_p1_hall_seats sa q9.1 q9.1 v_p1_hall_size v_p1_hall_fall q9.2.2 b_K b_su b_wi b_wd b_ch b_tc hK5 hq12) qv_X2_gainOf ml_X8_86 (hP.sub [0, 2, 3, 5, 11, 12, 13, 14, 15] rfl) hK (va_recv hK.1 hP (ci := 7) (q0 := 0) rfl rfl) rfl hl.1 rfl (Nat.le_of_ble_eq_true rfl) dX8_tryAll_82 ⟨(Nat.le_of_ble_eq_true rfl), (Nat.le_of_ble_eq_true rfl)⟩ ⟨(Nat.le_of_ble_eq_true rfl), (Nat.le_of_ble_eq_true rfl)⟩ ?_
          refine W.eq (g2 := F0 m 85 ls (.int q12 :: [.int q8.2.1, .ref a_this_gains])) rfl ?_
          refine w_iast (ws' := ([ob a_p1 7 [.ref a_p1_hall, .ref a_p1_ends, .ref a_p1_touchers, .ref a_p1_stops, .ref a_p1_silences, .int q9.1], ia g a_p1_ends 5 q8.2.2.2.2.2.1, ob a_p1_hall 6 [.ref a_p1_hall_seats, .int v_p1_hall_size, .int v_p1_hall_fall], ra g a_p1_hall_seats 5 (fun i => some (sa i)), ia g a_p1_silences 5 q9.2.1, ia g a_p1_stops 5 q9.2.2, ia g a_p1_touchers 5 q8.2.2.2.2.2.2.2.2.2, ob a_this 10 [.ref a_this_getters, .ref a_this_gains, .ref a_this_weights, .ref a_this_choices, .ref a_this_firstChoices, .int v_size, .int v_breaths, .int v_howMany], ia g a_this_choices 5 q8.2.2.1, ia g a_this_gains 1024 (upd q8.2.2.2.1 (Int32.toNatClampNeg q8.2.1) q12), ia g a_this_getters 1024 (upd q8.2.2.2.2.1 (Int32.toNatClampNeg q8.2.1) q9.1)] ++ swl sa b_K b_su b_wi b_wd b_ch b_tc)) F hK hw 9 rfl h10 rfl dX8_tryAll_85 (fun H locs hw => ?_)
          have hP := hw.1
          refine lv_aload_n hx hb dX8_tryAll_86 rfl (lv_at hl 2 rfl) ?_
          obtain ⟨q13, hq13, hf⟩ := o_bind hf
          refine k_dV (wr := ([ob a_p1 7 [.ref a_p1_hall, .ref a_p1_ends, .ref a_p1_touchers, .ref a_p1_stops, .ref a_p1_silences, .int q9.1], ia g a_p1_ends 5 q8.2.2.2.2.2.1, ob a_p1_hall 6 [.ref a_p1_hall_seats, .int v_p1_hall_size, .int v_p1_hall_fall], ra g a_p1_hall_seats 5 (fun i => some (sa i)), ia g a_p1_silences 5 q9.2.1, ia g a_p1_stops 5 q9.2.2, ia g a_p1_touchers 5 q8.2.2.2.2.2.2.2.2.2, ia g a_this_gains 1024 (upd q8.2.2.2.1 (Int32.toNatClampNeg q8.2.1) q12), ia g a_this_getters 1024 (upd q8.2.2.2.2.1 (Int32.toNatClampNeg q8.2.1) q9.1)] ++ swl sa b_K b_su b_wi b_wd b_ch b_tc)) (ws' := ([ob a_p1 7 [.ref a_p1_hall, .ref a_p1_ends, .ref a_p1_touchers, .ref a_p1_stops, .ref a_p1_silences, .int q9.1], ia g a_p1_ends 5 q8.2.2.2.2.2.1, ob a_p1_hall 6 [.ref a_p1_hall_seats, .int v_p1_hall_size, .int v_p1_hall_fall], ra g a_p1_hall_seats 5 (fun i => some (sa i)), ia g a_p1_silences 5 q9.2.1, ia g a_p1_stops 5 q9.2.2, ia g a_p1_touchers 5 q8.2.2.2.2.2.2.2.2.2, ob a_this 10 [.ref a_this_getters, .ref a_this_gains, .ref a_this_weights, .ref a_this_choices, .ref a_this_firstChoices, .int v_size, .int v_breaths, .int v_howMany], ia g a_this_choices 5 q13, ia g a_this_gains 1024 (upd q8.2.2.2.1 (Int32.toNatClampNeg q8.2.1) q12), ia g a_this_getters 1024 (upd q8.2.2.2.2.1 (Int32.toNatClampNeg q8.2.1) q9.1)] ++ swl sa b_K b_su b_wi b_wd b_ch b_tc)) F (c_X8_chooseNext l g a_this a_this_getters a_this_gains a_this_weights a_this_choices a_this_firstChoices v_size v_breaths v_howMany q8.2.2.1 hq13) qv_X8_chooseNext ml_X8_64 hw hA hK [7, 8] [0, 1, 2, 3, 4, 5, 6, 9, 10, 11, 12, 13, 14, 15] [0, 1, 2, 3, 4, 5, 6, 14, 15, 7, 8, 9, 10, 11, 12, 13] rfl rfl rfl rfl rfl (by decide) rfl rfl rfl (va_recv hK.1 hP (ci := 10) (q0 := 7) rfl rfl) rfl hl.1 rfl (Nat.le_of_ble_eq_true rfl) dX8_tryAll_87 ⟨(Nat.le_of_ble_eq_true rfl), (Nat.le_of_ble_eq_true rfl)⟩ ⟨(Nat.le_of_ble_eq_true rfl), (Nat.le_of_ble_eq_true rfl)⟩ (fun H locs hw => ?_)
          have hP := hw.1
          refine W.eq (g2 := F0 m 90 ls ([])) rfl ?_
          obtain ⟨z14, ez14⟩ : ∃ y : Int32, y = q8.2.1 + 1 := ⟨_, rfl⟩
          have hf := o_bnd ez14 hf
          refine lv_iinc (v := z14) (lv' := [(3, .int z14), (4, .int q8.1), (0, .ref a_this), (1, .ref a_p1), (2, .int x2)]) hx hb dX8_tryAll_90 hl (k := 1) rfl (by rw [ez14]; rfl) (by decide) rfl (fun ls hl => ?_)
          refine lv_goto (tgt := 10) hx hb dX8_tryAll_93 (by decide) ?_
          exact ih z14 q13 (upd q8.2.2.2.1 (Int32.toNatClampNeg q8.2.1) q12) (upd q8.2.2.2.2.1 (Int32.toNatClampNeg q8.2.1) q9.1) q8.2.2.2.2.2.1 q9.1 q9.2.1 q9.2.2 q8.2.2.2.2.2.2.2.2.2 _ hf _ _ ls hw (lv_sub hl [0, 2, 3, 4] rfl) kx
        · have hf := o_t h11 hf
          refine lv_iconst (v := 0) hx hb dX8_tryAll_73 (by decide) ?_
          refine lv_goto (tgt := 85) hx hb dX8_tryAll_74 (by decide) ?_
          refine w_iast (ws' := ([ob a_p1 7 [.ref a_p1_hall, .ref a_p1_ends, .ref a_p1_touchers, .ref a_p1_stops, .ref a_p1_silences, .int q9.1], ia g a_p1_ends 5 q8.2.2.2.2.2.1, ob a_p1_hall 6 [.ref a_p1_hall_seats, .int v_p1_hall_size, .int v_p1_hall_fall], ra g a_p1_hall_seats 5 (fun i => some (sa i)), ia g a_p1_silences 5 q9.2.1, ia g a_p1_stops 5 q9.2.2, ia g a_p1_touchers 5 q8.2.2.2.2.2.2.2.2.2, ob a_this 10 [.ref a_this_getters, .ref a_this_gains, .ref a_this_weights, .ref a_this_choices, .ref a_this_firstChoices, .int v_size, .int v_breaths, .int v_howMany], ia g a_this_choices 5 q8.2.2.1, ia g a_this_gains 1024 (upd q8.2.2.2.1 (Int32.toNatClampNeg q8.2.1) 0), ia g a_this_getters 1024 (upd q8.2.2.2.2.1 (Int32.toNatClampNeg q8.2.1) q9.1)] ++ swl sa b_K b_su b_wi b_wd b_ch b_tc)) F hK hw 9 rfl h10 rfl dX8_tryAll_85 (fun H locs hw => ?_)
          have hP := hw.1
          refine lv_aload_n hx hb dX8_tryAll_86 rfl (lv_at hl 2 rfl) ?_
          obtain ⟨q15, hq15, hf⟩ := o_bind hf
          refine k_dV (wr := ([ob a_p1 7 [.ref a_p1_hall, .ref a_p1_ends, .ref a_p1_touchers, .ref a_p1_stops, .ref a_p1_silences, .int q9.1], ia g a_p1_ends 5 q8.2.2.2.2.2.1, ob a_p1_hall 6 [.ref a_p1_hall_seats, .int v_p1_hall_size, .int v_p1_hall_fall], ra g a_p1_hall_seats 5 (fun i => some (sa i)), ia g a_p1_silences 5 q9.2.1, ia g a_p1_stops 5 q9.2.2, ia g a_p1_touchers 5 q8.2.2.2.2.2.2.2.2.2, ia g a_this_gains 1024 (upd q8.2.2.2.1 (Int32.toNatClampNeg q8.2.1) 0), ia g a_this_getters 1024 (upd q8.2.2.2.2.1 (Int32.toNatClampNeg q8.2.1) q9.1)] ++ swl sa b_K b_su b_wi b_wd b_ch b_tc)) (ws' := ([ob a_p1 7 [.ref a_p1_hall, .ref a_p1_ends, .ref a_p1_touchers, .ref a_p1_stops, .ref a_p1_silences, .int q9.1], ia g a_p1_ends 5 q8.2.2.2.2.2.1, ob a_p1_hall 6 [.ref a_p1_hall_seats, .int v_p1_hall_size, .int v_p1_hall_fall], ra g a_p1_hall_seats 5 (fun i => some (sa i)), ia g a_p1_silences 5 q9.2.1, ia g a_p1_stops 5 q9.2.2, ia g a_p1_touchers 5 q8.2.2.2.2.2.2.2.2.2, ob a_this 10 [.ref a_this_getters, .ref a_this_gains, .ref a_this_weights, .ref a_this_choices, .ref a_this_firstChoices, .int v_size, .int v_breaths, .int v_howMany], ia g a_this_choices 5 q15, ia g a_this_gains 1024 (upd q8.2.2.2.1 (Int32.toNatClampNeg q8.2.1) 0), ia g a_this_getters 1024 (upd q8.2.2.2.2.1 (Int32.toNatClampNeg q8.2.1) q9.1)] ++ swl sa b_K b_su b_wi b_wd b_ch b_tc)) F (c_X8_chooseNext l g a_this a_this_getters a_this_gains a_this_weights a_this_choices a_this_firstChoices v_size v_breaths v_howMany q8.2.2.1 hq15) qv_X8_chooseNext ml_X8_64 hw hA hK [7, 8] [0, 1, 2, 3, 4, 5, 6, 9, 10, 11, 12, 13, 14, 15] [0, 1, 2, 3, 4, 5, 6, 14, 15, 7, 8, 9, 10, 11, 12, 13] rfl rfl rfl rfl rfl (by decide) rfl rfl rfl (va_recv hK.1 hP (ci := 10) (q0 := 7) rfl rfl) rfl hl.1 rfl (Nat.le_of_ble_eq_true rfl) dX8_tryAll_87 ⟨(Nat.le_of_ble_eq_true rfl), (Nat.le_of_ble_eq_true rfl)⟩ ⟨(Nat.le_of_ble_eq_true rfl), (Nat.le_of_ble_eq_true rfl)⟩ (fun H locs hw => ?_)
          have hP := hw.1
          refine W.eq (g2 := F0 m 90 ls ([])) rfl ?_
          obtain ⟨z16, ez16⟩ : ∃ y : Int32, y = q8.2.1 + 1 := ⟨_, rfl⟩
          have hf := o_bnd ez16 hf
          refine lv_iinc (v := z16) (lv' := [(3, .int z16), (4, .int q8.1), (0, .ref a_this), (1, .ref a_p1), (2, .int x2)]) hx hb dX8_tryAll_90 hl (k := 1) rfl (by rw [ez16]; rfl) (by decide) rfl (fun ls hl => ?_)
          refine lv_goto (tgt := 10) hx hb dX8_tryAll_93 (by decide) ?_
          exact ih z16 q15 (upd q8.2.2.2.1 (Int32.toNatClampNeg q8.2.1) 0) (upd q8.2.2.2.2.1 (Int32.toNatClampNeg q8.2.1) q9.1) q8.2.2.2.2.2.1 q9.1 q9.2.1 q9.2.2 q8.2.2.2.2.2.2.2.2.2 _ hf _ _ ls hw (lv_sub hl [0, 2, 3, 4] rfl) kx
  unfold f_X8_tryAll at hf
  refine lv_aload_n hx hb dX8_tryAll_0 rfl (lv_at hl 1 rfl) ?_
  obtain ⟨q1, hq1, hf⟩ := o_bind hf
  refine k_dV (wr := [ia g a_p1_silences 5 v_p1_silences, ia g a_p1_stops 5 v_p1_stops, ob a_this 10 [.ref a_this_getters, .ref a_this_gains, .ref a_this_weights, .ref a_this_choices, .ref a_this_firstChoices, .int v_size, .int v_breaths, .int v_howMany], ia g a_this_choices 5 v_choices, ia g a_this_gains 1024 v_gains, ia g a_this_getters 1024 v_getters]) (ws' := ([ob a_p1 7 [.ref a_p1_hall, .ref a_p1_ends, .ref a_p1_touchers, .ref a_p1_stops, .ref a_p1_silences, .int v_p1_getter], ia g a_p1_ends 5 q1.1, ob a_p1_hall 6 [.ref a_p1_hall_seats, .int v_p1_hall_size, .int v_p1_hall_fall], ra g a_p1_hall_seats 5 (fun i => some (sa i)), ia g a_p1_silences 5 v_p1_silences, ia g a_p1_stops 5 v_p1_stops, ia g a_p1_touchers 5 q1.2, ob a_this 10 [.ref a_this_getters, .ref a_this_gains, .ref a_this_weights, .ref a_this_choices, .ref a_this_firstChoices, .int v_size, .int v_breaths, .int v_howMany], ia g a_this_choices 5 v_choices, ia g a_this_gains 1024 v_gains, ia g a_this_getters 1024 v_getters] ++ swl sa b_K b_su b_wi b_wd b_ch b_tc)) F (c_X2_takeAsItIs l g a_p1 a_p1_hall a_p1_ends a_p1_touchers a_p1_stops a_p1_silences a_p1_hall_seats sa v_p1_getter v_p1_ends v_p1_hall_size v_p1_hall_fall v_p1_touchers b_K b_su b_wi b_wd b_ch b_tc hK5 hq1) qv_X2_takeAsItIs ml_X8_73 hw hA hK [0, 1, 2, 3, 6, 11, 12, 13, 14, 15] [4, 5, 7, 8, 9, 10] [6, 7, 8, 9, 0, 1, 10, 2, 3, 4, 5, 11, 12, 13, 14, 15] rfl rfl rfl rfl rfl (by decide) rfl rfl rfl (va_recv hK.1 hP (ci := 7) (q0 := 0) rfl rfl) rfl hl.1 rfl (Nat.le_of_ble_eq_true rfl) dX8_tryAll_1 ⟨(Nat.le_of_ble_eq_true rfl), (Nat.le_of_ble_eq_true rfl)⟩ ⟨(Nat.le_of_ble_eq_true rfl), (Nat.le_of_ble_eq_true rfl)⟩ (fun H locs hw => ?_)
  have hP := hw.1
  refine W.eq (g2 := F0 m 4 ls ([])) rfl ?_
  refine lv_aload_n hx hb dX8_tryAll_4 rfl (lv_at hl 0 rfl) ?_
  obtain ⟨q2, hq2, hf⟩ := o_bind hf
  refine k_dV (wr := ([ob a_p1 7 [.ref a_p1_hall, .ref a_p1_ends, .ref a_p1_touchers, .ref a_p1_stops, .ref a_p1_silences, .int v_p1_getter], ia g a_p1_ends 5 q1.1, ob a_p1_hall 6 [.ref a_p1_hall_seats, .int v_p1_hall_size, .int v_p1_hall_fall], ra g a_p1_hall_seats 5 (fun i => some (sa i)), ia g a_p1_silences 5 v_p1_silences, ia g a_p1_stops 5 v_p1_stops, ia g a_p1_touchers 5 q1.2, ia g a_this_gains 1024 v_gains, ia g a_this_getters 1024 v_getters] ++ swl sa b_K b_su b_wi b_wd b_ch b_tc)) (ws' := ([ob a_p1 7 [.ref a_p1_hall, .ref a_p1_ends, .ref a_p1_touchers, .ref a_p1_stops, .ref a_p1_silences, .int v_p1_getter], ia g a_p1_ends 5 q1.1, ob a_p1_hall 6 [.ref a_p1_hall_seats, .int v_p1_hall_size, .int v_p1_hall_fall], ra g a_p1_hall_seats 5 (fun i => some (sa i)), ia g a_p1_silences 5 v_p1_silences, ia g a_p1_stops 5 v_p1_stops, ia g a_p1_touchers 5 q1.2, ob a_this 10 [.ref a_this_getters, .ref a_this_gains, .ref a_this_weights, .ref a_this_choices, .ref a_this_firstChoices, .int v_size, .int v_breaths, .int v_howMany], ia g a_this_choices 5 q2, ia g a_this_gains 1024 v_gains, ia g a_this_getters 1024 v_getters] ++ swl sa b_K b_su b_wi b_wd b_ch b_tc)) F (c_X8_chooseFirst l g a_this a_this_getters a_this_gains a_this_weights a_this_choices a_this_firstChoices v_size v_breaths v_howMany v_choices hq2) qv_X8_chooseFirst ml_X8_54 hw hA hK [7, 8] [0, 1, 2, 3, 4, 5, 6, 9, 10, 11, 12, 13, 14, 15] [0, 1, 2, 3, 4, 5, 6, 14, 15, 7, 8, 9, 10, 11, 12, 13] rfl rfl rfl rfl rfl (by decide) rfl rfl rfl (va_recv hK.1 hP (ci := 10) (q0 := 7) rfl rfl) rfl hl.1 rfl (Nat.le_of_ble_eq_true rfl) dX8_tryAll_5 ⟨(Nat.le_of_ble_eq_true rfl), (Nat.le_of_ble_eq_true rfl)⟩ ⟨(Nat.le_of_ble_eq_true rfl), (Nat.le_of_ble_eq_true rfl)⟩ (fun H locs hw => ?_)
  have hP := hw.1
  refine W.eq (g2 := F0 m 8 ls ([])) rfl ?_
  refine lv_iconst (v := 0) hx hb dX8_tryAll_8 (by decide) ?_
  refine lv_istore_n (lv' := [(3, .int 0), (0, .ref a_this), (1, .ref a_p1), (2, .int x2)]) hx hb dX8_tryAll_9 rfl hl (by decide) rfl (fun ls hl => ?_)
  obtain ⟨q17, hq17, hf⟩ := o_bind hf
  refine L10 _ 0 q2 v_gains v_getters q1.1 v_p1_getter v_p1_silences v_p1_stops q1.2 _ hq17 _ _ ls hw (lv_sub hl [0, 1, 2, 3] rfl) (fun H locs ls hw hl => ?_)
  have hP := hw.1
  cases hf
  exact r_cv F hQ ⟨rfl, rfl⟩ hw dX8_tryAll_96
def f_X8_gainIn (x1 : Int32) (x2 : Int32) (v_gains : Nat → Int32) (v_getters : Nat → Int32) : Option (Int32) := (if x1 < 0 ∨ 1024 ≤ Int32.toNatClampNeg x1 then none else (if (v_getters (Int32.toNatClampNeg x1)) = x2 then (some (v_gains (Int32.toNatClampNeg x1))) else (some 0)))
set_option maxRecDepth 100000 in
set_option maxHeartbeats 4000000 in
theorem c_X8_gainIn (l : Launch) (g : GG) (a_this : Nat) (a_this_getters : Nat) (a_this_gains : Nat) (a_this_weights : Nat) (a_this_choices : Nat) (a_this_firstChoices : Nat) (x1 : Int32) (x2 : Int32) (v_size : Int32) (v_breaths : Int32) (v_howMany : Int32) (v_gains : Nat → Int32) (v_getters : Nat → Int32) {r0 : Int32} (hf : f_X8_gainIn x1 x2 v_gains v_getters = some r0) : MR l g yX8_gainIn cX8_gainIn 3 (some .int) 0 0 [.ref a_this, .int x1, .int x2] [ob a_this 10 [.ref a_this_getters, .ref a_this_gains, .ref a_this_weights, .ref a_this_choices, .ref a_this_firstChoices, .int v_size, .int v_breaths, .int v_howMany], ia g a_this_gains 1024 v_gains, ia g a_this_getters 1024 v_getters] (some (.int r0)) := by
  refine MR.mk (by decide) (Nat.le_of_ble_eq_true rfl) ?_
  intro p e s m args below meth c ls Q F hK hP hl hQ
  have hx := F.1
  have hb := F.2.1
  have hml := F.2.2.2.1
  have hown := F.2.2.2.2.1
  have hts := F.2.2.2.2.2.1
  have hl : lv_has ls 3 [(0, .ref a_this), (1, .int x1), (2, .int x2)] := hl
  unfold f_X8_gainIn at hf
  refine lv_aload_n hx hb dX8_gainIn_0 rfl (lv_at hl 0 rfl) ?_
  refine w_get (ci := 10) F hK hP fb_X8 0 rfl rfl 0 (by decide) fl_X8_11 (fun _ h => h) rfl dX8_gainIn_1 ?_
  refine lv_iload_n hx hb dX8_gainIn_4 rfl (lv_at hl 1 rfl) ?_
  obtain ⟨h1, hf⟩ := o_chk hf
  refine w_iald F hK hP 2 rfl h1 dX8_gainIn_5 ?_
  refine lv_iload_n hx hb dX8_gainIn_6 rfl (lv_at hl 2 rfl) ?_
  refine lv_icmp_ne (tgt := 19) hx hb dX8_gainIn_7 (by decide) (fun h2 => ?_) (fun h2 => ?_)
  · have hf := o_f h2 hf
    refine lv_iconst (v := 0) hx hb dX8_gainIn_19 (by decide) ?_
    exact r_ri F hQ (Option.some.inj hf) dX8_gainIn_20
  · have hf := o_t h2 hf
    refine lv_aload_n hx hb dX8_gainIn_10 rfl (lv_at hl 0 rfl) ?_
    refine w_get (ci := 10) F hK hP fb_X8 0 rfl rfl 1 (by decide) fl_X8_15 (fun _ h => h) rfl dX8_gainIn_11 ?_
    refine lv_iload_n hx hb dX8_gainIn_14 rfl (lv_at hl 1 rfl) ?_
    refine w_iald F hK hP 1 rfl h1 dX8_gainIn_15 ?_
    refine lv_goto (tgt := 20) hx hb dX8_gainIn_16 (by decide) ?_
    exact r_ri F hQ (Option.some.inj hf) dX8_gainIn_20
def f_X8_wouldChange_29 (fuel : Nat) (x1 : Int32) (x2 : Int32) (v_breaths : Int32) (v_choices : Nat → Int32) (v_gains : Nat → Int32) (v_getters : Nat → Int32) (v_weights : Nat → Int32) (y5 : Int32) (y4 : Int32) (y3 : Int32) : Option (Int32) := match fuel with
  | 0 => none
  | k + 1 => (if v_breaths ≤ y5 then (some 0) else (if x2 < 0 ∨ 5 ≤ Int32.toNatClampNeg x2 then none else ((f_X8_gainIn (y4 + (y5 * (v_weights (Int32.toNatClampNeg x2)))) x2 v_gains v_getters).bind fun q6 => (if q6 ≤ y3 then (bnd (y5 + 1 : Int32) fun z8 => (f_X8_wouldChange_29 k x1 x2 v_breaths v_choices v_gains v_getters v_weights z8 y4 y3)) else (some 1)))))
def f_X8_wouldChange (x1 : Int32) (x2 : Int32) (v_breaths : Int32) (v_choices : Nat → Int32) (v_gains : Nat → Int32) (v_getters : Nat → Int32) (v_weights : Nat → Int32) : Option (Int32) := ((f_X8_gainIn x1 x2 v_gains v_getters).bind fun q1 => (if x2 < 0 ∨ 5 ≤ Int32.toNatClampNeg x2 then none else (bnd (x1 - (((v_choices (Int32.toNatClampNeg x2)) - 1) * (v_weights (Int32.toNatClampNeg x2)))) fun z3 => (f_X8_wouldChange_29 4096 x1 x2 v_breaths v_choices v_gains v_getters v_weights 0 z3 q1))))
set_option maxRecDepth 100000 in
set_option maxHeartbeats 4000000 in
theorem c_X8_wouldChange (l : Launch) (g : GG) (a_this : Nat) (a_this_getters : Nat) (a_this_gains : Nat) (a_this_weights : Nat) (a_this_choices : Nat) (a_this_firstChoices : Nat) (x1 : Int32) (x2 : Int32) (v_size : Int32) (v_breaths : Int32) (v_howMany : Int32) (v_choices : Nat → Int32) (v_gains : Nat → Int32) (v_getters : Nat → Int32) (v_weights : Nat → Int32) {r0 : Int32} (hf : f_X8_wouldChange x1 x2 v_breaths v_choices v_gains v_getters v_weights = some r0) : MR l g yX8_wouldChange cX8_wouldChange 6 (some .boolean) 1 22 [.ref a_this, .int x1, .int x2] [ob a_this 10 [.ref a_this_getters, .ref a_this_gains, .ref a_this_weights, .ref a_this_choices, .ref a_this_firstChoices, .int v_size, .int v_breaths, .int v_howMany], ia g a_this_choices 5 v_choices, ia g a_this_gains 1024 v_gains, ia g a_this_getters 1024 v_getters, ia g a_this_weights 5 v_weights] (some (.int r0)) := by
  refine MR.mk (by decide) (Nat.le_of_ble_eq_true rfl) ?_
  intro p e s m args below meth c ls Q F hK hP hl hQ
  have hx := F.1
  have hb := F.2.1
  have hml := F.2.2.2.1
  have hown := F.2.2.2.2.1
  have hts := F.2.2.2.2.2.1
  have hl : lv_has ls 6 [(0, .ref a_this), (1, .int x1), (2, .int x2)] := hl
  have L29 : ∀ (k : Nat) (y5 : Int32) (y4 : Int32) (y3 : Int32) (_q : Unit), f_X8_wouldChange_29 k x1 x2 v_breaths v_choices v_gains v_getters v_weights y5 y4 y3 = some r0 → ∀ (ls : Array Slot), lv_has ls 6 [(5, .int y5), (4, .int y4), (3, .int y3), (0, .ref a_this), (2, .int x2)] → W p l e (rmc 1 0 0 22) s m args below meth c s.heap [] 0 0 Q (F0 m 29 ls []) := by
    intro k
    induction k with
    | zero => intro y5 y4 y3 q hf; rw [f_X8_wouldChange_29] at hf; cases hf
    | succ k ih =>
      intro y5 y4 y3 q hf ls hl
      rw [f_X8_wouldChange_29] at hf
      refine lv_iload hx hb dX8_wouldChange_29 (lv_at hl 0 rfl) ?_
      refine lv_aload_n hx hb dX8_wouldChange_31 rfl (lv_at hl 3 rfl) ?_
      refine w_get (ci := 10) F hK hP fb_X8 0 rfl rfl 6 (by decide) fl_X8_40 (fun _ h => h) rfl dX8_wouldChange_32 ?_
      refine lv_icmp_ge (tgt := 67) hx hb dX8_wouldChange_35 (by decide) (fun h4 => ?_) (fun h4 => ?_)
      · have hf := o_t h4 hf
        refine lv_iconst (v := 0) hx hb dX8_wouldChange_67 (by decide) ?_
        exact r_rz F hQ (by decide) (Option.some.inj hf) dX8_wouldChange_68
      · have hf := o_f h4 hf
        refine lv_aload_n hx hb dX8_wouldChange_38 rfl (lv_at hl 3 rfl) ?_
        refine lv_iload hx hb dX8_wouldChange_39 (lv_at hl 1 rfl) ?_
        refine lv_iload hx hb dX8_wouldChange_41 (lv_at hl 0 rfl) ?_
        refine lv_aload_n hx hb dX8_wouldChange_43 rfl (lv_at hl 3 rfl) ?_
        refine w_get (ci := 10) F hK hP fb_X8 0 rfl rfl 2 (by decide) fl_X8_18 (fun _ h => h) rfl dX8_wouldChange_44 ?_
        refine lv_iload_n hx hb dX8_wouldChange_47 rfl (lv_at hl 4 rfl) ?_
        obtain ⟨h5, hf⟩ := o_chk hf
        refine w_iald F hK hP 4 rfl h5 dX8_wouldChange_48 ?_
        refine lv_imul hx hb dX8_wouldChange_49 ?_
        refine lv_iadd hx hb dX8_wouldChange_50 ?_
        refine lv_iload_n hx hb dX8_wouldChange_51 rfl (lv_at hl 4 rfl) ?_
        obtain ⟨q6, hq6, hf⟩ := o_bind hf
        refine k_rV F (c_X8_gainIn l g a_this a_this_getters a_this_gains a_this_weights a_this_choices a_this_firstChoices (y4 + (y5 * (v_weights (Int32.toNatClampNeg x2)))) x2 v_size v_breaths v_howMany v_gains v_getters hq6) qv_X8_gainIn ml_X8_94 (hP.sub [0, 2, 3] rfl) hK (va_recv hK.1 hP (ci := 10) (q0 := 0) rfl rfl) rfl hl.1 rfl (Nat.le_of_ble_eq_true rfl) dX8_wouldChange_52 ⟨(Nat.le_of_ble_eq_true rfl), (Nat.le_of_ble_eq_true rfl)⟩ ⟨(Nat.le_of_ble_eq_true rfl), (Nat.le_of_ble_eq_true rfl)⟩ ?_
        refine W.eq (g2 := F0 m 55 ls (.int q6 :: [])) rfl ?_
        refine lv_iload_n hx hb dX8_wouldChange_55 rfl (lv_at hl 2 rfl) ?_
        refine lv_icmp_le (tgt := 61) hx hb dX8_wouldChange_56 (by decide) (fun h7 => ?_) (fun h7 => ?_)
        · have hf := o_t h7 hf
          obtain ⟨z8, ez8⟩ : ∃ y : Int32, y = y5 + 1 := ⟨_, rfl⟩
          have hf := o_bnd ez8 hf
          refine lv_iinc (v := z8) (lv' := [(5, .int z8), (4, .int y4), (3, .int y3), (0, .ref a_this), (2, .int x2)]) hx hb dX8_wouldChange_61 hl (k := 0) rfl (by rw [ez8]; rfl) (by decide) rfl (fun ls hl => ?_)
          refine lv_goto (tgt := 29) hx hb dX8_wouldChange_64 (by decide) ?_
          exact ih z8 y4 y3 () hf ls (lv_sub hl [0, 1, 2, 3, 4] rfl)
        · have hf := o_f h7 hf
          refine lv_iconst (v := 1) hx hb dX8_wouldChange_59 (by decide) ?_
          exact r_rz F hQ (by decide) (Option.some.inj hf) dX8_wouldChange_60
  unfold f_X8_wouldChange at hf
  refine lv_aload_n hx hb dX8_wouldChange_0 rfl (lv_at hl 0 rfl) ?_
  refine lv_iload_n hx hb dX8_wouldChange_1 rfl (lv_at hl 1 rfl) ?_
  refine lv_iload_n hx hb dX8_wouldChange_2 rfl (lv_at hl 2 rfl) ?_
  obtain ⟨q1, hq1, hf⟩ := o_bind hf
  refine k_rV F (c_X8_gainIn l g a_this a_this_getters a_this_gains a_this_weights a_this_choices a_this_firstChoices x1 x2 v_size v_breaths v_howMany v_gains v_getters hq1) qv_X8_gainIn ml_X8_94 (hP.sub [0, 2, 3] rfl) hK (va_recv hK.1 hP (ci := 10) (q0 := 0) rfl rfl) rfl hl.1 rfl (Nat.le_of_ble_eq_true rfl) dX8_wouldChange_3 ⟨(Nat.le_of_ble_eq_true rfl), (Nat.le_of_ble_eq_true rfl)⟩ ⟨(Nat.le_of_ble_eq_true rfl), (Nat.le_of_ble_eq_true rfl)⟩ ?_
  refine W.eq (g2 := F0 m 6 ls (.int q1 :: [])) rfl ?_
  refine lv_istore_n (lv' := [(3, .int q1), (0, .ref a_this), (1, .int x1), (2, .int x2)]) hx hb dX8_wouldChange_6 rfl hl (by decide) rfl (fun ls hl => ?_)
  refine lv_iload_n hx hb dX8_wouldChange_7 rfl (lv_at hl 2 rfl) ?_
  refine lv_aload_n hx hb dX8_wouldChange_8 rfl (lv_at hl 1 rfl) ?_
  refine w_get (ci := 10) F hK hP fb_X8 0 rfl rfl 3 (by decide) fl_X8_21 (fun _ h => h) rfl dX8_wouldChange_9 ?_
  refine lv_iload_n hx hb dX8_wouldChange_12 rfl (lv_at hl 3 rfl) ?_
  obtain ⟨h2, hf⟩ := o_chk hf
  refine w_iald F hK hP 1 rfl h2 dX8_wouldChange_13 ?_
  refine lv_iconst (v := 1) hx hb dX8_wouldChange_14 (by decide) ?_
  refine lv_isub hx hb dX8_wouldChange_15 ?_
  refine lv_aload_n hx hb dX8_wouldChange_16 rfl (lv_at hl 1 rfl) ?_
  refine w_get (ci := 10) F hK hP fb_X8 0 rfl rfl 2 (by decide) fl_X8_18 (fun _ h => h) rfl dX8_wouldChange_17 ?_
  refine lv_iload_n hx hb dX8_wouldChange_20 rfl (lv_at hl 3 rfl) ?_
  refine w_iald F hK hP 4 rfl h2 dX8_wouldChange_21 ?_
  refine lv_imul hx hb dX8_wouldChange_22 ?_
  refine lv_isub hx hb dX8_wouldChange_23 ?_
  refine lv_topi (fun z3 ez3 => ?_)
  have hf := o_bnd ez3 hf
  refine lv_istore (lv' := [(4, .int z3), (3, .int q1), (0, .ref a_this), (1, .int x1), (2, .int x2)]) hx hb dX8_wouldChange_24 hl (by decide) rfl (fun ls hl => ?_)
  refine lv_iconst (v := 0) hx hb dX8_wouldChange_26 (by decide) ?_
  refine lv_istore (lv' := [(5, .int 0), (4, .int z3), (3, .int q1), (0, .ref a_this), (1, .int x1), (2, .int x2)]) hx hb dX8_wouldChange_27 hl (by decide) rfl (fun ls hl => ?_)
  exact L29 _ 0 z3 q1 () hf ls (lv_sub hl [0, 1, 2, 3, 5] rfl)
def f_X8_isRest_2 (fuel : Nat) (x1 : Int32) (v_breaths : Int32) (v_choices : Nat → Int32) (v_gains : Nat → Int32) (v_getters : Nat → Int32) (v_size : Int32) (v_weights : Nat → Int32) (y2 : Int32) : Option (Int32) := match fuel with
  | 0 => none
  | k + 1 => (if v_size ≤ y2 then (some 1) else ((f_X8_wouldChange x1 y2 v_breaths v_choices v_gains v_getters v_weights).bind fun q2 => (if q2 = 0 then (bnd (y2 + 1 : Int32) fun z4 => (f_X8_isRest_2 k x1 v_breaths v_choices v_gains v_getters v_size v_weights z4)) else (some 0))))
def f_X8_isRest (x1 : Int32) (v_breaths : Int32) (v_choices : Nat → Int32) (v_gains : Nat → Int32) (v_getters : Nat → Int32) (v_size : Int32) (v_weights : Nat → Int32) : Option (Int32) := (f_X8_isRest_2 4096 x1 v_breaths v_choices v_gains v_getters v_size v_weights 0)
set_option maxRecDepth 100000 in
set_option maxHeartbeats 4000000 in
theorem c_X8_isRest (l : Launch) (g : GG) (a_this : Nat) (a_this_getters : Nat) (a_this_gains : Nat) (a_this_weights : Nat) (a_this_choices : Nat) (a_this_firstChoices : Nat) (x1 : Int32) (v_size : Int32) (v_breaths : Int32) (v_howMany : Int32) (v_choices : Nat → Int32) (v_gains : Nat → Int32) (v_getters : Nat → Int32) (v_weights : Nat → Int32) {r0 : Int32} (hf : f_X8_isRest x1 v_breaths v_choices v_gains v_getters v_size v_weights = some r0) : MR l g yX8_isRest cX8_isRest 3 (some .boolean) 2 47 [.ref a_this, .int x1] [ob a_this 10 [.ref a_this_getters, .ref a_this_gains, .ref a_this_weights, .ref a_this_choices, .ref a_this_firstChoices, .int v_size, .int v_breaths, .int v_howMany], ia g a_this_choices 5 v_choices, ia g a_this_gains 1024 v_gains, ia g a_this_getters 1024 v_getters, ia g a_this_weights 5 v_weights] (some (.int r0)) := by
  refine MR.mk (by decide) (Nat.le_of_ble_eq_true rfl) ?_
  intro p e s m args below meth c ls Q F hK hP hl hQ
  have hx := F.1
  have hb := F.2.1
  have hml := F.2.2.2.1
  have hown := F.2.2.2.2.1
  have hts := F.2.2.2.2.2.1
  have hl : lv_has ls 3 [(0, .ref a_this), (1, .int x1)] := hl
  have L2 : ∀ (k : Nat) (y2 : Int32) (_q : Unit), f_X8_isRest_2 k x1 v_breaths v_choices v_gains v_getters v_size v_weights y2 = some r0 → ∀ (ls : Array Slot), lv_has ls 3 [(2, .int y2), (0, .ref a_this), (1, .int x1)] → W p l e (rmc 2 0 0 47) s m args below meth c s.heap [] 0 0 Q (F0 m 2 ls []) := by
    intro k
    induction k with
    | zero => intro y2 q hf; rw [f_X8_isRest_2] at hf; cases hf
    | succ k ih =>
      intro y2 q hf ls hl
      rw [f_X8_isRest_2] at hf
      refine lv_iload_n hx hb dX8_isRest_2 rfl (lv_at hl 0 rfl) ?_
      refine lv_aload_n hx hb dX8_isRest_3 rfl (lv_at hl 1 rfl) ?_
      refine w_get (ci := 10) F hK hP fb_X8 0 rfl rfl 5 (by decide) fl_X8_39 (fun _ h => h) rfl dX8_isRest_4 ?_
      refine lv_icmp_ge (tgt := 27) hx hb dX8_isRest_7 (by decide) (fun h1 => ?_) (fun h1 => ?_)
      · have hf := o_t h1 hf
        refine lv_iconst (v := 1) hx hb dX8_isRest_27 (by decide) ?_
        exact r_rz F hQ (by decide) (Option.some.inj hf) dX8_isRest_28
      · have hf := o_f h1 hf
        refine lv_aload_n hx hb dX8_isRest_10 rfl (lv_at hl 1 rfl) ?_
        refine lv_iload_n hx hb dX8_isRest_11 rfl (lv_at hl 2 rfl) ?_
        refine lv_iload_n hx hb dX8_isRest_12 rfl (lv_at hl 0 rfl) ?_
        obtain ⟨q2, hq2, hf⟩ := o_bind hf
        refine k_rV F (c_X8_wouldChange l g a_this a_this_getters a_this_gains a_this_weights a_this_choices a_this_firstChoices x1 y2 v_size v_breaths v_howMany v_choices v_gains v_getters v_weights hq2) qv_X8_wouldChange ml_X8_90 (hP.sub [0, 1, 2, 3, 4] rfl) hK (va_recv hK.1 hP (ci := 10) (q0 := 0) rfl rfl) rfl hl.1 rfl (Nat.le_of_ble_eq_true rfl) dX8_isRest_13 ⟨(Nat.le_of_ble_eq_true rfl), (Nat.le_of_ble_eq_true rfl)⟩ ⟨(Nat.le_of_ble_eq_true rfl), (Nat.le_of_ble_eq_true rfl)⟩ ?_
        refine W.eq (g2 := F0 m 16 ls (.int q2 :: [])) rfl ?_
        refine lv_if_eq (tgt := 21) hx hb dX8_isRest_16 (by decide) (fun h3 => ?_) (fun h3 => ?_)
        · have hf := o_t h3 hf
          obtain ⟨z4, ez4⟩ : ∃ y : Int32, y = y2 + 1 := ⟨_, rfl⟩
          have hf := o_bnd ez4 hf
          refine lv_iinc (v := z4) (lv' := [(2, .int z4), (0, .ref a_this), (1, .int x1)]) hx hb dX8_isRest_21 hl (k := 0) rfl (by rw [ez4]; rfl) (by decide) rfl (fun ls hl => ?_)
          refine lv_goto (tgt := 2) hx hb dX8_isRest_24 (by decide) ?_
          exact ih z4 () hf ls (lv_sub hl [0, 1, 2] rfl)
        · have hf := o_f h3 hf
          refine lv_iconst (v := 0) hx hb dX8_isRest_19 (by decide) ?_
          exact r_rz F hQ (by decide) (Option.some.inj hf) dX8_isRest_20
  unfold f_X8_isRest at hf
  refine lv_iconst (v := 0) hx hb dX8_isRest_0 (by decide) ?_
  refine lv_istore_n (lv' := [(2, .int 0), (0, .ref a_this), (1, .int x1)]) hx hb dX8_isRest_1 rfl hl (by decide) rfl (fun ls hl => ?_)
  exact L2 _ 0 () hf ls (lv_sub hl [0, 1, 2] rfl)
def f_X8_keepIfFirst_2 (fuel : Nat) (v_choices : Nat → Int32) (v_howMany : Int32) (v_size : Int32) (y1 : Int32) (w_v_firstChoices : Nat → Int32) : Option (Int32 × (Nat → Int32)) := match fuel with
  | 0 => none
  | k + 1 => (if v_size ≤ y1 then (some (y1, w_v_firstChoices)) else (if v_howMany = 0 then (if y1 < 0 ∨ 5 ≤ Int32.toNatClampNeg y1 then none else (bnd (y1 + 1 : Int32) fun z4 => (f_X8_keepIfFirst_2 k v_choices v_howMany v_size z4 (upd w_v_firstChoices (Int32.toNatClampNeg y1) (v_choices (Int32.toNatClampNeg y1)))))) else (some (y1, w_v_firstChoices))))
def f_X8_keepIfFirst (v_choices : Nat → Int32) (v_firstChoices : Nat → Int32) (v_howMany : Int32) (v_size : Int32) : Option ((Nat → Int32)) := ((f_X8_keepIfFirst_2 4096 v_choices v_howMany v_size 0 v_firstChoices).bind fun q5 => (some q5.2))
set_option maxRecDepth 100000 in
set_option maxHeartbeats 4000000 in
theorem c_X8_keepIfFirst (l : Launch) (g : GG) (a_this : Nat) (a_this_getters : Nat) (a_this_gains : Nat) (a_this_weights : Nat) (a_this_choices : Nat) (a_this_firstChoices : Nat) (v_size : Int32) (v_breaths : Int32) (v_howMany : Int32) (v_choices : Nat → Int32) (v_firstChoices : Nat → Int32) {r0 : Nat → Int32} (hf : f_X8_keepIfFirst v_choices v_firstChoices v_howMany v_size = some r0) : MD l g yX8_keepIfFirst cX8_keepIfFirst 2 none 0 0 [.ref a_this] [ob a_this 10 [.ref a_this_getters, .ref a_this_gains, .ref a_this_weights, .ref a_this_choices, .ref a_this_firstChoices, .int v_size, .int v_breaths, .int v_howMany], ia g a_this_choices 5 v_choices, ia g a_this_firstChoices 5 v_firstChoices] none [ob a_this 10 [.ref a_this_getters, .ref a_this_gains, .ref a_this_weights, .ref a_this_choices, .ref a_this_firstChoices, .int v_size, .int v_breaths, .int v_howMany], ia g a_this_choices 5 v_choices, ia g a_this_firstChoices 5 r0] := by
  refine MC.mk (by decide) (Nat.le_of_ble_eq_true rfl) ?_
  intro p e s m args below meth c ls Q A F hnm hK hw hA hl hQ
  have hP := hw.1
  have hx := F.1
  have hb := F.2.1
  have hml := F.2.2.2.1
  have hown := F.2.2.2.2.1
  have hts := F.2.2.2.2.2.1
  have hl : lv_has ls 2 [(0, .ref a_this)] := hl
  have L2 : ∀ (k : Nat) (y1 : Int32) (w_v_firstChoices : Nat → Int32) (q : Int32 × (Nat → Int32)), f_X8_keepIfFirst_2 k v_choices v_howMany v_size y1 w_v_firstChoices = some q → ∀ (H : Heap) (locs : List Loc) (ls : Array Slot), WD g A s.heap [ob a_this 10 [.ref a_this_getters, .ref a_this_gains, .ref a_this_weights, .ref a_this_choices, .ref a_this_firstChoices, .int v_size, .int v_breaths, .int v_howMany], ia g a_this_choices 5 v_choices, ia g a_this_firstChoices 5 w_v_firstChoices] H locs → lv_has ls 2 [(1, .int y1), (0, .ref a_this)] → (∀ (H : Heap) (locs : List Loc) (ls : Array Slot), WD g A s.heap [ob a_this 10 [.ref a_this_getters, .ref a_this_gains, .ref a_this_weights, .ref a_this_choices, .ref a_this_firstChoices, .int v_size, .int v_breaths, .int v_howMany], ia g a_this_choices 5 v_choices, ia g a_this_firstChoices 5 q.2] H locs → lv_has ls 2 [(1, .int q.1), (0, .ref a_this)] → W p l e (rmc 0 0 0 0) s m args below meth c H locs 0 0 Q (F0 m 35 ls [])) → W p l e (rmc 0 0 0 0) s m args below meth c H locs 0 0 Q (F0 m 2 ls []) := by
    intro k
    induction k with
    | zero => intro y1 w_v_firstChoices q hf; rw [f_X8_keepIfFirst_2] at hf; cases hf
    | succ k ih =>
      intro y1 w_v_firstChoices q hf H locs ls hw hl kx
      rw [f_X8_keepIfFirst_2] at hf
      have hP := hw.1
      refine lv_iload_n hx hb dX8_keepIfFirst_2 rfl (lv_at hl 0 rfl) ?_
      refine lv_aload_n hx hb dX8_keepIfFirst_3 rfl (lv_at hl 1 rfl) ?_
      refine w_get (ci := 10) F hK hP fb_X8 0 rfl rfl 5 (by decide) fl_X8_39 (fun _ h => h) rfl dX8_keepIfFirst_4 ?_
      refine lv_icmp_ge (tgt := 35) hx hb dX8_keepIfFirst_7 (by decide) (fun h1 => ?_) (fun h1 => ?_)
      · have hf := o_t h1 hf
        cases hf
        exact kx _ _ ls hw (lv_sub hl [0, 1] rfl)
      · have hf := o_f h1 hf
        refine lv_aload_n hx hb dX8_keepIfFirst_10 rfl (lv_at hl 1 rfl) ?_
        refine w_get (ci := 10) F hK hP fb_X8 0 rfl rfl 7 (by decide) fl_X8_51 (fun _ h => h) rfl dX8_keepIfFirst_11 ?_
        refine lv_if_ne (tgt := 35) hx hb dX8_keepIfFirst_14 (by decide) (fun h2 => ?_) (fun h2 => ?_)
        · have hf := o_f h2 hf
          cases hf
          exact kx _ _ ls hw (lv_sub hl [0, 1] rfl)
        · have hf := o_t h2 hf
          refine lv_aload_n hx hb dX8_keepIfFirst_17 rfl (lv_at hl 1 rfl) ?_
          refine w_get (ci := 10) F hK hP fb_X8 0 rfl rfl 4 (by decide) fl_X8_24 (fun _ h => h) rfl dX8_keepIfFirst_18 ?_
          refine lv_iload_n hx hb dX8_keepIfFirst_21 rfl (lv_at hl 0 rfl) ?_
          refine lv_aload_n hx hb dX8_keepIfFirst_22 rfl (lv_at hl 1 rfl) ?_
          refine w_get (ci := 10) F hK hP fb_X8 0 rfl rfl 3 (by decide) fl_X8_21 (fun _ h => h) rfl dX8_keepIfFirst_23 ?_
          refine lv_iload_n hx hb dX8_keepIfFirst_26 rfl (lv_at hl 0 rfl) ?_
          obtain ⟨h3, hf⟩ := o_chk hf
          refine w_iald F hK hP 1 rfl h3 dX8_keepIfFirst_27 ?_
          refine w_iast (ws' := [ob a_this 10 [.ref a_this_getters, .ref a_this_gains, .ref a_this_weights, .ref a_this_choices, .ref a_this_firstChoices, .int v_size, .int v_breaths, .int v_howMany], ia g a_this_choices 5 v_choices, ia g a_this_firstChoices 5 (upd w_v_firstChoices (Int32.toNatClampNeg y1) (v_choices (Int32.toNatClampNeg y1)))]) F hK hw 2 rfl h3 rfl dX8_keepIfFirst_28 (fun H locs hw => ?_)
          have hP := hw.1
          obtain ⟨z4, ez4⟩ : ∃ y : Int32, y = y1 + 1 := ⟨_, rfl⟩
          have hf := o_bnd ez4 hf
          refine lv_iinc (v := z4) (lv' := [(1, .int z4), (0, .ref a_this)]) hx hb dX8_keepIfFirst_29 hl (k := 0) rfl (by rw [ez4]; rfl) (by decide) rfl (fun ls hl => ?_)
          refine lv_goto (tgt := 2) hx hb dX8_keepIfFirst_32 (by decide) ?_
          exact ih z4 (upd w_v_firstChoices (Int32.toNatClampNeg y1) (v_choices (Int32.toNatClampNeg y1))) _ hf _ _ ls hw (lv_sub hl [0, 1] rfl) kx
  unfold f_X8_keepIfFirst at hf
  refine lv_iconst (v := 0) hx hb dX8_keepIfFirst_0 (by decide) ?_
  refine lv_istore_n (lv' := [(1, .int 0), (0, .ref a_this)]) hx hb dX8_keepIfFirst_1 rfl hl (by decide) rfl (fun ls hl => ?_)
  obtain ⟨q5, hq5, hf⟩ := o_bind hf
  refine L2 _ 0 v_firstChoices _ hq5 _ _ ls hw (lv_sub hl [0, 1] rfl) (fun H locs ls hw hl => ?_)
  have hP := hw.1
  cases hf
  exact r_cv F hQ ⟨rfl, rfl⟩ hw dX8_keepIfFirst_35
def f_X8_find_39 (fuel : Nat) (x2 : Int32) (b_K : Nat → Nat) (b_ch : Nat → Int32) (b_su : Nat → Int32) (b_tc : Nat → Int32) (b_wd : Nat → Int32) (b_wi : Nat → Int32) (v_p1_hall_fall : Int32) (v_p1_hall_size : Int32) (y4 : Int32) (y3 : Int32) (w_v_breaths : Int32) (w_v_choices : Nat → Int32) (w_v_firstChoices : Nat → Int32) (w_v_gains : Nat → Int32) (w_v_getters : Nat → Int32) (w_v_howMany : Int32) (w_v_p1_ends : Nat → Int32) (w_v_p1_getter : Int32) (w_v_p1_silences : Nat → Int32) (w_v_p1_stops : Nat → Int32) (w_v_p1_touchers : Nat → Int32) (w_v_size : Int32) (w_v_weights : Nat → Int32) : Option (Int32 × Int32 × Int32 × (Nat → Int32) × (Nat → Int32) × (Nat → Int32) × (Nat → Int32) × Int32 × (Nat → Int32) × Int32 × (Nat → Int32) × (Nat → Int32) × (Nat → Int32) × Int32 × (Nat → Int32)) := match fuel with
  | 0 => none
  | k + 1 => (if y3 ≤ y4 then (some (y4, y3, w_v_breaths, w_v_choices, w_v_firstChoices, w_v_gains, w_v_getters, w_v_howMany, w_v_p1_ends, w_v_p1_getter, w_v_p1_silences, w_v_p1_stops, w_v_p1_touchers, w_v_size, w_v_weights)) else ((f_X8_isRest y4 w_v_breaths w_v_choices w_v_gains w_v_getters w_v_size w_v_weights).bind fun q5 => (if q5 = 0 then ((f_X8_chooseNext w_v_breaths w_v_choices w_v_size).bind fun q7 => (bnd (y4 + 1 : Int32) fun z8 => (f_X8_find_39 k x2 b_K b_ch b_su b_tc b_wd b_wi v_p1_hall_fall v_p1_hall_size z8 y3 w_v_breaths q7 w_v_firstChoices w_v_gains w_v_getters w_v_howMany w_v_p1_ends w_v_p1_getter w_v_p1_silences w_v_p1_stops w_v_p1_touchers w_v_size w_v_weights))) else ((f_X8_keepIfFirst w_v_choices w_v_firstChoices w_v_howMany w_v_size).bind fun q9 => (bnd (w_v_howMany + 1) fun z10 => ((f_X8_chooseNext w_v_breaths w_v_choices w_v_size).bind fun q11 => (bnd (y4 + 1 : Int32) fun z12 => (f_X8_find_39 k x2 b_K b_ch b_su b_tc b_wd b_wi v_p1_hall_fall v_p1_hall_size z12 y3 w_v_breaths q11 q9 w_v_gains w_v_getters z10 w_v_p1_ends w_v_p1_getter w_v_p1_silences w_v_p1_stops w_v_p1_touchers w_v_size w_v_weights))))))))
def f_X8_find (x2 : Int32) (b_K : Nat → Nat) (b_ch : Nat → Int32) (b_su : Nat → Int32) (b_tc : Nat → Int32) (b_wd : Nat → Int32) (b_wi : Nat → Int32) (v_breaths : Int32) (v_choices : Nat → Int32) (v_firstChoices : Nat → Int32) (v_gains : Nat → Int32) (v_getters : Nat → Int32) (v_howMany : Int32) (v_p1_ends : Nat → Int32) (v_p1_getter : Int32) (v_p1_hall_fall : Int32) (v_p1_hall_size : Int32) (v_p1_silences : Nat → Int32) (v_p1_stops : Nat → Int32) (v_p1_touchers : Nat → Int32) (v_size : Int32) (v_weights : Nat → Int32) : Option (Int32 × (Nat → Int32) × (Nat → Int32) × (Nat → Int32) × (Nat → Int32) × Int32 × (Nat → Int32) × Int32 × (Nat → Int32) × (Nat → Int32) × (Nat → Int32) × Int32 × (Nat → Int32)) := ((f_X8_weigh x2 v_p1_hall_size v_weights).bind fun q1 => ((f_X8_tryAll q1.1 b_K b_ch b_su b_tc b_wd b_wi x2 v_choices v_gains v_getters v_p1_ends v_p1_getter v_p1_hall_fall v_p1_hall_size v_p1_silences v_p1_stops v_p1_touchers v_p1_hall_size).bind fun q2 => ((f_X8_chooseFirst q2.1 v_p1_hall_size).bind fun q3 => ((f_X8_find_39 4096 x2 b_K b_ch b_su b_tc b_wd b_wi v_p1_hall_fall v_p1_hall_size 0 q1.1 x2 q3 v_firstChoices q2.2.1 q2.2.2.1 0 q2.2.2.2.1 q2.2.2.2.2.1 q2.2.2.2.2.2.1 q2.2.2.2.2.2.2.1 q2.2.2.2.2.2.2.2 v_p1_hall_size q1.2).bind fun q13 => (some (q13.2.2.1, q13.2.2.2.1, q13.2.2.2.2.1, q13.2.2.2.2.2.1, q13.2.2.2.2.2.2.1, q13.2.2.2.2.2.2.2.1, q13.2.2.2.2.2.2.2.2.1, q13.2.2.2.2.2.2.2.2.2.1, q13.2.2.2.2.2.2.2.2.2.2.1, q13.2.2.2.2.2.2.2.2.2.2.2.1, q13.2.2.2.2.2.2.2.2.2.2.2.2.1, q13.2.2.2.2.2.2.2.2.2.2.2.2.2.1, q13.2.2.2.2.2.2.2.2.2.2.2.2.2.2))))))
set_option maxRecDepth 100000 in
set_option maxHeartbeats 4000000 in
theorem c_X8_find (l : Launch) (g : GG) (a_this : Nat) (a_p1 : Nat) (a_p1_hall : Nat) (a_p1_ends : Nat) (a_p1_touchers : Nat) (a_p1_stops : Nat) (a_p1_silences : Nat) (a_p1_hall_seats : Nat) (a_this_getters : Nat) (a_this_gains : Nat) (a_this_weights : Nat) (a_this_choices : Nat) (a_this_firstChoices : Nat) (sa : Nat → Nat) (x2 : Int32) (v_p1_getter : Int32) (v_p1_ends : Nat → Int32) (v_p1_hall_size : Int32) (v_p1_hall_fall : Int32) (v_p1_silences : Nat → Int32) (v_p1_stops : Nat → Int32) (v_p1_touchers : Nat → Int32) (v_size : Int32) (v_breaths : Int32) (v_howMany : Int32) (v_choices : Nat → Int32) (v_firstChoices : Nat → Int32) (v_gains : Nat → Int32) (v_getters : Nat → Int32) (v_weights : Nat → Int32) (b_K : Nat → Nat) (b_su : Nat → Int32) (b_wi : Nat → Int32) (b_wd : Nat → Int32) (b_ch : Nat → Int32) (b_tc : Nat → Int32) (hK5 : ∀ i, b_K i < 5) {r0 : Int32} {r1 : Nat → Int32} {r2 : Nat → Int32} {r3 : Nat → Int32} {r4 : Nat → Int32} {r5 : Int32} {r6 : Nat → Int32} {r7 : Int32} {r8 : Nat → Int32} {r9 : Nat → Int32} {r10 : Nat → Int32} {r11 : Int32} {r12 : Nat → Int32} (hf : f_X8_find x2 b_K b_ch b_su b_tc b_wd b_wi v_breaths v_choices v_firstChoices v_gains v_getters v_howMany v_p1_ends v_p1_getter v_p1_hall_fall v_p1_hall_size v_p1_silences v_p1_stops v_p1_touchers v_size v_weights = some (r0, r1, r2, r3, r4, r5, r6, r7, r8, r9, r10, r11, r12)) : MD l g yX8_find cX8_find 5 none 5 113 [.ref a_this, .ref a_p1, .int x2] ([ob a_p1 7 [.ref a_p1_hall, .ref a_p1_ends, .ref a_p1_touchers, .ref a_p1_stops, .ref a_p1_silences, .int v_p1_getter], ia g a_p1_ends 5 v_p1_ends, ob a_p1_hall 6 [.ref a_p1_hall_seats, .int v_p1_hall_size, .int v_p1_hall_fall], ra g a_p1_hall_seats 5 (fun i => some (sa i)), ia g a_p1_silences 5 v_p1_silences, ia g a_p1_stops 5 v_p1_stops, ia g a_p1_touchers 5 v_p1_touchers, ob a_this 10 [.ref a_this_getters, .ref a_this_gains, .ref a_this_weights, .ref a_this_choices, .ref a_this_firstChoices, .int v_size, .int v_breaths, .int v_howMany], ia g a_this_choices 5 v_choices, ia g a_this_firstChoices 5 v_firstChoices, ia g a_this_gains 1024 v_gains, ia g a_this_getters 1024 v_getters, ia g a_this_weights 5 v_weights] ++ swl sa b_K b_su b_wi b_wd b_ch b_tc) none ([ob a_p1 7 [.ref a_p1_hall, .ref a_p1_ends, .ref a_p1_touchers, .ref a_p1_stops, .ref a_p1_silences, .int r7], ia g a_p1_ends 5 r6, ob a_p1_hall 6 [.ref a_p1_hall_seats, .int v_p1_hall_size, .int v_p1_hall_fall], ra g a_p1_hall_seats 5 (fun i => some (sa i)), ia g a_p1_silences 5 r8, ia g a_p1_stops 5 r9, ia g a_p1_touchers 5 r10, ob a_this 10 [.ref a_this_getters, .ref a_this_gains, .ref a_this_weights, .ref a_this_choices, .ref a_this_firstChoices, .int r11, .int r0, .int r5], ia g a_this_choices 5 r1, ia g a_this_firstChoices 5 r2, ia g a_this_gains 1024 r3, ia g a_this_getters 1024 r4, ia g a_this_weights 5 r12] ++ swl sa b_K b_su b_wi b_wd b_ch b_tc) := by
  refine MC.mk (by decide) (Nat.le_of_ble_eq_true rfl) ?_
  intro p e s m args below meth c ls Q A F hnm hK hw hA hl hQ
  have hP := hw.1
  have hx := F.1
  have hb := F.2.1
  have hml := F.2.2.2.1
  have hown := F.2.2.2.2.1
  have hts := F.2.2.2.2.2.1
  have hl : lv_has ls 5 [(0, .ref a_this), (1, .ref a_p1), (2, .int x2)] := hl
  have L39 : ∀ (k : Nat) (y4 : Int32) (y3 : Int32) (w_v_breaths : Int32) (w_v_choices : Nat → Int32) (w_v_firstChoices : Nat → Int32) (w_v_gains : Nat → Int32) (w_v_getters : Nat → Int32) (w_v_howMany : Int32) (w_v_p1_ends : Nat → Int32) (w_v_p1_getter : Int32) (w_v_p1_silences : Nat → Int32) (w_v_p1_stops : Nat → Int32) (w_v_p1_touchers : Nat → Int32) (w_v_size : Int32) (w_v_weights : Nat → Int32) (q : Int32 × Int32 × Int32 × (Nat → Int32) × (Nat → Int32) × (Nat → Int32) × (Nat → Int32) × Int32 × (Nat → Int32) × Int32 × (Nat → Int32) × (Nat → Int32) × (Nat → Int32) × Int32 × (Nat → Int32)), f_X8_find_39 k x2 b_K b_ch b_su b_tc b_wd b_wi v_p1_hall_fall v_p1_hall_size y4 y3 w_v_breaths w_v_choices w_v_firstChoices w_v_gains w_v_getters w_v_howMany w_v_p1_ends w_v_p1_getter w_v_p1_silences w_v_p1_stops w_v_p1_touchers w_v_size w_v_weights = some q → ∀ (H : Heap) (locs : List Loc) (ls : Array Slot), WD g A s.heap ([ob a_p1 7 [.ref a_p1_hall, .ref a_p1_ends, .ref a_p1_touchers, .ref a_p1_stops, .ref a_p1_silences, .int w_v_p1_getter], ia g a_p1_ends 5 w_v_p1_ends, ob a_p1_hall 6 [.ref a_p1_hall_seats, .int v_p1_hall_size, .int v_p1_hall_fall], ra g a_p1_hall_seats 5 (fun i => some (sa i)), ia g a_p1_silences 5 w_v_p1_silences, ia g a_p1_stops 5 w_v_p1_stops, ia g a_p1_touchers 5 w_v_p1_touchers, ob a_this 10 [.ref a_this_getters, .ref a_this_gains, .ref a_this_weights, .ref a_this_choices, .ref a_this_firstChoices, .int w_v_size, .int w_v_breaths, .int w_v_howMany], ia g a_this_choices 5 w_v_choices, ia g a_this_firstChoices 5 w_v_firstChoices, ia g a_this_gains 1024 w_v_gains, ia g a_this_getters 1024 w_v_getters, ia g a_this_weights 5 w_v_weights] ++ swl sa b_K b_su b_wi b_wd b_ch b_tc) H locs → lv_has ls 5 [(4, .int y4), (3, .int y3), (0, .ref a_this)] → (∀ (H : Heap) (locs : List Loc) (ls : Array Slot), WD g A s.heap ([ob a_p1 7 [.ref a_p1_hall, .ref a_p1_ends, .ref a_p1_touchers, .ref a_p1_stops, .ref a_p1_silences, .int q.2.2.2.2.2.2.2.2.2.1], ia g a_p1_ends 5 q.2.2.2.2.2.2.2.2.1, ob a_p1_hall 6 [.ref a_p1_hall_seats, .int v_p1_hall_size, .int v_p1_hall_fall], ra g a_p1_hall_seats 5 (fun i => some (sa i)), ia g a_p1_silences 5 q.2.2.2.2.2.2.2.2.2.2.1, ia g a_p1_stops 5 q.2.2.2.2.2.2.2.2.2.2.2.1, ia g a_p1_touchers 5 q.2.2.2.2.2.2.2.2.2.2.2.2.1, ob a_this 10 [.ref a_this_getters, .ref a_this_gains, .ref a_this_weights, .ref a_this_choices, .ref a_this_firstChoices, .int q.2.2.2.2.2.2.2.2.2.2.2.2.2.1, .int q.2.2.1, .int q.2.2.2.2.2.2.2.1], ia g a_this_choices 5 q.2.2.2.1, ia g a_this_firstChoices 5 q.2.2.2.2.1, ia g a_this_gains 1024 q.2.2.2.2.2.1, ia g a_this_getters 1024 q.2.2.2.2.2.2.1, ia g a_this_weights 5 q.2.2.2.2.2.2.2.2.2.2.2.2.2.2] ++ swl sa b_K b_su b_wi b_wd b_ch b_tc) H locs → lv_has ls 5 [(4, .int q.1), (3, .int q.2.1), (0, .ref a_this)] → W p l e (rmc 5 0 0 113) s m args below meth c H locs 0 0 Q (F0 m 78 ls [])) → W p l e (rmc 5 0 0 113) s m args below meth c H locs 0 0 Q (F0 m 39 ls []) := by
    intro k
    induction k with
    | zero => intro y4 y3 w_v_breaths w_v_choices w_v_firstChoices w_v_gains w_v_getters w_v_howMany w_v_p1_ends w_v_p1_getter w_v_p1_silences w_v_p1_stops w_v_p1_touchers w_v_size w_v_weights q hf; rw [f_X8_find_39] at hf; cases hf
    | succ k ih =>
      intro y4 y3 w_v_breaths w_v_choices w_v_firstChoices w_v_gains w_v_getters w_v_howMany w_v_p1_ends w_v_p1_getter w_v_p1_silences w_v_p1_stops w_v_p1_touchers w_v_size w_v_weights q hf H locs ls hw hl kx
      rw [f_X8_find_39] at hf
      have hP := hw.1
      refine lv_iload hx hb dX8_find_39 (lv_at hl 0 rfl) ?_
      refine lv_iload_n hx hb dX8_find_41 rfl (lv_at hl 1 rfl) ?_
      refine lv_icmp_ge (tgt := 78) hx hb dX8_find_42 (by decide) (fun h4 => ?_) (fun h4 => ?_)
      · have hf := o_t h4 hf
        cases hf
        exact kx _ _ ls hw (lv_sub hl [0, 1, 2] rfl)
      · have hf := o_f h4 hf
        refine lv_aload_n hx hb dX8_find_45 rfl (lv_at hl 2 rfl) ?_
        refine lv_iload hx hb dX8_find_46 (lv_at hl 0 rfl) ?_
        obtain ⟨q5, hq5, hf⟩ := o_bind hf
        refine k_rV F (c_X8_isRest l g a_this a_this_getters a_this_gains a_this_weights a_this_choices a_this_firstChoices y4 w_v_size w_v_breaths w_v_howMany w_v_choices w_v_gains w_v_getters w_v_weights hq5) qv_X8_isRest ml_X8_57 (hP.sub [7, 8, 10, 11, 12] rfl) hK (va_recv hK.1 hP (ci := 10) (q0 := 7) rfl rfl) rfl hl.1 rfl (Nat.le_of_ble_eq_true rfl) dX8_find_48 ⟨(Nat.le_of_ble_eq_true rfl), (Nat.le_of_ble_eq_true rfl)⟩ ⟨(Nat.le_of_ble_eq_true rfl), (Nat.le_of_ble_eq_true rfl)⟩ ?_
        refine W.eq (g2 := F0 m 51 ls (.int q5 :: [])) rfl ?_
        refine lv_if_eq (tgt := 68) hx hb dX8_find_51 (by decide) (fun h6 => ?_) (fun h6 => ?_)
        · have hf := o_t h6 hf
          refine lv_aload_n hx hb dX8_find_68 rfl (lv_at hl 2 rfl) ?_
          obtain ⟨q7, hq7, hf⟩ := o_bind hf
          refine k_dV (wr := ([ob a_p1 7 [.ref a_p1_hall, .ref a_p1_ends, .ref a_p1_touchers, .ref a_p1_stops, .ref a_p1_silences, .int w_v_p1_getter], ia g a_p1_ends 5 w_v_p1_ends, ob a_p1_hall 6 [.ref a_p1_hall_seats, .int v_p1_hall_size, .int v_p1_hall_fall], ra g a_p1_hall_seats 5 (fun i => some (sa i)), ia g a_p1_silences 5 w_v_p1_silences, ia g a_p1_stops 5 w_v_p1_stops, ia g a_p1_touchers 5 w_v_p1_touchers, ia g a_this_firstChoices 5 w_v_firstChoices, ia g a_this_gains 1024 w_v_gains, ia g a_this_getters 1024 w_v_getters, ia g a_this_weights 5 w_v_weights] ++ swl sa b_K b_su b_wi b_wd b_ch b_tc)) (ws' := ([ob a_p1 7 [.ref a_p1_hall, .ref a_p1_ends, .ref a_p1_touchers, .ref a_p1_stops, .ref a_p1_silences, .int w_v_p1_getter], ia g a_p1_ends 5 w_v_p1_ends, ob a_p1_hall 6 [.ref a_p1_hall_seats, .int v_p1_hall_size, .int v_p1_hall_fall], ra g a_p1_hall_seats 5 (fun i => some (sa i)), ia g a_p1_silences 5 w_v_p1_silences, ia g a_p1_stops 5 w_v_p1_stops, ia g a_p1_touchers 5 w_v_p1_touchers, ob a_this 10 [.ref a_this_getters, .ref a_this_gains, .ref a_this_weights, .ref a_this_choices, .ref a_this_firstChoices, .int w_v_size, .int w_v_breaths, .int w_v_howMany], ia g a_this_choices 5 q7, ia g a_this_firstChoices 5 w_v_firstChoices, ia g a_this_gains 1024 w_v_gains, ia g a_this_getters 1024 w_v_getters, ia g a_this_weights 5 w_v_weights] ++ swl sa b_K b_su b_wi b_wd b_ch b_tc)) F (c_X8_chooseNext l g a_this a_this_getters a_this_gains a_this_weights a_this_choices a_this_firstChoices w_v_size w_v_breaths w_v_howMany w_v_choices hq7) qv_X8_chooseNext ml_X8_64 hw hA hK [7, 8] [0, 1, 2, 3, 4, 5, 6, 9, 10, 11, 12, 13, 14, 15, 16, 17] [0, 1, 2, 3, 4, 5, 6, 16, 17, 7, 8, 9, 10, 11, 12, 13, 14, 15] rfl rfl rfl rfl rfl (by decide) rfl rfl rfl (va_recv hK.1 hP (ci := 10) (q0 := 7) rfl rfl) rfl hl.1 rfl (Nat.le_of_ble_eq_true rfl) dX8_find_69 ⟨(Nat.le_of_ble_eq_true rfl), (Nat.le_of_ble_eq_true rfl)⟩ ⟨(Nat.le_of_ble_eq_true rfl), (Nat.le_of_ble_eq_true rfl)⟩ (fun H locs hw => ?_)
          have hP := hw.1
          refine W.eq (g2 := F0 m 72 ls ([])) rfl ?_
          obtain ⟨z8, ez8⟩ : ∃ y : Int32, y = y4 + 1 := ⟨_, rfl⟩
          have hf := o_bnd ez8 hf
          refine lv_iinc (v := z8) (lv' := [(4, .int z8), (3, .int y3), (0, .ref a_this)]) hx hb dX8_find_72 hl (k := 0) rfl (by rw [ez8]; rfl) (by decide) rfl (fun ls hl => ?_)
          refine lv_goto (tgt := 39) hx hb dX8_find_75 (by decide) ?_
          exact ih z8 y3 w_v_breaths q7 w_v_firstChoices w_v_gains w_v_getters w_v_howMany w_v_p1_ends w_v_p1_getter w_v_p1_silences w_v_p1_stops w_v_p1_touchers w_v_size w_v_weights _ hf _ _ ls hw (lv_sub hl [0, 1, 2] rfl) kx
        · have hf := o_f h6 hf
          refine lv_aload_n hx hb dX8_find_54 rfl (lv_at hl 2 rfl) ?_
          obtain ⟨q9, hq9, hf⟩ := o_bind hf
          refine k_dV (wr := ([ob a_p1 7 [.ref a_p1_hall, .ref a_p1_ends, .ref a_p1_touchers, .ref a_p1_stops, .ref a_p1_silences, .int w_v_p1_getter], ia g a_p1_ends 5 w_v_p1_ends, ob a_p1_hall 6 [.ref a_p1_hall_seats, .int v_p1_hall_size, .int v_p1_hall_fall], ra g a_p1_hall_seats 5 (fun i => some (sa i)), ia g a_p1_silences 5 w_v_p1_silences, ia g a_p1_stops 5 w_v_p1_stops, ia g a_p1_touchers 5 w_v_p1_touchers, ia g a_this_gains 1024 w_v_gains, ia g a_this_getters 1024 w_v_getters, ia g a_this_weights 5 w_v_weights] ++ swl sa b_K b_su b_wi b_wd b_ch b_tc)) (ws' := ([ob a_p1 7 [.ref a_p1_hall, .ref a_p1_ends, .ref a_p1_touchers, .ref a_p1_stops, .ref a_p1_silences, .int w_v_p1_getter], ia g a_p1_ends 5 w_v_p1_ends, ob a_p1_hall 6 [.ref a_p1_hall_seats, .int v_p1_hall_size, .int v_p1_hall_fall], ra g a_p1_hall_seats 5 (fun i => some (sa i)), ia g a_p1_silences 5 w_v_p1_silences, ia g a_p1_stops 5 w_v_p1_stops, ia g a_p1_touchers 5 w_v_p1_touchers, ob a_this 10 [.ref a_this_getters, .ref a_this_gains, .ref a_this_weights, .ref a_this_choices, .ref a_this_firstChoices, .int w_v_size, .int w_v_breaths, .int w_v_howMany], ia g a_this_choices 5 w_v_choices, ia g a_this_firstChoices 5 q9, ia g a_this_gains 1024 w_v_gains, ia g a_this_getters 1024 w_v_getters, ia g a_this_weights 5 w_v_weights] ++ swl sa b_K b_su b_wi b_wd b_ch b_tc)) F (c_X8_keepIfFirst l g a_this a_this_getters a_this_gains a_this_weights a_this_choices a_this_firstChoices w_v_size w_v_breaths w_v_howMany w_v_choices w_v_firstChoices hq9) qv_X8_keepIfFirst ml_X8_61 hw hA hK [7, 8, 9] [0, 1, 2, 3, 4, 5, 6, 10, 11, 12, 13, 14, 15, 16, 17] [0, 1, 2, 3, 4, 5, 6, 15, 16, 17, 7, 8, 9, 10, 11, 12, 13, 14] rfl rfl rfl rfl rfl (by decide) rfl rfl rfl (va_recv hK.1 hP (ci := 10) (q0 := 7) rfl rfl) rfl hl.1 rfl (Nat.le_of_ble_eq_true rfl) dX8_find_55 ⟨(Nat.le_of_ble_eq_true rfl), (Nat.le_of_ble_eq_true rfl)⟩ ⟨(Nat.le_of_ble_eq_true rfl), (Nat.le_of_ble_eq_true rfl)⟩ (fun H locs hw => ?_)
          have hP := hw.1
          refine W.eq (g2 := F0 m 58 ls ([])) rfl ?_
          refine lv_aload_n hx hb dX8_find_58 rfl (lv_at hl 2 rfl) ?_
          refine lv_dup hx hb dX8_find_59 rfl ?_
          refine w_get (ci := 10) F hK hP fb_X8 7 rfl rfl 7 (by decide) fl_X8_51 (fun _ h => h) rfl dX8_find_60 ?_
          refine lv_iconst (v := 1) hx hb dX8_find_63 (by decide) ?_
          refine lv_iadd hx hb dX8_find_64 ?_
          refine lv_topi (fun z10 ez10 => ?_)
          have hf := o_bnd ez10 hf
          refine w_put (ci := 10) (ws' := ([ob a_p1 7 [.ref a_p1_hall, .ref a_p1_ends, .ref a_p1_touchers, .ref a_p1_stops, .ref a_p1_silences, .int w_v_p1_getter], ia g a_p1_ends 5 w_v_p1_ends, ob a_p1_hall 6 [.ref a_p1_hall_seats, .int v_p1_hall_size, .int v_p1_hall_fall], ra g a_p1_hall_seats 5 (fun i => some (sa i)), ia g a_p1_silences 5 w_v_p1_silences, ia g a_p1_stops 5 w_v_p1_stops, ia g a_p1_touchers 5 w_v_p1_touchers, ob a_this 10 [.ref a_this_getters, .ref a_this_gains, .ref a_this_weights, .ref a_this_choices, .ref a_this_firstChoices, .int w_v_size, .int w_v_breaths, .int z10], ia g a_this_choices 5 w_v_choices, ia g a_this_firstChoices 5 q9, ia g a_this_gains 1024 w_v_gains, ia g a_this_getters 1024 w_v_getters, ia g a_this_weights 5 w_v_weights] ++ swl sa b_K b_su b_wi b_wd b_ch b_tc)) F hK hw fb_X8 7 rfl rfl 7 (by decide) fl_X8_51 (fun _ h => h) rfl rfl rfl rfl (Nat.le_of_ble_eq_true rfl) rfl dX8_find_65 (fun H locs hw => ?_)
          have hP := hw.1
          refine lv_aload_n hx hb dX8_find_68 rfl (lv_at hl 2 rfl) ?_
          obtain ⟨q11, hq11, hf⟩ := o_bind hf
          refine k_dV (wr := ([ob a_p1 7 [.ref a_p1_hall, .ref a_p1_ends, .ref a_p1_touchers, .ref a_p1_stops, .ref a_p1_silences, .int w_v_p1_getter], ia g a_p1_ends 5 w_v_p1_ends, ob a_p1_hall 6 [.ref a_p1_hall_seats, .int v_p1_hall_size, .int v_p1_hall_fall], ra g a_p1_hall_seats 5 (fun i => some (sa i)), ia g a_p1_silences 5 w_v_p1_silences, ia g a_p1_stops 5 w_v_p1_stops, ia g a_p1_touchers 5 w_v_p1_touchers, ia g a_this_firstChoices 5 q9, ia g a_this_gains 1024 w_v_gains, ia g a_this_getters 1024 w_v_getters, ia g a_this_weights 5 w_v_weights] ++ swl sa b_K b_su b_wi b_wd b_ch b_tc)) (ws' := ([ob a_p1 7 [.ref a_p1_hall, .ref a_p1_ends, .ref a_p1_touchers, .ref a_p1_stops, .ref a_p1_silences, .int w_v_p1_getter], ia g a_p1_ends 5 w_v_p1_ends, ob a_p1_hall 6 [.ref a_p1_hall_seats, .int v_p1_hall_size, .int v_p1_hall_fall], ra g a_p1_hall_seats 5 (fun i => some (sa i)), ia g a_p1_silences 5 w_v_p1_silences, ia g a_p1_stops 5 w_v_p1_stops, ia g a_p1_touchers 5 w_v_p1_touchers, ob a_this 10 [.ref a_this_getters, .ref a_this_gains, .ref a_this_weights, .ref a_this_choices, .ref a_this_firstChoices, .int w_v_size, .int w_v_breaths, .int z10], ia g a_this_choices 5 q11, ia g a_this_firstChoices 5 q9, ia g a_this_gains 1024 w_v_gains, ia g a_this_getters 1024 w_v_getters, ia g a_this_weights 5 w_v_weights] ++ swl sa b_K b_su b_wi b_wd b_ch b_tc)) F (c_X8_chooseNext l g a_this a_this_getters a_this_gains a_this_weights a_this_choices a_this_firstChoices w_v_size w_v_breaths z10 w_v_choices hq11) qv_X8_chooseNext ml_X8_64 hw hA hK [7, 8] [0, 1, 2, 3, 4, 5, 6, 9, 10, 11, 12, 13, 14, 15, 16, 17] [0, 1, 2, 3, 4, 5, 6, 16, 17, 7, 8, 9, 10, 11, 12, 13, 14, 15] rfl rfl rfl rfl rfl (by decide) rfl rfl rfl (va_recv hK.1 hP (ci := 10) (q0 := 7) rfl rfl) rfl hl.1 rfl (Nat.le_of_ble_eq_true rfl) dX8_find_69 ⟨(Nat.le_of_ble_eq_true rfl), (Nat.le_of_ble_eq_true rfl)⟩ ⟨(Nat.le_of_ble_eq_true rfl), (Nat.le_of_ble_eq_true rfl)⟩ (fun H locs hw => ?_)
          have hP := hw.1
          refine W.eq (g2 := F0 m 72 ls ([])) rfl ?_
          obtain ⟨z12, ez12⟩ : ∃ y : Int32, y = y4 + 1 := ⟨_, rfl⟩
          have hf := o_bnd ez12 hf
          refine lv_iinc (v := z12) (lv' := [(4, .int z12), (3, .int y3), (0, .ref a_this)]) hx hb dX8_find_72 hl (k := 0) rfl (by rw [ez12]; rfl) (by decide) rfl (fun ls hl => ?_)
          refine lv_goto (tgt := 39) hx hb dX8_find_75 (by decide) ?_
          exact ih z12 y3 w_v_breaths q11 q9 w_v_gains w_v_getters z10 w_v_p1_ends w_v_p1_getter w_v_p1_silences w_v_p1_stops w_v_p1_touchers w_v_size w_v_weights _ hf _ _ ls hw (lv_sub hl [0, 1, 2] rfl) kx
  unfold f_X8_find at hf
  refine lv_aload_n hx hb dX8_find_0 rfl (lv_at hl 0 rfl) ?_
  refine lv_aload_n hx hb dX8_find_1 rfl (lv_at hl 1 rfl) ?_
  refine w_get (ci := 7) F hK hP fb_X2 0 rfl rfl 0 (by decide) fl_X8_27 (fun _ h => h) rfl dX8_find_2 ?_
  refine w_get (ci := 6) F hK hP fb_X4 2 rfl rfl 1 (by decide) fl_X8_33 (fun _ h => h) rfl dX8_find_5 ?_
  refine w_put (ci := 10) (ws' := ([ob a_p1 7 [.ref a_p1_hall, .ref a_p1_ends, .ref a_p1_touchers, .ref a_p1_stops, .ref a_p1_silences, .int v_p1_getter], ia g a_p1_ends 5 v_p1_ends, ob a_p1_hall 6 [.ref a_p1_hall_seats, .int v_p1_hall_size, .int v_p1_hall_fall], ra g a_p1_hall_seats 5 (fun i => some (sa i)), ia g a_p1_silences 5 v_p1_silences, ia g a_p1_stops 5 v_p1_stops, ia g a_p1_touchers 5 v_p1_touchers, ob a_this 10 [.ref a_this_getters, .ref a_this_gains, .ref a_this_weights, .ref a_this_choices, .ref a_this_firstChoices, .int v_p1_hall_size, .int v_breaths, .int v_howMany], ia g a_this_choices 5 v_choices, ia g a_this_firstChoices 5 v_firstChoices, ia g a_this_gains 1024 v_gains, ia g a_this_getters 1024 v_getters, ia g a_this_weights 5 v_weights] ++ swl sa b_K b_su b_wi b_wd b_ch b_tc)) F hK hw fb_X8 7 rfl rfl 5 (by decide) fl_X8_39 (fun _ h => h) rfl rfl rfl rfl (Nat.le_of_ble_eq_true rfl) rfl dX8_find_8 (fun H locs hw => ?_)
  have hP := hw.1
  refine lv_aload_n hx hb dX8_find_11 rfl (lv_at hl 0 rfl) ?_
  refine lv_iload_n hx hb dX8_find_12 rfl (lv_at hl 2 rfl) ?_
  refine w_put (ci := 10) (ws' := ([ob a_p1 7 [.ref a_p1_hall, .ref a_p1_ends, .ref a_p1_touchers, .ref a_p1_stops, .ref a_p1_silences, .int v_p1_getter], ia g a_p1_ends 5 v_p1_ends, ob a_p1_hall 6 [.ref a_p1_hall_seats, .int v_p1_hall_size, .int v_p1_hall_fall], ra g a_p1_hall_seats 5 (fun i => some (sa i)), ia g a_p1_silences 5 v_p1_silences, ia g a_p1_stops 5 v_p1_stops, ia g a_p1_touchers 5 v_p1_touchers, ob a_this 10 [.ref a_this_getters, .ref a_this_gains, .ref a_this_weights, .ref a_this_choices, .ref a_this_firstChoices, .int v_p1_hall_size, .int x2, .int v_howMany], ia g a_this_choices 5 v_choices, ia g a_this_firstChoices 5 v_firstChoices, ia g a_this_gains 1024 v_gains, ia g a_this_getters 1024 v_getters, ia g a_this_weights 5 v_weights] ++ swl sa b_K b_su b_wi b_wd b_ch b_tc)) F hK hw fb_X8 7 rfl rfl 6 (by decide) fl_X8_40 (fun _ h => h) rfl rfl rfl rfl (Nat.le_of_ble_eq_true rfl) rfl dX8_find_13 (fun H locs hw => ?_)
  have hP := hw.1
  refine lv_aload_n hx hb dX8_find_16 rfl (lv_at hl 0 rfl) ?_
  obtain ⟨q1, hq1, hf⟩ := o_bind hf
  refine k_dV (wr := ([ob a_p1 7 [.ref a_p1_hall, .ref a_p1_ends, .ref a_p1_touchers, .ref a_p1_stops, .ref a_p1_silences, .int v_p1_getter], ia g a_p1_ends 5 v_p1_ends, ob a_p1_hall 6 [.ref a_p1_hall_seats, .int v_p1_hall_size, .int v_p1_hall_fall], ra g a_p1_hall_seats 5 (fun i => some (sa i)), ia g a_p1_silences 5 v_p1_silences, ia g a_p1_stops 5 v_p1_stops, ia g a_p1_touchers 5 v_p1_touchers, ia g a_this_choices 5 v_choices, ia g a_this_firstChoices 5 v_firstChoices, ia g a_this_gains 1024 v_gains, ia g a_this_getters 1024 v_getters] ++ swl sa b_K b_su b_wi b_wd b_ch b_tc)) (ws' := ([ob a_p1 7 [.ref a_p1_hall, .ref a_p1_ends, .ref a_p1_touchers, .ref a_p1_stops, .ref a_p1_silences, .int v_p1_getter], ia g a_p1_ends 5 v_p1_ends, ob a_p1_hall 6 [.ref a_p1_hall_seats, .int v_p1_hall_size, .int v_p1_hall_fall], ra g a_p1_hall_seats 5 (fun i => some (sa i)), ia g a_p1_silences 5 v_p1_silences, ia g a_p1_stops 5 v_p1_stops, ia g a_p1_touchers 5 v_p1_touchers, ob a_this 10 [.ref a_this_getters, .ref a_this_gains, .ref a_this_weights, .ref a_this_choices, .ref a_this_firstChoices, .int v_p1_hall_size, .int x2, .int v_howMany], ia g a_this_choices 5 v_choices, ia g a_this_firstChoices 5 v_firstChoices, ia g a_this_gains 1024 v_gains, ia g a_this_getters 1024 v_getters, ia g a_this_weights 5 q1.2] ++ swl sa b_K b_su b_wi b_wd b_ch b_tc)) F (c_X8_weigh l g a_this a_this_getters a_this_gains a_this_weights a_this_choices a_this_firstChoices v_p1_hall_size x2 v_howMany v_weights hq1) qv_X8_weigh ml_X8_43 hw hA hK [7, 12] [0, 1, 2, 3, 4, 5, 6, 8, 9, 10, 11, 13, 14, 15, 16, 17] [0, 1, 2, 3, 4, 5, 6, 16, 7, 8, 9, 10, 17, 11, 12, 13, 14, 15] rfl rfl rfl rfl rfl (by decide) rfl rfl rfl (va_recv hK.1 hP (ci := 10) (q0 := 7) rfl rfl) rfl hl.1 rfl (Nat.le_of_ble_eq_true rfl) dX8_find_17 ⟨(Nat.le_of_ble_eq_true rfl), (Nat.le_of_ble_eq_true rfl)⟩ ⟨(Nat.le_of_ble_eq_true rfl), (Nat.le_of_ble_eq_true rfl)⟩ (fun H locs hw => ?_)
  have hP := hw.1
  refine W.eq (g2 := F0 m 20 ls (.int q1.1 :: [])) rfl ?_
  refine lv_istore_n (lv' := [(3, .int q1.1), (0, .ref a_this), (1, .ref a_p1), (2, .int x2)]) hx hb dX8_find_20 rfl hl (by decide) rfl (fun ls hl => ?_)
  refine lv_aload_n hx hb dX8_find_21 rfl (lv_at hl 1 rfl) ?_
  refine lv_aload_n hx hb dX8_find_22 rfl (lv_at hl 2 rfl) ?_
  refine lv_iload_n hx hb dX8_find_23 rfl (lv_at hl 0 rfl) ?_
  obtain ⟨q2, hq2, hf⟩ := o_bind hf
  refine k_dV (wr := [ia g a_this_firstChoices 5 v_firstChoices, ia g a_this_weights 5 q1.2]) (ws' := ([ob a_p1 7 [.ref a_p1_hall, .ref a_p1_ends, .ref a_p1_touchers, .ref a_p1_stops, .ref a_p1_silences, .int q2.2.2.2.2.1], ia g a_p1_ends 5 q2.2.2.2.1, ob a_p1_hall 6 [.ref a_p1_hall_seats, .int v_p1_hall_size, .int v_p1_hall_fall], ra g a_p1_hall_seats 5 (fun i => some (sa i)), ia g a_p1_silences 5 q2.2.2.2.2.2.1, ia g a_p1_stops 5 q2.2.2.2.2.2.2.1, ia g a_p1_touchers 5 q2.2.2.2.2.2.2.2, ob a_this 10 [.ref a_this_getters, .ref a_this_gains, .ref a_this_weights, .ref a_this_choices, .ref a_this_firstChoices, .int v_p1_hall_size, .int x2, .int v_howMany], ia g a_this_choices 5 q2.1, ia g a_this_firstChoices 5 v_firstChoices, ia g a_this_gains 1024 q2.2.1, ia g a_this_getters 1024 q2.2.2.1, ia g a_this_weights 5 q1.2] ++ swl sa b_K b_su b_wi b_wd b_ch b_tc)) F (c_X8_tryAll l g a_this a_p1 a_p1_hall a_p1_ends a_p1_touchers a_p1_stops a_p1_silences a_p1_hall_seats a_this_getters a_this_gains a_this_weights a_this_choices a_this_firstChoices sa q1.1 v_p1_getter v_p1_ends v_p1_hall_size v_p1_hall_fall v_p1_silences v_p1_stops v_p1_touchers v_p1_hall_size x2 v_howMany v_choices v_gains v_getters b_K b_su b_wi b_wd b_ch b_tc hK5 hq2) qv_X8_tryAll ml_X8_47 hw hA hK [0, 1, 2, 3, 4, 5, 6, 7, 8, 10, 11, 13, 14, 15, 16, 17] [9, 12] [2, 3, 4, 5, 6, 7, 8, 9, 10, 0, 11, 12, 1, 13, 14, 15, 16, 17] rfl rfl rfl rfl rfl (by decide) rfl rfl rfl (va_recv hK.1 hP (ci := 10) (q0 := 7) rfl rfl) rfl hl.1 rfl (Nat.le_of_ble_eq_true rfl) dX8_find_24 ⟨(Nat.le_of_ble_eq_true rfl), (Nat.le_of_ble_eq_true rfl)⟩ ⟨(Nat.le_of_ble_eq_true rfl), (Nat.le_of_ble_eq_true rfl)⟩ (fun H locs hw => ?_)
  have hP := hw.1
  refine W.eq (g2 := F0 m 27 ls ([])) rfl ?_
  refine lv_aload_n hx hb dX8_find_27 rfl (lv_at hl 1 rfl) ?_
  refine lv_iconst (v := 0) hx hb dX8_find_28 (by decide) ?_
  refine w_put (ci := 10) (ws' := ([ob a_p1 7 [.ref a_p1_hall, .ref a_p1_ends, .ref a_p1_touchers, .ref a_p1_stops, .ref a_p1_silences, .int q2.2.2.2.2.1], ia g a_p1_ends 5 q2.2.2.2.1, ob a_p1_hall 6 [.ref a_p1_hall_seats, .int v_p1_hall_size, .int v_p1_hall_fall], ra g a_p1_hall_seats 5 (fun i => some (sa i)), ia g a_p1_silences 5 q2.2.2.2.2.2.1, ia g a_p1_stops 5 q2.2.2.2.2.2.2.1, ia g a_p1_touchers 5 q2.2.2.2.2.2.2.2, ob a_this 10 [.ref a_this_getters, .ref a_this_gains, .ref a_this_weights, .ref a_this_choices, .ref a_this_firstChoices, .int v_p1_hall_size, .int x2, .int 0], ia g a_this_choices 5 q2.1, ia g a_this_firstChoices 5 v_firstChoices, ia g a_this_gains 1024 q2.2.1, ia g a_this_getters 1024 q2.2.2.1, ia g a_this_weights 5 q1.2] ++ swl sa b_K b_su b_wi b_wd b_ch b_tc)) F hK hw fb_X8 7 rfl rfl 7 (by decide) fl_X8_51 (fun _ h => h) rfl rfl rfl rfl (Nat.le_of_ble_eq_true rfl) rfl dX8_find_29 (fun H locs hw => ?_)
  have hP := hw.1
  refine lv_aload_n hx hb dX8_find_32 rfl (lv_at hl 1 rfl) ?_
  obtain ⟨q3, hq3, hf⟩ := o_bind hf
  refine k_dV (wr := ([ob a_p1 7 [.ref a_p1_hall, .ref a_p1_ends, .ref a_p1_touchers, .ref a_p1_stops, .ref a_p1_silences, .int q2.2.2.2.2.1], ia g a_p1_ends 5 q2.2.2.2.1, ob a_p1_hall 6 [.ref a_p1_hall_seats, .int v_p1_hall_size, .int v_p1_hall_fall], ra g a_p1_hall_seats 5 (fun i => some (sa i)), ia g a_p1_silences 5 q2.2.2.2.2.2.1, ia g a_p1_stops 5 q2.2.2.2.2.2.2.1, ia g a_p1_touchers 5 q2.2.2.2.2.2.2.2, ia g a_this_firstChoices 5 v_firstChoices, ia g a_this_gains 1024 q2.2.1, ia g a_this_getters 1024 q2.2.2.1, ia g a_this_weights 5 q1.2] ++ swl sa b_K b_su b_wi b_wd b_ch b_tc)) (ws' := ([ob a_p1 7 [.ref a_p1_hall, .ref a_p1_ends, .ref a_p1_touchers, .ref a_p1_stops, .ref a_p1_silences, .int q2.2.2.2.2.1], ia g a_p1_ends 5 q2.2.2.2.1, ob a_p1_hall 6 [.ref a_p1_hall_seats, .int v_p1_hall_size, .int v_p1_hall_fall], ra g a_p1_hall_seats 5 (fun i => some (sa i)), ia g a_p1_silences 5 q2.2.2.2.2.2.1, ia g a_p1_stops 5 q2.2.2.2.2.2.2.1, ia g a_p1_touchers 5 q2.2.2.2.2.2.2.2, ob a_this 10 [.ref a_this_getters, .ref a_this_gains, .ref a_this_weights, .ref a_this_choices, .ref a_this_firstChoices, .int v_p1_hall_size, .int x2, .int 0], ia g a_this_choices 5 q3, ia g a_this_firstChoices 5 v_firstChoices, ia g a_this_gains 1024 q2.2.1, ia g a_this_getters 1024 q2.2.2.1, ia g a_this_weights 5 q1.2] ++ swl sa b_K b_su b_wi b_wd b_ch b_tc)) F (c_X8_chooseFirst l g a_this a_this_getters a_this_gains a_this_weights a_this_choices a_this_firstChoices v_p1_hall_size x2 0 q2.1 hq3) qv_X8_chooseFirst ml_X8_54 hw hA hK [7, 8] [0, 1, 2, 3, 4, 5, 6, 9, 10, 11, 12, 13, 14, 15, 16, 17] [0, 1, 2, 3, 4, 5, 6, 16, 17, 7, 8, 9, 10, 11, 12, 13, 14, 15] rfl rfl rfl rfl rfl (by decide) rfl rfl rfl (va_recv hK.1 hP (ci := 10) (q0 := 7) rfl rfl) rfl hl.1 rfl (Nat.le_of_ble_eq_true rfl) dX8_find_33 ⟨(Nat.le_of_ble_eq_true rfl), (Nat.le_of_ble_eq_true rfl)⟩ ⟨(Nat.le_of_ble_eq_true rfl), (Nat.le_of_ble_eq_true rfl)⟩ (fun H locs hw => ?_)
  have hP := hw.1
  refine W.eq (g2 := F0 m 36 ls ([])) rfl ?_
  refine lv_iconst (v := 0) hx hb dX8_find_36 (by decide) ?_
  refine lv_istore (lv' := [(4, .int 0), (3, .int q1.1), (0, .ref a_this), (1, .ref a_p1), (2, .int x2)]) hx hb dX8_find_37 hl (by decide) rfl (fun ls hl => ?_)
  obtain ⟨q13, hq13, hf⟩ := o_bind hf
  refine L39 _ 0 q1.1 x2 q3 v_firstChoices q2.2.1 q2.2.2.1 0 q2.2.2.2.1 q2.2.2.2.2.1 q2.2.2.2.2.2.1 q2.2.2.2.2.2.2.1 q2.2.2.2.2.2.2.2 v_p1_hall_size q1.2 _ hq13 _ _ ls hw (lv_sub hl [0, 1, 2] rfl) (fun H locs ls hw hl => ?_)
  have hP := hw.1
  cases hf
  exact r_cv F hQ ⟨rfl, rfl⟩ hw dX8_find_78
