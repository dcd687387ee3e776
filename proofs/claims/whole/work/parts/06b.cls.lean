def f_X2_run_6 (fuel : Nat) (b_K : Nat → Nat) (v_ends : Nat → Int32) (v_hall_size : Int32) (v_touchers : Nat → Int32) (y1 : Int32) (w_v_getter : Int32) (w_v_silences : Nat → Int32) (w_v_stops : Nat → Int32) : Option (Int32 × Int32 × (Nat → Int32) × (Nat → Int32)) := match fuel with
  | 0 => none
  | k + 1 => (if v_hall_size ≤ y1 then (some (y1, w_v_getter, w_v_silences, w_v_stops)) else (if y1 < 0 ∨ 5 ≤ Int32.toNatClampNeg y1 then none else (bnd (y1 + 1 : Int32) fun z4 => (f_X2_run_6 k b_K v_ends v_hall_size v_touchers z4 w_v_getter (upd w_v_silences (Int32.toNatClampNeg y1) ((w_v_stops (Int32.toNatClampNeg y1)) + (echF (b_K (Int32.toNatClampNeg y1))))) w_v_stops))))
def f_X2_run (b_K : Nat → Nat) (v_ends : Nat → Int32) (v_getter : Int32) (v_hall_size : Int32) (v_silences : Nat → Int32) (v_stops : Nat → Int32) (v_touchers : Nat → Int32) : Option (Int32 × (Nat → Int32) × (Nat → Int32)) := ((f_X2_findStops v_ends v_hall_size v_stops v_touchers).bind fun q1 => ((f_X2_run_6 4096 b_K v_ends v_hall_size v_touchers 0 v_getter v_silences q1).bind fun q5 => ((f_X2_findGetter q5.2.1 v_hall_size q5.2.2.1).bind fun q6 => (some (q6, q5.2.2.1, q5.2.2.2)))))
set_option maxRecDepth 100000 in
set_option maxHeartbeats 4000000 in
theorem c_X2_run (l : Launch) (g : GG) (a_this : Nat) (a_this_hall : Nat) (a_this_ends : Nat) (a_this_touchers : Nat) (a_this_stops : Nat) (a_this_silences : Nat) (a_this_hall_seats : Nat) (sa : Nat → Nat) (v_getter : Int32) (v_ends : Nat → Int32) (v_hall_size : Int32) (v_hall_fall : Int32) (v_silences : Nat → Int32) (v_stops : Nat → Int32) (v_touchers : Nat → Int32) (b_K : Nat → Nat) (b_su : Nat → Int32) (b_wi : Nat → Int32) (b_wd : Nat → Int32) (b_ch : Nat → Int32) (b_tc : Nat → Int32) (hK5 : ∀ i, b_K i < 5) {r0 : Int32} {r1 : Nat → Int32} {r2 : Nat → Int32} (hf : f_X2_run b_K v_ends v_getter v_hall_size v_silences v_stops v_touchers = some (r0, r1, r2)) : MD l g yX2_run cX2_run 2 none 3 68 [.ref a_this] ([ob a_this 7 [.ref a_this_hall, .ref a_this_ends, .ref a_this_touchers, .ref a_this_stops, .ref a_this_silences, .int v_getter], ia g a_this_ends 5 v_ends, ob a_this_hall 6 [.ref a_this_hall_seats, .int v_hall_size, .int v_hall_fall], ra g a_this_hall_seats 5 (fun i => some (sa i)), ia g a_this_silences 5 v_silences, ia g a_this_stops 5 v_stops, ia g a_this_touchers 5 v_touchers] ++ swl sa b_K b_su b_wi b_wd b_ch b_tc) none ([ob a_this 7 [.ref a_this_hall, .ref a_this_ends, .ref a_this_touchers, .ref a_this_stops, .ref a_this_silences, .int r0], ia g a_this_ends 5 v_ends, ob a_this_hall 6 [.ref a_this_hall_seats, .int v_hall_size, .int v_hall_fall], ra g a_this_hall_seats 5 (fun i => some (sa i)), ia g a_this_silences 5 r1, ia g a_this_stops 5 r2, ia g a_this_touchers 5 v_touchers] ++ swl sa b_K b_su b_wi b_wd b_ch b_tc) := by
  refine MC.mk (by decide) (Nat.le_of_ble_eq_true rfl) ?_
  intro p e s m args below meth c ls Q A F hnm hK hw hA hl hQ
  have hP := hw.1
  have hx := F.1
  have hb := F.2.1
  have hml := F.2.2.2.1
  have hown := F.2.2.2.2.1
  have hts := F.2.2.2.2.2.1
  have hl : lv_has ls 2 [(0, .ref a_this)] := hl
  have L6 : ∀ (k : Nat) (y1 : Int32) (w_v_getter : Int32) (w_v_silences : Nat → Int32) (w_v_stops : Nat → Int32) (q : Int32 × Int32 × (Nat → Int32) × (Nat → Int32)), f_X2_run_6 k b_K v_ends v_hall_size v_touchers y1 w_v_getter w_v_silences w_v_stops = some q → ∀ (H : Heap) (locs : List Loc) (ls : Array Slot), WD g A s.heap ([ob a_this 7 [.ref a_this_hall, .ref a_this_ends, .ref a_this_touchers, .ref a_this_stops, .ref a_this_silences, .int w_v_getter], ia g a_this_ends 5 v_ends, ob a_this_hall 6 [.ref a_this_hall_seats, .int v_hall_size, .int v_hall_fall], ra g a_this_hall_seats 5 (fun i => some (sa i)), ia g a_this_silences 5 w_v_silences, ia g a_this_stops 5 w_v_stops, ia g a_this_touchers 5 v_touchers] ++ swl sa b_K b_su b_wi b_wd b_ch b_tc) H locs → lv_has ls 2 [(1, .int y1), (0, .ref a_this)] → (∀ (H : Heap) (locs : List Loc) (ls : Array Slot), WD g A s.heap ([ob a_this 7 [.ref a_this_hall, .ref a_this_ends, .ref a_this_touchers, .ref a_this_stops, .ref a_this_silences, .int q.2.1], ia g a_this_ends 5 v_ends, ob a_this_hall 6 [.ref a_this_hall_seats, .int v_hall_size, .int v_hall_fall], ra g a_this_hall_seats 5 (fun i => some (sa i)), ia g a_this_silences 5 q.2.2.1, ia g a_this_stops 5 q.2.2.2, ia g a_this_touchers 5 v_touchers] ++ swl sa b_K b_su b_wi b_wd b_ch b_tc) H locs → lv_has ls 2 [(1, .int q.1), (0, .ref a_this)] → W p l e (rmc 3 0 0 68) s m args below meth c H locs 0 0 Q (F0 m 48 ls [])) → W p l e (rmc 3 0 0 68) s m args below meth c H locs 0 0 Q (F0 m 6 ls []) := by
    intro k
    induction k with
    | zero => intro y1 w_v_getter w_v_silences w_v_stops q hf; rw [f_X2_run_6] at hf; cases hf
    | succ k ih =>
      intro y1 w_v_getter w_v_silences w_v_stops q hf H locs ls hw hl kx
      rw [f_X2_run_6] at hf
      have hP := hw.1
      refine lv_iload_n hx hb dX2_run_6 rfl (lv_at hl 0 rfl) ?_
      refine lv_aload_n hx hb dX2_run_7 rfl (lv_at hl 1 rfl) ?_
      refine w_get (ci := 7) F hK hP fb_X2 0 rfl rfl 0 (by decide) fl_X2_12 (fun _ h => h) rfl dX2_run_8 ?_
      refine w_get (ci := 6) F hK hP fb_X4 2 rfl rfl 1 (by decide) fl_X2_35 (fun _ h => h) rfl dX2_run_11 ?_
      refine lv_icmp_ge (tgt := 48) hx hb dX2_run_14 (by decide) (fun h2 => ?_) (fun h2 => ?_)
      · have hf := o_t h2 hf
        cases hf
        exact kx _ _ ls hw (lv_sub hl [0, 1] rfl)
      · have hf := o_f h2 hf
        refine lv_aload_n hx hb dX2_run_17 rfl (lv_at hl 1 rfl) ?_
        refine w_get (ci := 7) F hK hP fb_X2 0 rfl rfl 4 (by decide) fl_X2_28 (fun _ h => h) rfl dX2_run_18 ?_
        refine lv_iload_n hx hb dX2_run_21 rfl (lv_at hl 0 rfl) ?_
        refine lv_aload_n hx hb dX2_run_22 rfl (lv_at hl 1 rfl) ?_
        refine w_get (ci := 7) F hK hP fb_X2 0 rfl rfl 3 (by decide) fl_X2_25 (fun _ h => h) rfl dX2_run_23 ?_
        refine lv_iload_n hx hb dX2_run_26 rfl (lv_at hl 0 rfl) ?_
        obtain ⟨h3, hf⟩ := o_chk hf
        refine w_iald F hK hP 5 rfl h3 dX2_run_27 ?_
        refine lv_aload_n hx hb dX2_run_28 rfl (lv_at hl 1 rfl) ?_
        refine w_get (ci := 7) F hK hP fb_X2 0 rfl rfl 0 (by decide) fl_X2_12 (fun _ h => h) rfl dX2_run_29 ?_
        refine w_get (ci := 6) F hK hP fb_X4 2 rfl rfl 0 (by decide) fl_X2_38 (fun _ h => h) rfl dX2_run_32 ?_
        refine lv_iload_n hx hb dX2_run_35 rfl (lv_at hl 0 rfl) ?_
        refine w_aald F hK hP 3 rfl h3 dX2_run_36 ?_
        refine s_echo F hK hP (in5 h3) hK5 hl.1 (Nat.le_of_ble_eq_true rfl) (Nat.le_of_ble_eq_true rfl) (Nat.le_of_ble_eq_true rfl) (Nat.le_of_ble_eq_true rfl) (Nat.le_of_ble_eq_true rfl) dX2_run_37 ?_
        refine lv_iadd hx hb dX2_run_40 ?_
        refine w_iast (ws' := ([ob a_this 7 [.ref a_this_hall, .ref a_this_ends, .ref a_this_touchers, .ref a_this_stops, .ref a_this_silences, .int w_v_getter], ia g a_this_ends 5 v_ends, ob a_this_hall 6 [.ref a_this_hall_seats, .int v_hall_size, .int v_hall_fall], ra g a_this_hall_seats 5 (fun i => some (sa i)), ia g a_this_silences 5 (upd w_v_silences (Int32.toNatClampNeg y1) ((w_v_stops (Int32.toNatClampNeg y1)) + (echF (b_K (Int32.toNatClampNeg y1))))), ia g a_this_stops 5 w_v_stops, ia g a_this_touchers 5 v_touchers] ++ swl sa b_K b_su b_wi b_wd b_ch b_tc)) F hK hw 4 rfl h3 rfl dX2_run_41 (fun H locs hw => ?_)
        have hP := hw.1
        obtain ⟨z4, ez4⟩ : ∃ y : Int32, y = y1 + 1 := ⟨_, rfl⟩
        have hf := o_bnd ez4 hf
        refine lv_iinc (v := z4) (lv' := [(1, .int z4), (0, .ref a_this)]) hx hb dX2_run_42 hl (k := 0) rfl (by rw [ez4]; rfl) (by decide) rfl (fun ls hl => ?_)
        refine lv_goto (tgt := 6) hx hb dX2_run_45 (by decide) ?_
        exact ih z4 w_v_getter (upd w_v_silences (Int32.toNatClampNeg y1) ((w_v_stops (Int32.toNatClampNeg y1)) + (echF (b_K (Int32.toNatClampNeg y1))))) w_v_stops _ hf _ _ ls hw (lv_sub hl [0, 1] rfl) kx
  unfold f_X2_run at hf
  refine lv_aload_n hx hb dX2_run_0 rfl (lv_at hl 0 rfl) ?_
  obtain ⟨q1, hq1, hf⟩ := o_bind hf
  refine k_dV (wr := ([ra g a_this_hall_seats 5 (fun i => some (sa i)), ia g a_this_silences 5 v_silences] ++ swl sa b_K b_su b_wi b_wd b_ch b_tc)) (ws' := ([ob a_this 7 [.ref a_this_hall, .ref a_this_ends, .ref a_this_touchers, .ref a_this_stops, .ref a_this_silences, .int v_getter], ia g a_this_ends 5 v_ends, ob a_this_hall 6 [.ref a_this_hall_seats, .int v_hall_size, .int v_hall_fall], ra g a_this_hall_seats 5 (fun i => some (sa i)), ia g a_this_silences 5 v_silences, ia g a_this_stops 5 q1, ia g a_this_touchers 5 v_touchers] ++ swl sa b_K b_su b_wi b_wd b_ch b_tc)) F (c_X2_findStops l g a_this a_this_hall a_this_ends a_this_touchers a_this_stops a_this_silences a_this_hall_seats v_getter v_ends v_hall_size v_hall_fall v_stops v_touchers hq1) qv_X2_findStops ml_X2_62 hw hA hK [0, 1, 2, 5, 6] [3, 4, 7, 8, 9, 10, 11] [7, 8, 9, 0, 1, 10, 11, 2, 3, 4, 5, 6] rfl rfl rfl rfl rfl (by decide) rfl rfl rfl (va_recv hK.1 hP (ci := 7) (q0 := 0) rfl rfl) rfl hl.1 rfl (Nat.le_of_ble_eq_true rfl) dX2_run_1 ⟨(Nat.le_of_ble_eq_true rfl), (Nat.le_of_ble_eq_true rfl)⟩ ⟨(Nat.le_of_ble_eq_true rfl), (Nat.le_of_ble_eq_true rfl)⟩ (fun H locs hw => ?_)
  have hP := hw.1
  refine W.eq (g2 := F0 m 4 ls ([])) rfl ?_
  refine lv_iconst (v := 0) hx hb dX2_run_4 (by decide) ?_
  refine lv_istore_n (lv' := [(1, .int 0), (0, .ref a_this)]) hx hb dX2_run_5 rfl hl (by decide) rfl (fun ls hl => ?_)
  obtain ⟨q5, hq5, hf⟩ := o_bind hf
  refine L6 _ 0 v_getter v_silences q1 _ hq5 _ _ ls hw (lv_sub hl [0, 1] rfl) (fun H locs ls hw hl => ?_)
  have hP := hw.1
  refine lv_aload_n hx hb dX2_run_48 rfl (lv_at hl 1 rfl) ?_
  obtain ⟨q6, hq6, hf⟩ := o_bind hf
  refine k_dV (wr := ([ia g a_this_ends 5 v_ends, ra g a_this_hall_seats 5 (fun i => some (sa i)), ia g a_this_stops 5 q5.2.2.2, ia g a_this_touchers 5 v_touchers] ++ swl sa b_K b_su b_wi b_wd b_ch b_tc)) (ws' := ([ob a_this 7 [.ref a_this_hall, .ref a_this_ends, .ref a_this_touchers, .ref a_this_stops, .ref a_this_silences, .int q6], ia g a_this_ends 5 v_ends, ob a_this_hall 6 [.ref a_this_hall_seats, .int v_hall_size, .int v_hall_fall], ra g a_this_hall_seats 5 (fun i => some (sa i)), ia g a_this_silences 5 q5.2.2.1, ia g a_this_stops 5 q5.2.2.2, ia g a_this_touchers 5 v_touchers] ++ swl sa b_K b_su b_wi b_wd b_ch b_tc)) F (c_X2_findGetter l g a_this a_this_hall a_this_ends a_this_touchers a_this_stops a_this_silences a_this_hall_seats q5.2.1 v_hall_size v_hall_fall q5.2.2.1 hq6) qv_X2_findGetter ml_X2_69 hw hA hK [0, 2, 4] [1, 3, 5, 6, 7, 8, 9, 10, 11] [9, 0, 10, 1, 11, 2, 3, 4, 5, 6, 7, 8] rfl rfl rfl rfl rfl (by decide) rfl rfl rfl (va_recv hK.1 hP (ci := 7) (q0 := 0) rfl rfl) rfl hl.1 rfl (Nat.le_of_ble_eq_true rfl) dX2_run_49 ⟨(Nat.le_of_ble_eq_true rfl), (Nat.le_of_ble_eq_true rfl)⟩ ⟨(Nat.le_of_ble_eq_true rfl), (Nat.le_of_ble_eq_true rfl)⟩ (fun H locs hw => ?_)
  have hP := hw.1
  refine W.eq (g2 := F0 m 52 ls ([])) rfl ?_
  cases hf
  exact r_cv F hQ ⟨rfl, rfl⟩ hw dX2_run_52
def f_X2_runAsItIs (b_K : Nat → Nat) (b_ch : Nat → Int32) (b_tc : Nat → Int32) (b_wd : Nat → Int32) (v_ends : Nat → Int32) (v_getter : Int32) (v_hall_size : Int32) (v_silences : Nat → Int32) (v_stops : Nat → Int32) (v_touchers : Nat → Int32) : Option ((Nat → Int32) × Int32 × (Nat → Int32) × (Nat → Int32) × (Nat → Int32)) := ((f_X2_takeAsItIs b_K b_ch b_tc b_wd v_ends v_hall_size v_touchers).bind fun q1 => ((f_X2_run b_K q1.1 v_getter v_hall_size v_silences v_stops q1.2).bind fun q2 => (some (q1.1, q2.1, q2.2.1, q2.2.2, q1.2))))
set_option maxRecDepth 100000 in
set_option maxHeartbeats 4000000 in
theorem c_X2_runAsItIs (l : Launch) (g : GG) (a_this : Nat) (a_this_hall : Nat) (a_this_ends : Nat) (a_this_touchers : Nat) (a_this_stops : Nat) (a_this_silences : Nat) (a_this_hall_seats : Nat) (sa : Nat → Nat) (v_getter : Int32) (v_ends : Nat → Int32) (v_hall_size : Int32) (v_hall_fall : Int32) (v_silences : Nat → Int32) (v_stops : Nat → Int32) (v_touchers : Nat → Int32) (b_K : Nat → Nat) (b_su : Nat → Int32) (b_wi : Nat → Int32) (b_wd : Nat → Int32) (b_ch : Nat → Int32) (b_tc : Nat → Int32) (hK5 : ∀ i, b_K i < 5) {r0 : Nat → Int32} {r1 : Int32} {r2 : Nat → Int32} {r3 : Nat → Int32} {r4 : Nat → Int32} (hf : f_X2_runAsItIs b_K b_ch b_tc b_wd v_ends v_getter v_hall_size v_silences v_stops v_touchers = some (r0, r1, r2, r3, r4)) : MD l g yX2_runAsItIs cX2_runAsItIs 1 none 4 89 [.ref a_this] ([ob a_this 7 [.ref a_this_hall, .ref a_this_ends, .ref a_this_touchers, .ref a_this_stops, .ref a_this_silences, .int v_getter], ia g a_this_ends 5 v_ends, ob a_this_hall 6 [.ref a_this_hall_seats, .int v_hall_size, .int v_hall_fall], ra g a_this_hall_seats 5 (fun i => some (sa i)), ia g a_this_silences 5 v_silences, ia g a_this_stops 5 v_stops, ia g a_this_touchers 5 v_touchers] ++ swl sa b_K b_su b_wi b_wd b_ch b_tc) none ([ob a_this 7 [.ref a_this_hall, .ref a_this_ends, .ref a_this_touchers, .ref a_this_stops, .ref a_this_silences, .int r1], ia g a_this_ends 5 r0, ob a_this_hall 6 [.ref a_this_hall_seats, .int v_hall_size, .int v_hall_fall], ra g a_this_hall_seats 5 (fun i => some (sa i)), ia g a_this_silences 5 r2, ia g a_this_stops 5 r3, ia g a_this_touchers 5 r4] ++ swl sa b_K b_su b_wi b_wd b_ch b_tc) := by
  refine MC.mk (by decide) (Nat.le_of_ble_eq_true rfl) ?_
  intro p e s m args below meth c ls Q A F hnm hK hw hA hl hQ
  have hP := hw.1
  have hx := F.1
  have hb := F.2.1
  have hml := F.2.2.2.1
  have hown := F.2.2.2.2.1
  have hts := F.2.2.2.2.2.1
  have hl : lv_has ls 1 [(0, .ref a_this)] := hl
  unfold f_X2_runAsItIs at hf
  refine lv_aload_n hx hb dX2_runAsItIs_0 rfl (lv_at hl 0 rfl) ?_
  obtain ⟨q1, hq1, hf⟩ := o_bind hf
  refine k_dV (wr := [ia g a_this_silences 5 v_silences, ia g a_this_stops 5 v_stops]) (ws' := ([ob a_this 7 [.ref a_this_hall, .ref a_this_ends, .ref a_this_touchers, .ref a_this_stops, .ref a_this_silences, .int v_getter], ia g a_this_ends 5 q1.1, ob a_this_hall 6 [.ref a_this_hall_seats, .int v_hall_size, .int v_hall_fall], ra g a_this_hall_seats 5 (fun i => some (sa i)), ia g a_this_silences 5 v_silences, ia g a_this_stops 5 v_stops, ia g a_this_touchers 5 q1.2] ++ swl sa b_K b_su b_wi b_wd b_ch b_tc)) F (c_X2_takeAsItIs l g a_this a_this_hall a_this_ends a_this_touchers a_this_stops a_this_silences a_this_hall_seats sa v_getter v_ends v_hall_size v_hall_fall v_touchers b_K b_su b_wi b_wd b_ch b_tc hK5 hq1) qv_X2_takeAsItIs ml_X2_56 hw hA hK [0, 1, 2, 3, 6, 7, 8, 9, 10, 11] [4, 5] [2, 3, 4, 5, 0, 1, 6, 7, 8, 9, 10, 11] rfl rfl rfl rfl rfl (by decide) rfl rfl rfl (va_recv hK.1 hP (ci := 7) (q0 := 0) rfl rfl) rfl hl.1 rfl (Nat.le_of_ble_eq_true rfl) dX2_runAsItIs_1 ⟨(Nat.le_of_ble_eq_true rfl), (Nat.le_of_ble_eq_true rfl)⟩ ⟨(Nat.le_of_ble_eq_true rfl), (Nat.le_of_ble_eq_true rfl)⟩ (fun H locs hw => ?_)
  have hP := hw.1
  refine W.eq (g2 := F0 m 4 ls ([])) rfl ?_
  refine lv_aload_n hx hb dX2_runAsItIs_4 rfl (lv_at hl 0 rfl) ?_
  obtain ⟨q2, hq2, hf⟩ := o_bind hf
  refine k_dV (wr := []) (ws' := ([ob a_this 7 [.ref a_this_hall, .ref a_this_ends, .ref a_this_touchers, .ref a_this_stops, .ref a_this_silences, .int q2.1], ia g a_this_ends 5 q1.1, ob a_this_hall 6 [.ref a_this_hall_seats, .int v_hall_size, .int v_hall_fall], ra g a_this_hall_seats 5 (fun i => some (sa i)), ia g a_this_silences 5 q2.2.1, ia g a_this_stops 5 q2.2.2, ia g a_this_touchers 5 q1.2] ++ swl sa b_K b_su b_wi b_wd b_ch b_tc)) F (c_X2_run l g a_this a_this_hall a_this_ends a_this_touchers a_this_stops a_this_silences a_this_hall_seats sa v_getter q1.1 v_hall_size v_hall_fall v_silences v_stops q1.2 b_K b_su b_wi b_wd b_ch b_tc hK5 hq2) qv_X2_run ml_X2_59 hw hA hK [0, 1, 2, 3, 4, 5, 6, 7, 8, 9, 10, 11] [] [0, 1, 2, 3, 4, 5, 6, 7, 8, 9, 10, 11] rfl rfl rfl rfl rfl (by decide) rfl rfl rfl (va_recv hK.1 hP (ci := 7) (q0 := 0) rfl rfl) rfl hl.1 rfl (Nat.le_of_ble_eq_true rfl) dX2_runAsItIs_5 ⟨(Nat.le_of_ble_eq_true rfl), (Nat.le_of_ble_eq_true rfl)⟩ ⟨(Nat.le_of_ble_eq_true rfl), (Nat.le_of_ble_eq_true rfl)⟩ (fun H locs hw => ?_)
  have hP := hw.1
  refine W.eq (g2 := F0 m 8 ls ([])) rfl ?_
  cases hf
  exact r_cv F hQ ⟨rfl, rfl⟩ hw dX2_runAsItIs_8
def f_X2_priceOf (x1 : Int32) (b_K : Nat → Nat) (b_su : Nat → Int32) (v_hall_fall : Int32) (v_stops : Nat → Int32) : Option (Int32) := (if x1 < 0 ∨ 5 ≤ Int32.toNatClampNeg x1 then none else (some (priF (b_K (Int32.toNatClampNeg x1)) (b_su (Int32.toNatClampNeg x1)) (v_stops (Int32.toNatClampNeg x1)) v_hall_fall)))
set_option maxRecDepth 100000 in
set_option maxHeartbeats 4000000 in
theorem c_X2_priceOf (l : Launch) (g : GG) (a_this : Nat) (a_this_hall : Nat) (a_this_ends : Nat) (a_this_touchers : Nat) (a_this_stops : Nat) (a_this_silences : Nat) (a_this_hall_seats : Nat) (sa : Nat → Nat) (x1 : Int32) (v_getter : Int32) (v_hall_size : Int32) (v_hall_fall : Int32) (v_stops : Nat → Int32) (b_K : Nat → Nat) (b_su : Nat → Int32) (b_wi : Nat → Int32) (b_wd : Nat → Int32) (b_ch : Nat → Int32) (b_tc : Nat → Int32) (hK5 : ∀ i, b_K i < 5) {r0 : Int32} (hf : f_X2_priceOf x1 b_K b_su v_hall_fall v_stops = some r0) : MR l g yX2_priceOf cX2_priceOf 2 (some .int) 2 43 [.ref a_this, .int x1] ([ob a_this 7 [.ref a_this_hall, .ref a_this_ends, .ref a_this_touchers, .ref a_this_stops, .ref a_this_silences, .int v_getter], ob a_this_hall 6 [.ref a_this_hall_seats, .int v_hall_size, .int v_hall_fall], ra g a_this_hall_seats 5 (fun i => some (sa i)), ia g a_this_stops 5 v_stops] ++ swl sa b_K b_su b_wi b_wd b_ch b_tc) (some (.int r0)) := by
  refine MR.mk (by decide) (Nat.le_of_ble_eq_true rfl) ?_
  intro p e s m args below meth c ls Q F hK hP hl hQ
  have hx := F.1
  have hb := F.2.1
  have hml := F.2.2.2.1
  have hown := F.2.2.2.2.1
  have hts := F.2.2.2.2.2.1
  have hl : lv_has ls 2 [(0, .ref a_this), (1, .int x1)] := hl
  unfold f_X2_priceOf at hf
  refine lv_aload_n hx hb dX2_priceOf_0 rfl (lv_at hl 0 rfl) ?_
  refine w_get (ci := 7) F hK hP fb_X2 0 rfl rfl 0 (by decide) fl_X2_12 (fun _ h => h) rfl dX2_priceOf_1 ?_
  refine w_get (ci := 6) F hK hP fb_X4 1 rfl rfl 0 (by decide) fl_X2_38 (fun _ h => h) rfl dX2_priceOf_4 ?_
  refine lv_iload_n hx hb dX2_priceOf_7 rfl (lv_at hl 1 rfl) ?_
  obtain ⟨h1, hf⟩ := o_chk hf
  refine w_aald F hK hP 2 rfl h1 dX2_priceOf_8 ?_
  refine lv_aload_n hx hb dX2_priceOf_9 rfl (lv_at hl 0 rfl) ?_
  refine w_get (ci := 7) F hK hP fb_X2 0 rfl rfl 3 (by decide) fl_X2_25 (fun _ h => h) rfl dX2_priceOf_10 ?_
  refine lv_iload_n hx hb dX2_priceOf_13 rfl (lv_at hl 1 rfl) ?_
  refine w_iald F hK hP 3 rfl h1 dX2_priceOf_14 ?_
  refine lv_aload_n hx hb dX2_priceOf_15 rfl (lv_at hl 0 rfl) ?_
  refine w_get (ci := 7) F hK hP fb_X2 0 rfl rfl 0 (by decide) fl_X2_12 (fun _ h => h) rfl dX2_priceOf_16 ?_
  refine w_get (ci := 6) F hK hP fb_X4 1 rfl rfl 2 (by decide) fl_X2_81 (fun _ h => h) rfl dX2_priceOf_19 ?_
  refine s_priceAt F hK hP (in5 h1) hK5 hl.1 (Nat.le_of_ble_eq_true rfl) (Nat.le_of_ble_eq_true rfl) (Nat.le_of_ble_eq_true rfl) (Nat.le_of_ble_eq_true rfl) (Nat.le_of_ble_eq_true rfl) dX2_priceOf_22 ?_
  exact r_ri F hQ (Option.some.inj hf) dX2_priceOf_25
def f_X2_gainOf (x1 : Int32) (b_K : Nat → Nat) (b_su : Nat → Int32) (b_wi : Nat → Int32) (v_getter : Int32) (v_hall_fall : Int32) (v_stops : Nat → Int32) : Option (Int32) := (if x1 = v_getter then (if x1 < 0 ∨ 5 ≤ Int32.toNatClampNeg x1 then none else ((f_X2_priceOf x1 b_K b_su v_hall_fall v_stops).bind fun q3 => (some ((10 * (b_wi (Int32.toNatClampNeg x1))) - q3)))) else (some 0))
set_option maxRecDepth 100000 in
set_option maxHeartbeats 4000000 in
theorem c_X2_gainOf (l : Launch) (g : GG) (a_this : Nat) (a_this_hall : Nat) (a_this_ends : Nat) (a_this_touchers : Nat) (a_this_stops : Nat) (a_this_silences : Nat) (a_this_hall_seats : Nat) (sa : Nat → Nat) (x1 : Int32) (v_getter : Int32) (v_hall_size : Int32) (v_hall_fall : Int32) (v_stops : Nat → Int32) (b_K : Nat → Nat) (b_su : Nat → Int32) (b_wi : Nat → Int32) (b_wd : Nat → Int32) (b_ch : Nat → Int32) (b_tc : Nat → Int32) (hK5 : ∀ i, b_K i < 5) {r0 : Int32} (hf : f_X2_gainOf x1 b_K b_su b_wi v_getter v_hall_fall v_stops = some r0) : MR l g yX2_gainOf cX2_gainOf 2 (some .int) 3 64 [.ref a_this, .int x1] ([ob a_this 7 [.ref a_this_hall, .ref a_this_ends, .ref a_this_touchers, .ref a_this_stops, .ref a_this_silences, .int v_getter], ob a_this_hall 6 [.ref a_this_hall_seats, .int v_hall_size, .int v_hall_fall], ra g a_this_hall_seats 5 (fun i => some (sa i)), ia g a_this_stops 5 v_stops] ++ swl sa b_K b_su b_wi b_wd b_ch b_tc) (some (.int r0)) := by
  refine MR.mk (by decide) (Nat.le_of_ble_eq_true rfl) ?_
  intro p e s m args below meth c ls Q F hK hP hl hQ
  have hx := F.1
  have hb := F.2.1
  have hml := F.2.2.2.1
  have hown := F.2.2.2.2.1
  have hts := F.2.2.2.2.2.1
  have hl : lv_has ls 2 [(0, .ref a_this), (1, .int x1)] := hl
  unfold f_X2_gainOf at hf
  refine lv_iload_n hx hb dX2_gainOf_0 rfl (lv_at hl 1 rfl) ?_
  refine lv_aload_n hx hb dX2_gainOf_1 rfl (lv_at hl 0 rfl) ?_
  refine w_get (ci := 7) F hK hP fb_X2 0 rfl rfl 5 (by decide) fl_X2_31 (fun _ h => h) rfl dX2_gainOf_2 ?_
  refine lv_icmp_ne (tgt := 32) hx hb dX2_gainOf_5 (by decide) (fun h1 => ?_) (fun h1 => ?_)
  · have hf := o_f h1 hf
    refine lv_iconst (v := 0) hx hb dX2_gainOf_32 (by decide) ?_
    exact r_ri F hQ (Option.some.inj hf) dX2_gainOf_33
  · have hf := o_t h1 hf
    refine lv_bipush (v := 10) hx hb dX2_gainOf_8 (by decide) ?_
    refine lv_aload_n hx hb dX2_gainOf_10 rfl (lv_at hl 0 rfl) ?_
    refine w_get (ci := 7) F hK hP fb_X2 0 rfl rfl 0 (by decide) fl_X2_12 (fun _ h => h) rfl dX2_gainOf_11 ?_
    refine w_get (ci := 6) F hK hP fb_X4 1 rfl rfl 0 (by decide) fl_X2_38 (fun _ h => h) rfl dX2_gainOf_14 ?_
    refine lv_iload_n hx hb dX2_gainOf_17 rfl (lv_at hl 1 rfl) ?_
    obtain ⟨h2, hf⟩ := o_chk hf
    refine w_aald F hK hP 2 rfl h2 dX2_gainOf_18 ?_
    refine s_get F hK hP (in5 h2) hK5 1 rfl fl_X2_87 dX2_gainOf_19 ?_
    refine lv_imul hx hb dX2_gainOf_22 ?_
    refine lv_aload_n hx hb dX2_gainOf_23 rfl (lv_at hl 0 rfl) ?_
    refine lv_iload_n hx hb dX2_gainOf_24 rfl (lv_at hl 1 rfl) ?_
    obtain ⟨q3, hq3, hf⟩ := o_bind hf
    refine k_rV F (c_X2_priceOf l g a_this a_this_hall a_this_ends a_this_touchers a_this_stops a_this_silences a_this_hall_seats sa x1 v_getter v_hall_size v_hall_fall v_stops b_K b_su b_wi b_wd b_ch b_tc hK5 hq3) qv_X2_priceOf ml_X2_90 (hP.sub [0, 1, 2, 3, 4, 5, 6, 7, 8] rfl) hK (va_recv hK.1 hP (ci := 7) (q0 := 0) rfl rfl) rfl hl.1 rfl (Nat.le_of_ble_eq_true rfl) dX2_gainOf_25 ⟨(Nat.le_of_ble_eq_true rfl), (Nat.le_of_ble_eq_true rfl)⟩ ⟨(Nat.le_of_ble_eq_true rfl), (Nat.le_of_ble_eq_true rfl)⟩ ?_
    refine W.eq (g2 := F0 m 28 ls (.int q3 :: [.int (10 * (b_wi (Int32.toNatClampNeg x1)))])) rfl ?_
    refine lv_isub hx hb dX2_gainOf_28 ?_
    refine lv_goto (tgt := 33) hx hb dX2_gainOf_29 (by decide) ?_
    exact r_ri F hQ (Option.some.inj hf) dX2_gainOf_33
def f_X4_has (x1 : Int32) (v_size : Int32) : Option (Int32) := (if x1 < 0 then (some 0) else (if v_size ≤ x1 then (some 0) else (some 1)))
set_option maxRecDepth 100000 in
set_option maxHeartbeats 4000000 in
theorem c_X4_has (l : Launch) (g : GG) (a_this : Nat) (a_this_seats : Nat) (x1 : Int32) (v_size : Int32) (v_fall : Int32) {r0 : Int32} (hf : f_X4_has x1 v_size = some r0) : MR l g yX4_has cX4_has 2 (some .boolean) 0 0 [.ref a_this, .int x1] [ob a_this 6 [.ref a_this_seats, .int v_size, .int v_fall]] (some (.int r0)) := by
  refine MR.mk (by decide) (Nat.le_of_ble_eq_true rfl) ?_
  intro p e s m args below meth c ls Q F hK hP hl hQ
  have hx := F.1
  have hb := F.2.1
  have hml := F.2.2.2.1
  have hown := F.2.2.2.2.1
  have hts := F.2.2.2.2.2.1
  have hl : lv_has ls 2 [(0, .ref a_this), (1, .int x1)] := hl
  unfold f_X4_has at hf
  refine lv_iload_n hx hb dX4_has_0 rfl (lv_at hl 1 rfl) ?_
  refine lv_if_lt (tgt := 16) hx hb dX4_has_1 (by decide) (fun h1 => ?_) (fun h1 => ?_)
  · have hf := o_t h1 hf
    refine lv_iconst (v := 0) hx hb dX4_has_16 (by decide) ?_
    exact r_rz F hQ (by decide) (Option.some.inj hf) dX4_has_17
  · have hf := o_f h1 hf
    refine lv_iload_n hx hb dX4_has_4 rfl (lv_at hl 1 rfl) ?_
    refine lv_aload_n hx hb dX4_has_5 rfl (lv_at hl 0 rfl) ?_
    refine w_get (ci := 6) F hK hP fb_X4 0 rfl rfl 1 (by decide) fl_X4_20 (fun _ h => h) rfl dX4_has_6 ?_
    refine lv_icmp_ge (tgt := 16) hx hb dX4_has_9 (by decide) (fun h2 => ?_) (fun h2 => ?_)
    · have hf := o_t h2 hf
      refine lv_iconst (v := 0) hx hb dX4_has_16 (by decide) ?_
      exact r_rz F hQ (by decide) (Option.some.inj hf) dX4_has_17
    · have hf := o_f h2 hf
      refine lv_iconst (v := 1) hx hb dX4_has_12 (by decide) ?_
      refine lv_goto (tgt := 17) hx hb dX4_has_13 (by decide) ?_
      exact r_rz F hQ (by decide) (Option.some.inj hf) dX4_has_17
def f_X4_touches (x1 : Int32) (x2 : Int32) (b_tc : Nat → Int32) : Option (Int32) := (if x2 < 0 ∨ 5 ≤ Int32.toNatClampNeg x2 then none else (if (((b_tc (Int32.toNatClampNeg x2)) >>> (x1 &&& 31)) &&& 1) = 1 then (some 1) else (some 0)))
set_option maxRecDepth 100000 in
set_option maxHeartbeats 4000000 in
theorem c_X4_touches (l : Launch) (g : GG) (a_this : Nat) (a_this_seats : Nat) (sa : Nat → Nat) (x1 : Int32) (x2 : Int32) (v_size : Int32) (v_fall : Int32) (b_K : Nat → Nat) (b_su : Nat → Int32) (b_wi : Nat → Int32) (b_wd : Nat → Int32) (b_ch : Nat → Int32) (b_tc : Nat → Int32) (hK5 : ∀ i, b_K i < 5) {r0 : Int32} (hf : f_X4_touches x1 x2 b_tc = some r0) : MR l g yX4_touches cX4_touches 3 (some .boolean) 0 0 [.ref a_this, .int x1, .int x2] ([ob a_this 6 [.ref a_this_seats, .int v_size, .int v_fall], ra g a_this_seats 5 (fun i => some (sa i))] ++ swl sa b_K b_su b_wi b_wd b_ch b_tc) (some (.int r0)) := by
  refine MR.mk (by decide) (Nat.le_of_ble_eq_true rfl) ?_
  intro p e s m args below meth c ls Q F hK hP hl hQ
  have hx := F.1
  have hb := F.2.1
  have hml := F.2.2.2.1
  have hown := F.2.2.2.2.1
  have hts := F.2.2.2.2.2.1
  have hl : lv_has ls 3 [(0, .ref a_this), (1, .int x1), (2, .int x2)] := hl
  unfold f_X4_touches at hf
  refine lv_aload_n hx hb dX4_touches_0 rfl (lv_at hl 0 rfl) ?_
  refine w_get (ci := 6) F hK hP fb_X4 0 rfl rfl 0 (by decide) fl_X4_11 (fun _ h => h) rfl dX4_touches_1 ?_
  refine lv_iload_n hx hb dX4_touches_4 rfl (lv_at hl 2 rfl) ?_
  obtain ⟨h1, hf⟩ := o_chk hf
  refine w_aald F hK hP 1 rfl h1 dX4_touches_5 ?_
  refine s_get F hK hP (in5 h1) hK5 4 rfl fl_X4_40 dX4_touches_6 ?_
  refine lv_iload_n hx hb dX4_touches_9 rfl (lv_at hl 1 rfl) ?_
  refine lv_ishr hx hb dX4_touches_10 ?_
  refine lv_iconst (v := 1) hx hb dX4_touches_11 (by decide) ?_
  refine lv_iand hx hb dX4_touches_12 ?_
  refine lv_iconst (v := 1) hx hb dX4_touches_13 (by decide) ?_
  refine lv_icmp_ne (tgt := 21) hx hb dX4_touches_14 (by decide) (fun h2 => ?_) (fun h2 => ?_)
  · have hf := o_f h2 hf
    refine lv_iconst (v := 0) hx hb dX4_touches_21 (by decide) ?_
    exact r_rz F hQ (by decide) (Option.some.inj hf) dX4_touches_22
  · have hf := o_t h2 hf
    refine lv_iconst (v := 1) hx hb dX4_touches_17 (by decide) ?_
    refine lv_goto (tgt := 22) hx hb dX4_touches_18 (by decide) ?_
    exact r_rz F hQ (by decide) (Option.some.inj hf) dX4_touches_22
def f_X4_howManyHaveChosen_4 (fuel : Nat) (b_ch : Nat → Int32) (v_size : Int32) (y2 : Int32) (y1 : Int32) : Option (Int32 × Int32) := match fuel with
  | 0 => none
  | k + 1 => (if v_size ≤ y2 then (some (y2, y1)) else (if y2 < 0 ∨ 5 ≤ Int32.toNatClampNeg y2 then none else (if (b_ch (Int32.toNatClampNeg y2)) = (-1) then (bnd (y2 + 1 : Int32) fun z4 => (f_X4_howManyHaveChosen_4 k b_ch v_size z4 y1)) else (bnd (y1 + 1 : Int32) fun z5 => (bnd (y2 + 1 : Int32) fun z6 => (f_X4_howManyHaveChosen_4 k b_ch v_size z6 z5))))))
def f_X4_howManyHaveChosen (b_ch : Nat → Int32) (v_size : Int32) : Option (Int32) := ((f_X4_howManyHaveChosen_4 4096 b_ch v_size 0 0).bind fun q7 => (some q7.2))
set_option maxRecDepth 100000 in
set_option maxHeartbeats 4000000 in
theorem c_X4_howManyHaveChosen (l : Launch) (g : GG) (a_this : Nat) (a_this_seats : Nat) (sa : Nat → Nat) (v_size : Int32) (v_fall : Int32) (b_K : Nat → Nat) (b_su : Nat → Int32) (b_wi : Nat → Int32) (b_wd : Nat → Int32) (b_ch : Nat → Int32) (b_tc : Nat → Int32) (hK5 : ∀ i, b_K i < 5) {r0 : Int32} (hf : f_X4_howManyHaveChosen b_ch v_size = some r0) : MR l g yX4_howManyHaveChosen cX4_howManyHaveChosen 3 (some .int) 0 0 [.ref a_this] ([ob a_this 6 [.ref a_this_seats, .int v_size, .int v_fall], ra g a_this_seats 5 (fun i => some (sa i))] ++ swl sa b_K b_su b_wi b_wd b_ch b_tc) (some (.int r0)) := by
  refine MR.mk (by decide) (Nat.le_of_ble_eq_true rfl) ?_
  intro p e s m args below meth c ls Q F hK hP hl hQ
  have hx := F.1
  have hb := F.2.1
  have hml := F.2.2.2.1
  have hown := F.2.2.2.2.1
  have hts := F.2.2.2.2.2.1
  have hl : lv_has ls 3 [(0, .ref a_this)] := hl
  have L4 : ∀ (k : Nat) (y2 : Int32) (y1 : Int32) (q : Int32 × Int32), f_X4_howManyHaveChosen_4 k b_ch v_size y2 y1 = some q → ∀ (ls : Array Slot), lv_has ls 3 [(2, .int y2), (1, .int y1), (0, .ref a_this)] → (∀ (ls : Array Slot), lv_has ls 3 [(2, .int q.1), (1, .int q.2), (0, .ref a_this)] → W p l e (rmc 0 0 0 0) s m args below meth c s.heap [] 0 0 Q (F0 m 34 ls [])) → W p l e (rmc 0 0 0 0) s m args below meth c s.heap [] 0 0 Q (F0 m 4 ls []) := by
    intro k
    induction k with
    | zero => intro y2 y1 q hf; rw [f_X4_howManyHaveChosen_4] at hf; cases hf
    | succ k ih =>
      intro y2 y1 q hf ls hl kx
      rw [f_X4_howManyHaveChosen_4] at hf
      refine lv_iload_n hx hb dX4_howManyHaveChosen_4 rfl (lv_at hl 0 rfl) ?_
      refine lv_aload_n hx hb dX4_howManyHaveChosen_5 rfl (lv_at hl 2 rfl) ?_
      refine w_get (ci := 6) F hK hP fb_X4 0 rfl rfl 1 (by decide) fl_X4_20 (fun _ h => h) rfl dX4_howManyHaveChosen_6 ?_
      refine lv_icmp_ge (tgt := 34) hx hb dX4_howManyHaveChosen_9 (by decide) (fun h1 => ?_) (fun h1 => ?_)
      · have hf := o_t h1 hf
        cases hf
        exact kx ls (lv_sub hl [0, 1, 2] rfl)
      · have hf := o_f h1 hf
        refine lv_aload_n hx hb dX4_howManyHaveChosen_12 rfl (lv_at hl 2 rfl) ?_
        refine w_get (ci := 6) F hK hP fb_X4 0 rfl rfl 0 (by decide) fl_X4_11 (fun _ h => h) rfl dX4_howManyHaveChosen_13 ?_
        refine lv_iload_n hx hb dX4_howManyHaveChosen_16 rfl (lv_at hl 0 rfl) ?_
        obtain ⟨h2, hf⟩ := o_chk hf
        refine w_aald F hK hP 1 rfl h2 dX4_howManyHaveChosen_17 ?_
        refine s_get F hK hP (in5 h2) hK5 3 rfl fl_X4_43 dX4_howManyHaveChosen_18 ?_
        refine lv_iconst (v := (-1)) hx hb dX4_howManyHaveChosen_21 (by decide) ?_
        refine lv_icmp_eq (tgt := 28) hx hb dX4_howManyHaveChosen_22 (by decide) (fun h3 => ?_) (fun h3 => ?_)
        · have hf := o_t h3 hf
          obtain ⟨z4, ez4⟩ : ∃ y : Int32, y = y2 + 1 := ⟨_, rfl⟩
          have hf := o_bnd ez4 hf
          refine lv_iinc (v := z4) (lv' := [(2, .int z4), (1, .int y1), (0, .ref a_this)]) hx hb dX4_howManyHaveChosen_28 hl (k := 0) rfl (by rw [ez4]; rfl) (by decide) rfl (fun ls hl => ?_)
          refine lv_goto (tgt := 4) hx hb dX4_howManyHaveChosen_31 (by decide) ?_
          exact ih z4 y1 _ hf ls (lv_sub hl [0, 1, 2] rfl) kx
        · have hf := o_f h3 hf
          obtain ⟨z5, ez5⟩ : ∃ y : Int32, y = y1 + 1 := ⟨_, rfl⟩
          have hf := o_bnd ez5 hf
          refine lv_iinc (v := z5) (lv' := [(1, .int z5), (2, .int y2), (0, .ref a_this)]) hx hb dX4_howManyHaveChosen_25 hl (k := 1) rfl (by rw [ez5]; rfl) (by decide) rfl (fun ls hl => ?_)
          obtain ⟨z6, ez6⟩ : ∃ y : Int32, y = y2 + 1 := ⟨_, rfl⟩
          have hf := o_bnd ez6 hf
          refine lv_iinc (v := z6) (lv' := [(2, .int z6), (1, .int z5), (0, .ref a_this)]) hx hb dX4_howManyHaveChosen_28 hl (k := 1) rfl (by rw [ez6]; rfl) (by decide) rfl (fun ls hl => ?_)
          refine lv_goto (tgt := 4) hx hb dX4_howManyHaveChosen_31 (by decide) ?_
          exact ih z6 z5 _ hf ls (lv_sub hl [0, 1, 2] rfl) kx
  unfold f_X4_howManyHaveChosen at hf
  refine lv_iconst (v := 0) hx hb dX4_howManyHaveChosen_0 (by decide) ?_
  refine lv_istore_n (lv' := [(1, .int 0), (0, .ref a_this)]) hx hb dX4_howManyHaveChosen_1 rfl hl (by decide) rfl (fun ls hl => ?_)
  refine lv_iconst (v := 0) hx hb dX4_howManyHaveChosen_2 (by decide) ?_
  refine lv_istore_n (lv' := [(2, .int 0), (1, .int 0), (0, .ref a_this)]) hx hb dX4_howManyHaveChosen_3 rfl hl (by decide) rfl (fun ls hl => ?_)
  obtain ⟨q7, hq7, hf⟩ := o_bind hf
  refine L4 _ 0 0 _ hq7 ls (lv_sub hl [0, 1, 2] rfl) (fun ls hl => ?_)
  refine lv_iload_n hx hb dX4_howManyHaveChosen_34 rfl (lv_at hl 1 rfl) ?_
  exact r_ri F hQ (Option.some.inj hf) dX4_howManyHaveChosen_35
def f_X4_howManyTouches_4 (fuel : Nat) (b_tc : Nat → Int32) (v_size : Int32) (y2 : Int32) (y1 : Int32) : Option (Int32 × Int32) := match fuel with
  | 0 => none
  | k + 1 => (if v_size ≤ y2 then (some (y2, y1)) else (if y2 < 0 ∨ 5 ≤ Int32.toNatClampNeg y2 then none else ((f_J6_bitCount_0f7a4 (b_tc (Int32.toNatClampNeg y2))).bind fun q3 => (bnd (y1 + q3) fun z4 => (bnd (y2 + 1 : Int32) fun z5 => (f_X4_howManyTouches_4 k b_tc v_size z5 z4))))))
def f_X4_howManyTouches (b_tc : Nat → Int32) (v_size : Int32) : Option (Int32) := ((f_X4_howManyTouches_4 4096 b_tc v_size 0 0).bind fun q6 => (some q6.2))
set_option maxRecDepth 100000 in
set_option maxHeartbeats 4000000 in
theorem c_X4_howManyTouches (l : Launch) (g : GG) (a_this : Nat) (a_this_seats : Nat) (sa : Nat → Nat) (v_size : Int32) (v_fall : Int32) (b_K : Nat → Nat) (b_su : Nat → Int32) (b_wi : Nat → Int32) (b_wd : Nat → Int32) (b_ch : Nat → Int32) (b_tc : Nat → Int32) (hK5 : ∀ i, b_K i < 5) {r0 : Int32} (hf : f_X4_howManyTouches b_tc v_size = some r0) : MR l g yX4_howManyTouches cX4_howManyTouches 3 (some .int) 1 20 [.ref a_this] ([ob a_this 6 [.ref a_this_seats, .int v_size, .int v_fall], ra g a_this_seats 5 (fun i => some (sa i))] ++ swl sa b_K b_su b_wi b_wd b_ch b_tc) (some (.int r0)) := by
  refine MR.mk (by decide) (Nat.le_of_ble_eq_true rfl) ?_
  intro p e s m args below meth c ls Q F hK hP hl hQ
  have hx := F.1
  have hb := F.2.1
  have hml := F.2.2.2.1
  have hown := F.2.2.2.2.1
  have hts := F.2.2.2.2.2.1
  have hl : lv_has ls 3 [(0, .ref a_this)] := hl
  have L4 : ∀ (k : Nat) (y2 : Int32) (y1 : Int32) (q : Int32 × Int32), f_X4_howManyTouches_4 k b_tc v_size y2 y1 = some q → ∀ (ls : Array Slot), lv_has ls 3 [(2, .int y2), (1, .int y1), (0, .ref a_this)] → (∀ (ls : Array Slot), lv_has ls 3 [(2, .int q.1), (1, .int q.2), (0, .ref a_this)] → W p l e (rmc 1 0 0 20) s m args below meth c s.heap [] 0 0 Q (F0 m 33 ls [])) → W p l e (rmc 1 0 0 20) s m args below meth c s.heap [] 0 0 Q (F0 m 4 ls []) := by
    intro k
    induction k with
    | zero => intro y2 y1 q hf; rw [f_X4_howManyTouches_4] at hf; cases hf
    | succ k ih =>
      intro y2 y1 q hf ls hl kx
      rw [f_X4_howManyTouches_4] at hf
      refine lv_iload_n hx hb dX4_howManyTouches_4 rfl (lv_at hl 0 rfl) ?_
      refine lv_aload_n hx hb dX4_howManyTouches_5 rfl (lv_at hl 2 rfl) ?_
      refine w_get (ci := 6) F hK hP fb_X4 0 rfl rfl 1 (by decide) fl_X4_20 (fun _ h => h) rfl dX4_howManyTouches_6 ?_
      refine lv_icmp_ge (tgt := 33) hx hb dX4_howManyTouches_9 (by decide) (fun h1 => ?_) (fun h1 => ?_)
      · have hf := o_t h1 hf
        cases hf
        exact kx ls (lv_sub hl [0, 1, 2] rfl)
      · have hf := o_f h1 hf
        refine lv_iload_n hx hb dX4_howManyTouches_12 rfl (lv_at hl 1 rfl) ?_
        refine lv_aload_n hx hb dX4_howManyTouches_13 rfl (lv_at hl 2 rfl) ?_
        refine w_get (ci := 6) F hK hP fb_X4 0 rfl rfl 0 (by decide) fl_X4_11 (fun _ h => h) rfl dX4_howManyTouches_14 ?_
        refine lv_iload_n hx hb dX4_howManyTouches_17 rfl (lv_at hl 0 rfl) ?_
        obtain ⟨h2, hf⟩ := o_chk hf
        refine w_aald F hK hP 1 rfl h2 dX4_howManyTouches_18 ?_
        refine s_get F hK hP (in5 h2) hK5 4 rfl fl_X4_40 dX4_howManyTouches_19 ?_
        obtain ⟨q3, hq3, hf⟩ := o_bind hf
        refine k_rS F (c_J6_bitCount_0f7a4 l g (b_tc (Int32.toNatClampNeg y2)) hq3) qs_J6_bitCount_0f7a4 ml_X4_46 (hP.sub [] rfl) hK rfl hl.1 rfl (Nat.le_of_ble_eq_true rfl) dX4_howManyTouches_22 ⟨(Nat.le_of_ble_eq_true rfl), (Nat.le_of_ble_eq_true rfl)⟩ ⟨(Nat.le_of_ble_eq_true rfl), (Nat.le_of_ble_eq_true rfl)⟩ ?_
        refine W.eq (g2 := F0 m 25 ls (.int q3 :: [.int y1])) rfl ?_
        refine lv_iadd hx hb dX4_howManyTouches_25 ?_
        refine lv_topi (fun z4 ez4 => ?_)
        have hf := o_bnd ez4 hf
        refine lv_istore_n (lv' := [(1, .int z4), (2, .int y2), (0, .ref a_this)]) hx hb dX4_howManyTouches_26 rfl hl (by decide) rfl (fun ls hl => ?_)
        obtain ⟨z5, ez5⟩ : ∃ y : Int32, y = y2 + 1 := ⟨_, rfl⟩
        have hf := o_bnd ez5 hf
        refine lv_iinc (v := z5) (lv' := [(2, .int z5), (1, .int z4), (0, .ref a_this)]) hx hb dX4_howManyTouches_27 hl (k := 1) rfl (by rw [ez5]; rfl) (by decide) rfl (fun ls hl => ?_)
        refine lv_goto (tgt := 4) hx hb dX4_howManyTouches_30 (by decide) ?_
        exact ih z5 z4 _ hf ls (lv_sub hl [0, 1, 2] rfl) kx
  unfold f_X4_howManyTouches at hf
  refine lv_iconst (v := 0) hx hb dX4_howManyTouches_0 (by decide) ?_
  refine lv_istore_n (lv' := [(1, .int 0), (0, .ref a_this)]) hx hb dX4_howManyTouches_1 rfl hl (by decide) rfl (fun ls hl => ?_)
  refine lv_iconst (v := 0) hx hb dX4_howManyTouches_2 (by decide) ?_
  refine lv_istore_n (lv' := [(2, .int 0), (1, .int 0), (0, .ref a_this)]) hx hb dX4_howManyTouches_3 rfl hl (by decide) rfl (fun ls hl => ?_)
  obtain ⟨q6, hq6, hf⟩ := o_bind hf
  refine L4 _ 0 0 _ hq6 ls (lv_sub hl [0, 1, 2] rfl) (fun ls hl => ?_)
  refine lv_iload_n hx hb dX4_howManyTouches_33 rfl (lv_at hl 1 rfl) ?_
  exact r_ri F hQ (Option.some.inj hf) dX4_howManyTouches_34
def f_X5_isFull (v_size : Int32) : Option (Int32) := (if v_size < 8 then (some 0) else (some 1))
set_option maxRecDepth 100000 in
set_option maxHeartbeats 4000000 in
theorem c_X5_isFull (l : Launch) (g : GG) (a_this : Nat) (a_this_bidders : Nat) (a_this_breaths : Nat) (v_size : Int32) {r0 : Int32} (hf : f_X5_isFull v_size = some r0) : MR l g yX5_isFull cX5_isFull 1 (some .boolean) 0 0 [.ref a_this] [ob a_this 8 [.ref a_this_bidders, .ref a_this_breaths, .int v_size]] (some (.int r0)) := by
  refine MR.mk (by decide) (Nat.le_of_ble_eq_true rfl) ?_
  intro p e s m args below meth c ls Q F hK hP hl hQ
  have hx := F.1
  have hb := F.2.1
  have hml := F.2.2.2.1
  have hown := F.2.2.2.2.1
  have hts := F.2.2.2.2.2.1
  have hl : lv_has ls 1 [(0, .ref a_this)] := hl
  unfold f_X5_isFull at hf
  refine lv_aload_n hx hb dX5_isFull_0 rfl (lv_at hl 0 rfl) ?_
  refine w_get (ci := 8) F hK hP fb_X5 0 rfl rfl 2 (by decide) fl_X5_16 (fun _ h => h) rfl dX5_isFull_1 ?_
  refine lv_bipush (v := 8) hx hb dX5_isFull_4 (by decide) ?_
  refine lv_icmp_lt (tgt := 13) hx hb dX5_isFull_6 (by decide) (fun h1 => ?_) (fun h1 => ?_)
  · have hf := o_t h1 hf
    refine lv_iconst (v := 0) hx hb dX5_isFull_13 (by decide) ?_
    exact r_rz F hQ (by decide) (Option.some.inj hf) dX5_isFull_14
  · have hf := o_f h1 hf
    refine lv_iconst (v := 1) hx hb dX5_isFull_9 (by decide) ?_
    refine lv_goto (tgt := 14) hx hb dX5_isFull_10 (by decide) ?_
    exact r_rz F hQ (by decide) (Option.some.inj hf) dX5_isFull_14
def f_X5_add (x1 : Int32) (x2 : Int32) (v_bidders : Nat → Int32) (v_breaths : Nat → Int32) (v_size : Int32) : Option ((Nat → Int32) × (Nat → Int32) × Int32) := (if 8 ≤ v_size then (some (v_bidders, v_breaths, v_size)) else (if v_size < 0 ∨ 8 ≤ Int32.toNatClampNeg v_size then none else (bnd (v_size + 1) fun z3 => (some ((upd v_bidders (Int32.toNatClampNeg v_size) x1), (upd v_breaths (Int32.toNatClampNeg v_size) x2), z3)))))
set_option maxRecDepth 100000 in
set_option maxHeartbeats 4000000 in
theorem c_X5_add (l : Launch) (g : GG) (a_this : Nat) (a_this_bidders : Nat) (a_this_breaths : Nat) (x1 : Int32) (x2 : Int32) (v_size : Int32) (v_bidders : Nat → Int32) (v_breaths : Nat → Int32) {r0 : Nat → Int32} {r1 : Nat → Int32} {r2 : Int32} (hf : f_X5_add x1 x2 v_bidders v_breaths v_size = some (r0, r1, r2)) : MD l g yX5_add cX5_add 3 none 0 0 [.ref a_this, .int x1, .int x2] [ob a_this 8 [.ref a_this_bidders, .ref a_this_breaths, .int v_size], ia g a_this_bidders 8 v_bidders, ia g a_this_breaths 8 v_breaths] none [ob a_this 8 [.ref a_this_bidders, .ref a_this_breaths, .int r2], ia g a_this_bidders 8 r0, ia g a_this_breaths 8 r1] := by
  refine MC.mk (by decide) (Nat.le_of_ble_eq_true rfl) ?_
  intro p e s m args below meth c ls Q A F hnm hK hw hA hl hQ
  have hP := hw.1
  have hx := F.1
  have hb := F.2.1
  have hml := F.2.2.2.1
  have hown := F.2.2.2.2.1
  have hts := F.2.2.2.2.2.1
  have hl : lv_has ls 3 [(0, .ref a_this), (1, .int x1), (2, .int x2)] := hl
  unfold f_X5_add at hf
  refine lv_aload_n hx hb dX5_add_0 rfl (lv_at hl 0 rfl) ?_
  refine w_get (ci := 8) F hK hP fb_X5 0 rfl rfl 2 (by decide) fl_X5_16 (fun _ h => h) rfl dX5_add_1 ?_
  refine lv_bipush (v := 8) hx hb dX5_add_4 (by decide) ?_
  refine lv_icmp_ge (tgt := 39) hx hb dX5_add_6 (by decide) (fun h1 => ?_) (fun h1 => ?_)
  · have hf := o_t h1 hf
    cases hf
    exact r_cv F hQ ⟨rfl, rfl⟩ hw dX5_add_39
  · have hf := o_f h1 hf
    refine lv_aload_n hx hb dX5_add_9 rfl (lv_at hl 0 rfl) ?_
    refine w_get (ci := 8) F hK hP fb_X5 0 rfl rfl 0 (by decide) fl_X5_9 (fun _ h => h) rfl dX5_add_10 ?_
    refine lv_aload_n hx hb dX5_add_13 rfl (lv_at hl 0 rfl) ?_
    refine w_get (ci := 8) F hK hP fb_X5 0 rfl rfl 2 (by decide) fl_X5_16 (fun _ h => h) rfl dX5_add_14 ?_
    refine lv_iload_n hx hb dX5_add_17 rfl (lv_at hl 1 rfl) ?_
    obtain ⟨h2, hf⟩ := o_chk hf
    refine w_iast (ws' := [ob a_this 8 [.ref a_this_bidders, .ref a_this_breaths, .int v_size], ia g a_this_bidders 8 (upd v_bidders (Int32.toNatClampNeg v_size) x1), ia g a_this_breaths 8 v_breaths]) F hK hw 1 rfl h2 rfl dX5_add_18 (fun H locs hw => ?_)
    have hP := hw.1
    refine lv_aload_n hx hb dX5_add_19 rfl (lv_at hl 0 rfl) ?_
    refine w_get (ci := 8) F hK hP fb_X5 0 rfl rfl 1 (by decide) fl_X5_13 (fun _ h => h) rfl dX5_add_20 ?_
    refine lv_aload_n hx hb dX5_add_23 rfl (lv_at hl 0 rfl) ?_
    refine w_get (ci := 8) F hK hP fb_X5 0 rfl rfl 2 (by decide) fl_X5_16 (fun _ h => h) rfl dX5_add_24 ?_
    refine lv_iload_n hx hb dX5_add_27 rfl (lv_at hl 2 rfl) ?_
    refine w_iast (ws' := [ob a_this 8 [.ref a_this_bidders, .ref a_this_breaths, .int v_size], ia g a_this_bidders 8 (upd v_bidders (Int32.toNatClampNeg v_size) x1), ia g a_this_breaths 8 (upd v_breaths (Int32.toNatClampNeg v_size) x2)]) F hK hw 2 rfl h2 rfl dX5_add_28 (fun H locs hw => ?_)
    have hP := hw.1
    refine lv_aload_n hx hb dX5_add_29 rfl (lv_at hl 0 rfl) ?_
    refine lv_dup hx hb dX5_add_30 rfl ?_
    refine w_get (ci := 8) F hK hP fb_X5 0 rfl rfl 2 (by decide) fl_X5_16 (fun _ h => h) rfl dX5_add_31 ?_
    refine lv_iconst (v := 1) hx hb dX5_add_34 (by decide) ?_
    refine lv_iadd hx hb dX5_add_35 ?_
    refine lv_topi (fun z3 ez3 => ?_)
    have hf := o_bnd ez3 hf
    refine w_put (ci := 8) (ws' := [ob a_this 8 [.ref a_this_bidders, .ref a_this_breaths, .int z3], ia g a_this_bidders 8 (upd v_bidders (Int32.toNatClampNeg v_size) x1), ia g a_this_breaths 8 (upd v_breaths (Int32.toNatClampNeg v_size) x2)]) F hK hw fb_X5 0 rfl rfl 2 (by decide) fl_X5_16 (fun _ h => h) rfl rfl rfl rfl (Nat.le_of_ble_eq_true rfl) rfl dX5_add_36 (fun H locs hw => ?_)
    have hP := hw.1
    cases hf
    exact r_cv F hQ ⟨rfl, rfl⟩ hw dX5_add_39
def f_X5_copy_2 (fuel : Nat) (v_p1_bidders : Nat → Int32) (v_p1_breaths : Nat → Int32) (v_p1_size : Int32) (y2 : Int32) (w_v_bidders : Nat → Int32) (w_v_breaths : Nat → Int32) (w_v_size : Int32) : Option (Int32 × (Nat → Int32) × (Nat → Int32) × Int32) := match fuel with
  | 0 => none
  | k + 1 => (if 8 ≤ y2 then (some (y2, w_v_bidders, w_v_breaths, w_v_size)) else (if y2 < 0 ∨ 8 ≤ Int32.toNatClampNeg y2 then none else (bnd (y2 + 1 : Int32) fun z3 => (f_X5_copy_2 k v_p1_bidders v_p1_breaths v_p1_size z3 (upd w_v_bidders (Int32.toNatClampNeg y2) (v_p1_bidders (Int32.toNatClampNeg y2))) (upd w_v_breaths (Int32.toNatClampNeg y2) (v_p1_breaths (Int32.toNatClampNeg y2))) w_v_size))))
def f_X5_copy (v_bidders : Nat → Int32) (v_breaths : Nat → Int32) (v_p1_bidders : Nat → Int32) (v_p1_breaths : Nat → Int32) (v_p1_size : Int32) (v_size : Int32) : Option ((Nat → Int32) × (Nat → Int32) × Int32) := ((f_X5_copy_2 4096 v_p1_bidders v_p1_breaths v_p1_size 0 v_bidders v_breaths v_size).bind fun q4 => (some (q4.2.1, q4.2.2.1, v_p1_size)))
set_option maxRecDepth 100000 in
set_option maxHeartbeats 4000000 in
theorem c_X5_copy (l : Launch) (g : GG) (a_this : Nat) (a_p1 : Nat) (a_p1_bidders : Nat) (a_p1_breaths : Nat) (a_this_bidders : Nat) (a_this_breaths : Nat) (v_p1_size : Int32) (v_p1_bidders : Nat → Int32) (v_p1_breaths : Nat → Int32) (v_size : Int32) (v_bidders : Nat → Int32) (v_breaths : Nat → Int32) {r0 : Nat → Int32} {r1 : Nat → Int32} {r2 : Int32} (hf : f_X5_copy v_bidders v_breaths v_p1_bidders v_p1_breaths v_p1_size v_size = some (r0, r1, r2)) : MD l g yX5_copy cX5_copy 3 none 0 0 [.ref a_this, .ref a_p1] [ob a_p1 8 [.ref a_p1_bidders, .ref a_p1_breaths, .int v_p1_size], ia g a_p1_bidders 8 v_p1_bidders, ia g a_p1_breaths 8 v_p1_breaths, ob a_this 8 [.ref a_this_bidders, .ref a_this_breaths, .int v_size], ia g a_this_bidders 8 v_bidders, ia g a_this_breaths 8 v_breaths] none [ob a_p1 8 [.ref a_p1_bidders, .ref a_p1_breaths, .int v_p1_size], ia g a_p1_bidders 8 v_p1_bidders, ia g a_p1_breaths 8 v_p1_breaths, ob a_this 8 [.ref a_this_bidders, .ref a_this_breaths, .int r2], ia g a_this_bidders 8 r0, ia g a_this_breaths 8 r1] := by
  refine MC.mk (by decide) (Nat.le_of_ble_eq_true rfl) ?_
  intro p e s m args below meth c ls Q A F hnm hK hw hA hl hQ
  have hP := hw.1
  have hx := F.1
  have hb := F.2.1
  have hml := F.2.2.2.1
  have hown := F.2.2.2.2.1
  have hts := F.2.2.2.2.2.1
  have hl : lv_has ls 3 [(0, .ref a_this), (1, .ref a_p1)] := hl
  have L2 : ∀ (k : Nat) (y2 : Int32) (w_v_bidders : Nat → Int32) (w_v_breaths : Nat → Int32) (w_v_size : Int32) (q : Int32 × (Nat → Int32) × (Nat → Int32) × Int32), f_X5_copy_2 k v_p1_bidders v_p1_breaths v_p1_size y2 w_v_bidders w_v_breaths w_v_size = some q → ∀ (H : Heap) (locs : List Loc) (ls : Array Slot), WD g A s.heap [ob a_p1 8 [.ref a_p1_bidders, .ref a_p1_breaths, .int v_p1_size], ia g a_p1_bidders 8 v_p1_bidders, ia g a_p1_breaths 8 v_p1_breaths, ob a_this 8 [.ref a_this_bidders, .ref a_this_breaths, .int w_v_size], ia g a_this_bidders 8 w_v_bidders, ia g a_this_breaths 8 w_v_breaths] H locs → lv_has ls 3 [(2, .int y2), (0, .ref a_this), (1, .ref a_p1)] → (∀ (H : Heap) (locs : List Loc) (ls : Array Slot), WD g A s.heap [ob a_p1 8 [.ref a_p1_bidders, .ref a_p1_breaths, .int v_p1_size], ia g a_p1_bidders 8 v_p1_bidders, ia g a_p1_breaths 8 v_p1_breaths, ob a_this 8 [.ref a_this_bidders, .ref a_this_breaths, .int q.2.2.2], ia g a_this_bidders 8 q.2.1, ia g a_this_breaths 8 q.2.2.1] H locs → lv_has ls 3 [(2, .int q.1), (0, .ref a_this), (1, .ref a_p1)] → W p l e (rmc 0 0 0 0) s m args below meth c H locs 0 0 Q (F0 m 38 ls [])) → W p l e (rmc 0 0 0 0) s m args below meth c H locs 0 0 Q (F0 m 2 ls []) := by
    intro k
    induction k with
    | zero => intro y2 w_v_bidders w_v_breaths w_v_size q hf; rw [f_X5_copy_2] at hf; cases hf
    | succ k ih =>
      intro y2 w_v_bidders w_v_breaths w_v_size q hf H locs ls hw hl kx
      rw [f_X5_copy_2] at hf
      have hP := hw.1
      refine lv_iload_n hx hb dX5_copy_2 rfl (lv_at hl 0 rfl) ?_
      refine lv_bipush (v := 8) hx hb dX5_copy_3 (by decide) ?_
      refine lv_icmp_ge (tgt := 38) hx hb dX5_copy_5 (by decide) (fun h1 => ?_) (fun h1 => ?_)
      · have hf := o_t h1 hf
        cases hf
        exact kx _ _ ls hw (lv_sub hl [0, 1, 2] rfl)
      · have hf := o_f h1 hf
        refine lv_aload_n hx hb dX5_copy_8 rfl (lv_at hl 1 rfl) ?_
        refine w_get (ci := 8) F hK hP fb_X5 3 rfl rfl 0 (by decide) fl_X5_9 (fun _ h => h) rfl dX5_copy_9 ?_
        refine lv_iload_n hx hb dX5_copy_12 rfl (lv_at hl 0 rfl) ?_
        refine lv_aload_n hx hb dX5_copy_13 rfl (lv_at hl 2 rfl) ?_
        refine w_get (ci := 8) F hK hP fb_X5 0 rfl rfl 0 (by decide) fl_X5_9 (fun _ h => h) rfl dX5_copy_14 ?_
        refine lv_iload_n hx hb dX5_copy_17 rfl (lv_at hl 0 rfl) ?_
        obtain ⟨h2, hf⟩ := o_chk hf
        refine w_iald F hK hP 1 rfl h2 dX5_copy_18 ?_
        refine w_iast (ws' := [ob a_p1 8 [.ref a_p1_bidders, .ref a_p1_breaths, .int v_p1_size], ia g a_p1_bidders 8 v_p1_bidders, ia g a_p1_breaths 8 v_p1_breaths, ob a_this 8 [.ref a_this_bidders, .ref a_this_breaths, .int w_v_size], ia g a_this_bidders 8 (upd w_v_bidders (Int32.toNatClampNeg y2) (v_p1_bidders (Int32.toNatClampNeg y2))), ia g a_this_breaths 8 w_v_breaths]) F hK hw 4 rfl h2 rfl dX5_copy_19 (fun H locs hw => ?_)
        have hP := hw.1
        refine lv_aload_n hx hb dX5_copy_20 rfl (lv_at hl 1 rfl) ?_
        refine w_get (ci := 8) F hK hP fb_X5 3 rfl rfl 1 (by decide) fl_X5_13 (fun _ h => h) rfl dX5_copy_21 ?_
        refine lv_iload_n hx hb dX5_copy_24 rfl (lv_at hl 0 rfl) ?_
        refine lv_aload_n hx hb dX5_copy_25 rfl (lv_at hl 2 rfl) ?_
        refine w_get (ci := 8) F hK hP fb_X5 0 rfl rfl 1 (by decide) fl_X5_13 (fun _ h => h) rfl dX5_copy_26 ?_
        refine lv_iload_n hx hb dX5_copy_29 rfl (lv_at hl 0 rfl) ?_
        refine w_iald F hK hP 2 rfl h2 dX5_copy_30 ?_
        refine w_iast (ws' := [ob a_p1 8 [.ref a_p1_bidders, .ref a_p1_breaths, .int v_p1_size], ia g a_p1_bidders 8 v_p1_bidders, ia g a_p1_breaths 8 v_p1_breaths, ob a_this 8 [.ref a_this_bidders, .ref a_this_breaths, .int w_v_size], ia g a_this_bidders 8 (upd w_v_bidders (Int32.toNatClampNeg y2) (v_p1_bidders (Int32.toNatClampNeg y2))), ia g a_this_breaths 8 (upd w_v_breaths (Int32.toNatClampNeg y2) (v_p1_breaths (Int32.toNatClampNeg y2)))]) F hK hw 5 rfl h2 rfl dX5_copy_31 (fun H locs hw => ?_)
        have hP := hw.1
        obtain ⟨z3, ez3⟩ : ∃ y : Int32, y = y2 + 1 := ⟨_, rfl⟩
        have hf := o_bnd ez3 hf
        refine lv_iinc (v := z3) (lv' := [(2, .int z3), (0, .ref a_this), (1, .ref a_p1)]) hx hb dX5_copy_32 hl (k := 0) rfl (by rw [ez3]; rfl) (by decide) rfl (fun ls hl => ?_)
        refine lv_goto (tgt := 2) hx hb dX5_copy_35 (by decide) ?_
        exact ih z3 (upd w_v_bidders (Int32.toNatClampNeg y2) (v_p1_bidders (Int32.toNatClampNeg y2))) (upd w_v_breaths (Int32.toNatClampNeg y2) (v_p1_breaths (Int32.toNatClampNeg y2))) w_v_size _ hf _ _ ls hw (lv_sub hl [0, 1, 2] rfl) kx
  unfold f_X5_copy at hf
  refine lv_iconst (v := 0) hx hb dX5_copy_0 (by decide) ?_
  refine lv_istore_n (lv' := [(2, .int 0), (0, .ref a_this), (1, .ref a_p1)]) hx hb dX5_copy_1 rfl hl (by decide) rfl (fun ls hl => ?_)
  obtain ⟨q4, hq4, hf⟩ := o_bind hf
  refine L2 _ 0 v_bidders v_breaths v_size _ hq4 _ _ ls hw (lv_sub hl [0, 1, 2] rfl) (fun H locs ls hw hl => ?_)
  have hP := hw.1
  refine lv_aload_n hx hb dX5_copy_38 rfl (lv_at hl 1 rfl) ?_
  refine lv_aload_n hx hb dX5_copy_39 rfl (lv_at hl 2 rfl) ?_
  refine w_get (ci := 8) F hK hP fb_X5 0 rfl rfl 2 (by decide) fl_X5_16 (fun _ h => h) rfl dX5_copy_40 ?_
  refine w_put (ci := 8) (ws' := [ob a_p1 8 [.ref a_p1_bidders, .ref a_p1_breaths, .int v_p1_size], ia g a_p1_bidders 8 v_p1_bidders, ia g a_p1_breaths 8 v_p1_breaths, ob a_this 8 [.ref a_this_bidders, .ref a_this_breaths, .int v_p1_size], ia g a_this_bidders 8 q4.2.1, ia g a_this_breaths 8 q4.2.2.1]) F hK hw fb_X5 3 rfl rfl 2 (by decide) fl_X5_16 (fun _ h => h) rfl rfl rfl rfl (Nat.le_of_ble_eq_true rfl) rfl dX5_copy_43 (fun H locs hw => ?_)
  have hP := hw.1
  cases hf
  exact r_cv F hQ ⟨rfl, rfl⟩ hw dX5_copy_46
def f_X5_agrees_2 (fuel : Nat) (v_bidders : Nat → Int32) (v_breaths : Nat → Int32) (v_p1_silences : Nat → Int32) (v_size : Int32) (y2 : Int32) : Option (Int32) := match fuel with
  | 0 => none
  | k + 1 => (if v_size ≤ y2 then (some 1) else (if y2 < 0 ∨ 8 ≤ Int32.toNatClampNeg y2 then none else (if (v_bidders (Int32.toNatClampNeg y2)) < 0 ∨ 5 ≤ Int32.toNatClampNeg (v_bidders (Int32.toNatClampNeg y2)) then none else (if (v_p1_silences (Int32.toNatClampNeg (v_bidders (Int32.toNatClampNeg y2)))) = (v_breaths (Int32.toNatClampNeg y2)) then (bnd (y2 + 1 : Int32) fun z5 => (f_X5_agrees_2 k v_bidders v_breaths v_p1_silences v_size z5)) else (some 0)))))
def f_X5_agrees (v_bidders : Nat → Int32) (v_breaths : Nat → Int32) (v_p1_silences : Nat → Int32) (v_size : Int32) : Option (Int32) := (f_X5_agrees_2 4096 v_bidders v_breaths v_p1_silences v_size 0)
set_option maxRecDepth 100000 in
set_option maxHeartbeats 4000000 in
theorem c_X5_agrees (l : Launch) (g : GG) (a_this : Nat) (a_p1 : Nat) (a_p1_hall : Nat) (a_p1_ends : Nat) (a_p1_touchers : Nat) (a_p1_stops : Nat) (a_p1_silences : Nat) (a_this_bidders : Nat) (a_this_breaths : Nat) (v_p1_getter : Int32) (v_p1_silences : Nat → Int32) (v_size : Int32) (v_bidders : Nat → Int32) (v_breaths : Nat → Int32) {r0 : Int32} (hf : f_X5_agrees v_bidders v_breaths v_p1_silences v_size = some r0) : MR l g yX5_agrees cX5_agrees 3 (some .boolean) 0 0 [.ref a_this, .ref a_p1] [ob a_p1 7 [.ref a_p1_hall, .ref a_p1_ends, .ref a_p1_touchers, .ref a_p1_stops, .ref a_p1_silences, .int v_p1_getter], ia g a_p1_silences 5 v_p1_silences, ob a_this 8 [.ref a_this_bidders, .ref a_this_breaths, .int v_size], ia g a_this_bidders 8 v_bidders, ia g a_this_breaths 8 v_breaths] (some (.int r0)) := by
  refine MR.mk (by decide) (Nat.le_of_ble_eq_true rfl) ?_
  intro p e s m args below meth c ls Q F hK hP hl hQ
  have hx := F.1
  have hb := F.2.1
  have hml := F.2.2.2.1
  have hown := F.2.2.2.2.1
  have hts := F.2.2.2.2.2.1
  have hl : lv_has ls 3 [(0, .ref a_this), (1, .ref a_p1)] := hl
  have L2 : ∀ (k : Nat) (y2 : Int32) (_q : Unit), f_X5_agrees_2 k v_bidders v_breaths v_p1_silences v_size y2 = some r0 → ∀ (ls : Array Slot), lv_has ls 3 [(2, .int y2), (0, .ref a_this), (1, .ref a_p1)] → W p l e (rmc 0 0 0 0) s m args below meth c s.heap [] 0 0 Q (F0 m 2 ls []) := by
    intro k
    induction k with
    | zero => intro y2 q hf; rw [f_X5_agrees_2] at hf; cases hf
    | succ k ih =>
      intro y2 q hf ls hl
      rw [f_X5_agrees_2] at hf
      refine lv_iload_n hx hb dX5_agrees_2 rfl (lv_at hl 0 rfl) ?_
      refine lv_aload_n hx hb dX5_agrees_3 rfl (lv_at hl 1 rfl) ?_
      refine w_get (ci := 8) F hK hP fb_X5 2 rfl rfl 2 (by decide) fl_X5_16 (fun _ h => h) rfl dX5_agrees_4 ?_
      refine lv_icmp_ge (tgt := 38) hx hb dX5_agrees_7 (by decide) (fun h1 => ?_) (fun h1 => ?_)
      · have hf := o_t h1 hf
        refine lv_iconst (v := 1) hx hb dX5_agrees_38 (by decide) ?_
        exact r_rz F hQ (by decide) (Option.some.inj hf) dX5_agrees_39
      · have hf := o_f h1 hf
        refine lv_aload_n hx hb dX5_agrees_10 rfl (lv_at hl 2 rfl) ?_
        refine w_get (ci := 7) F hK hP fb_X2 0 rfl rfl 4 (by decide) fl_X5_20 (fun _ h => h) rfl dX5_agrees_11 ?_
        refine lv_aload_n hx hb dX5_agrees_14 rfl (lv_at hl 1 rfl) ?_
        refine w_get (ci := 8) F hK hP fb_X5 2 rfl rfl 0 (by decide) fl_X5_9 (fun _ h => h) rfl dX5_agrees_15 ?_
        refine lv_iload_n hx hb dX5_agrees_18 rfl (lv_at hl 0 rfl) ?_
        obtain ⟨h2, hf⟩ := o_chk hf
        refine w_iald F hK hP 3 rfl h2 dX5_agrees_19 ?_
        obtain ⟨h3, hf⟩ := o_chk hf
        refine w_iald F hK hP 1 rfl h3 dX5_agrees_20 ?_
        refine lv_aload_n hx hb dX5_agrees_21 rfl (lv_at hl 1 rfl) ?_
        refine w_get (ci := 8) F hK hP fb_X5 2 rfl rfl 1 (by decide) fl_X5_13 (fun _ h => h) rfl dX5_agrees_22 ?_
        refine lv_iload_n hx hb dX5_agrees_25 rfl (lv_at hl 0 rfl) ?_
        refine w_iald F hK hP 4 rfl h2 dX5_agrees_26 ?_
        refine lv_icmp_eq (tgt := 32) hx hb dX5_agrees_27 (by decide) (fun h4 => ?_) (fun h4 => ?_)
        · have hf := o_t h4 hf
          obtain ⟨z5, ez5⟩ : ∃ y : Int32, y = y2 + 1 := ⟨_, rfl⟩
          have hf := o_bnd ez5 hf
          refine lv_iinc (v := z5) (lv' := [(2, .int z5), (0, .ref a_this), (1, .ref a_p1)]) hx hb dX5_agrees_32 hl (k := 0) rfl (by rw [ez5]; rfl) (by decide) rfl (fun ls hl => ?_)
          refine lv_goto (tgt := 2) hx hb dX5_agrees_35 (by decide) ?_
          exact ih z5 () hf ls (lv_sub hl [0, 1, 2] rfl)
        · have hf := o_f h4 hf
          refine lv_iconst (v := 0) hx hb dX5_agrees_30 (by decide) ?_
          exact r_rz F hQ (by decide) (Option.some.inj hf) dX5_agrees_31
  unfold f_X5_agrees at hf
  refine lv_iconst (v := 0) hx hb dX5_agrees_0 (by decide) ?_
  refine lv_istore_n (lv' := [(2, .int 0), (0, .ref a_this), (1, .ref a_p1)]) hx hb dX5_agrees_1 rfl hl (by decide) rfl (fun ls hl => ?_)
  exact L2 _ 0 () hf ls (lv_sub hl [0, 1, 2] rfl)
def f_X5_agreesOn_10 (fuel : Nat) (x1 : Int32) (v_bidders : Nat → Int32) (v_breaths : Nat → Int32) (v_p2_silences : Nat → Int32) (v_size : Int32) (y4 : Int32) (y3 : Int32) : Option (Int32) := match fuel with
  | 0 => none
  | k + 1 => (if v_size ≤ y4 then (some 1) else (if y4 < 0 ∨ 8 ≤ Int32.toNatClampNeg y4 then none else (if (v_bidders (Int32.toNatClampNeg y4)) = x1 then (if (v_breaths (Int32.toNatClampNeg y4)) = y3 then (bnd (y4 + 1 : Int32) fun z8 => (f_X5_agreesOn_10 k x1 v_bidders v_breaths v_p2_silences v_size z8 y3)) else (some 0)) else (bnd (y4 + 1 : Int32) fun z6 => (f_X5_agreesOn_10 k x1 v_bidders v_breaths v_p2_silences v_size z6 y3)))))
def f_X5_agreesOn (x1 : Int32) (v_bidders : Nat → Int32) (v_breaths : Nat → Int32) (v_p2_silences : Nat → Int32) (v_size : Int32) : Option (Int32) := (if x1 < 0 ∨ 5 ≤ Int32.toNatClampNeg x1 then none else (bnd (v_p2_silences (Int32.toNatClampNeg x1)) fun z2 => (f_X5_agreesOn_10 4096 x1 v_bidders v_breaths v_p2_silences v_size 0 z2)))
set_option maxRecDepth 100000 in
set_option maxHeartbeats 4000000 in
theorem c_X5_agreesOn (l : Launch) (g : GG) (a_this : Nat) (a_p2 : Nat) (a_p2_hall : Nat) (a_p2_ends : Nat) (a_p2_touchers : Nat) (a_p2_stops : Nat) (a_p2_silences : Nat) (a_this_bidders : Nat) (a_this_breaths : Nat) (x1 : Int32) (v_p2_getter : Int32) (v_p2_silences : Nat → Int32) (v_size : Int32) (v_bidders : Nat → Int32) (v_breaths : Nat → Int32) {r0 : Int32} (hf : f_X5_agreesOn x1 v_bidders v_breaths v_p2_silences v_size = some r0) : MR l g yX5_agreesOn cX5_agreesOn 5 (some .boolean) 0 0 [.ref a_this, .int x1, .ref a_p2] [ob a_p2 7 [.ref a_p2_hall, .ref a_p2_ends, .ref a_p2_touchers, .ref a_p2_stops, .ref a_p2_silences, .int v_p2_getter], ia g a_p2_silences 5 v_p2_silences, ob a_this 8 [.ref a_this_bidders, .ref a_this_breaths, .int v_size], ia g a_this_bidders 8 v_bidders, ia g a_this_breaths 8 v_breaths] (some (.int r0)) := by
  refine MR.mk (by decide) (Nat.le_of_ble_eq_true rfl) ?_
  intro p e s m args below meth c ls Q F hK hP hl hQ
  have hx := F.1
  have hb := F.2.1
  have hml := F.2.2.2.1
  have hown := F.2.2.2.2.1
  have hts := F.2.2.2.2.2.1
  have hl : lv_has ls 5 [(0, .ref a_this), (1, .int x1), (2, .ref a_p2)] := hl
  have L10 : ∀ (k : Nat) (y4 : Int32) (y3 : Int32) (_q : Unit), f_X5_agreesOn_10 k x1 v_bidders v_breaths v_p2_silences v_size y4 y3 = some r0 → ∀ (ls : Array Slot), lv_has ls 5 [(4, .int y4), (3, .int y3), (0, .ref a_this), (1, .int x1)] → W p l e (rmc 0 0 0 0) s m args below meth c s.heap [] 0 0 Q (F0 m 10 ls []) := by
    intro k
    induction k with
    | zero => intro y4 y3 q hf; rw [f_X5_agreesOn_10] at hf; cases hf
    | succ k ih =>
      intro y4 y3 q hf ls hl
      rw [f_X5_agreesOn_10] at hf
      refine lv_iload hx hb dX5_agreesOn_10 (lv_at hl 0 rfl) ?_
      refine lv_aload_n hx hb dX5_agreesOn_12 rfl (lv_at hl 2 rfl) ?_
      refine w_get (ci := 8) F hK hP fb_X5 2 rfl rfl 2 (by decide) fl_X5_16 (fun _ h => h) rfl dX5_agreesOn_13 ?_
      refine lv_icmp_ge (tgt := 49) hx hb dX5_agreesOn_16 (by decide) (fun h3 => ?_) (fun h3 => ?_)
      · have hf := o_t h3 hf
        refine lv_iconst (v := 1) hx hb dX5_agreesOn_49 (by decide) ?_
        exact r_rz F hQ (by decide) (Option.some.inj hf) dX5_agreesOn_50
      · have hf := o_f h3 hf
        refine lv_aload_n hx hb dX5_agreesOn_19 rfl (lv_at hl 2 rfl) ?_
        refine w_get (ci := 8) F hK hP fb_X5 2 rfl rfl 0 (by decide) fl_X5_9 (fun _ h => h) rfl dX5_agreesOn_20 ?_
        refine lv_iload hx hb dX5_agreesOn_23 (lv_at hl 0 rfl) ?_
        obtain ⟨h4, hf⟩ := o_chk hf
        refine w_iald F hK hP 3 rfl h4 dX5_agreesOn_25 ?_
        refine lv_iload_n hx hb dX5_agreesOn_26 rfl (lv_at hl 3 rfl) ?_
        refine lv_icmp_ne (tgt := 43) hx hb dX5_agreesOn_27 (by decide) (fun h5 => ?_) (fun h5 => ?_)
        · have hf := o_f h5 hf
          obtain ⟨z6, ez6⟩ : ∃ y : Int32, y = y4 + 1 := ⟨_, rfl⟩
          have hf := o_bnd ez6 hf
          refine lv_iinc (v := z6) (lv' := [(4, .int z6), (3, .int y3), (0, .ref a_this), (1, .int x1)]) hx hb dX5_agreesOn_43 hl (k := 0) rfl (by rw [ez6]; rfl) (by decide) rfl (fun ls hl => ?_)
          refine lv_goto (tgt := 10) hx hb dX5_agreesOn_46 (by decide) ?_
          exact ih z6 y3 () hf ls (lv_sub hl [0, 1, 2, 3] rfl)
        · have hf := o_t h5 hf
          refine lv_aload_n hx hb dX5_agreesOn_30 rfl (lv_at hl 2 rfl) ?_
          refine w_get (ci := 8) F hK hP fb_X5 2 rfl rfl 1 (by decide) fl_X5_13 (fun _ h => h) rfl dX5_agreesOn_31 ?_
          refine lv_iload hx hb dX5_agreesOn_34 (lv_at hl 0 rfl) ?_
          refine w_iald F hK hP 4 rfl h4 dX5_agreesOn_36 ?_
          refine lv_iload_n hx hb dX5_agreesOn_37 rfl (lv_at hl 1 rfl) ?_
          refine lv_icmp_eq (tgt := 43) hx hb dX5_agreesOn_38 (by decide) (fun h7 => ?_) (fun h7 => ?_)
          · have hf := o_t h7 hf
            obtain ⟨z8, ez8⟩ : ∃ y : Int32, y = y4 + 1 := ⟨_, rfl⟩
            have hf := o_bnd ez8 hf
            refine lv_iinc (v := z8) (lv' := [(4, .int z8), (3, .int y3), (0, .ref a_this), (1, .int x1)]) hx hb dX5_agreesOn_43 hl (k := 0) rfl (by rw [ez8]; rfl) (by decide) rfl (fun ls hl => ?_)
            refine lv_goto (tgt := 10) hx hb dX5_agreesOn_46 (by decide) ?_
            exact ih z8 y3 () hf ls (lv_sub hl [0, 1, 2, 3] rfl)
          · have hf := o_f h7 hf
            refine lv_iconst (v := 0) hx hb dX5_agreesOn_41 (by decide) ?_
            exact r_rz F hQ (by decide) (Option.some.inj hf) dX5_agreesOn_42
  unfold f_X5_agreesOn at hf
  refine lv_aload_n hx hb dX5_agreesOn_0 rfl (lv_at hl 2 rfl) ?_
  refine w_get (ci := 7) F hK hP fb_X2 0 rfl rfl 4 (by decide) fl_X5_20 (fun _ h => h) rfl dX5_agreesOn_1 ?_
  refine lv_iload_n hx hb dX5_agreesOn_4 rfl (lv_at hl 1 rfl) ?_
  obtain ⟨h1, hf⟩ := o_chk hf
  refine w_iald F hK hP 1 rfl h1 dX5_agreesOn_5 ?_
  refine lv_topi (fun z2 ez2 => ?_)
  have hf := o_bnd ez2 hf
  refine lv_istore_n (lv' := [(3, .int z2), (0, .ref a_this), (1, .int x1), (2, .ref a_p2)]) hx hb dX5_agreesOn_6 rfl hl (by decide) rfl (fun ls hl => ?_)
  refine lv_iconst (v := 0) hx hb dX5_agreesOn_7 (by decide) ?_
  refine lv_istore (lv' := [(4, .int 0), (3, .int z2), (0, .ref a_this), (1, .int x1), (2, .ref a_p2)]) hx hb dX5_agreesOn_8 hl (by decide) rfl (fun ls hl => ?_)
  exact L10 _ 0 z2 () hf ls (lv_sub hl [0, 1, 2, 3] rfl)
