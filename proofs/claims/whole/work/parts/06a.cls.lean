def f_X2_takeAsItIs_2 (fuel : Nat) (b_K : Nat → Nat) (b_ch : Nat → Int32) (b_tc : Nat → Int32) (b_wd : Nat → Int32) (v_hall_size : Int32) (y1 : Int32) (w_v_ends : Nat → Int32) (w_v_touchers : Nat → Int32) : Option (Int32 × (Nat → Int32) × (Nat → Int32)) := match fuel with
  | 0 => none
  | k + 1 => (if v_hall_size ≤ y1 then (some (y1, w_v_ends, w_v_touchers)) else (if y1 < 0 ∨ 5 ≤ Int32.toNatClampNeg y1 then none else (bnd (y1 + 1 : Int32) fun z3 => (f_X2_takeAsItIs_2 k b_K b_ch b_tc b_wd v_hall_size z3 (upd w_v_ends (Int32.toNatClampNeg y1) (endF (b_K (Int32.toNatClampNeg y1)) (b_ch (Int32.toNatClampNeg y1)) (b_wd (Int32.toNatClampNeg y1)))) (upd w_v_touchers (Int32.toNatClampNeg y1) (b_tc (Int32.toNatClampNeg y1)))))))
def f_X2_takeAsItIs (b_K : Nat → Nat) (b_ch : Nat → Int32) (b_tc : Nat → Int32) (b_wd : Nat → Int32) (v_ends : Nat → Int32) (v_hall_size : Int32) (v_touchers : Nat → Int32) : Option ((Nat → Int32) × (Nat → Int32)) := ((f_X2_takeAsItIs_2 4096 b_K b_ch b_tc b_wd v_hall_size 0 v_ends v_touchers).bind fun q4 => (some (q4.2.1, q4.2.2)))
set_option maxRecDepth 100000 in
set_option maxHeartbeats 4000000 in
theorem c_X2_takeAsItIs (l : Launch) (g : GG) (a_this : Nat) (a_this_hall : Nat) (a_this_ends : Nat) (a_this_touchers : Nat) (a_this_stops : Nat) (a_this_silences : Nat) (a_this_hall_seats : Nat) (sa : Nat → Nat) (v_getter : Int32) (v_ends : Nat → Int32) (v_hall_size : Int32) (v_hall_fall : Int32) (v_touchers : Nat → Int32) (b_K : Nat → Nat) (b_su : Nat → Int32) (b_wi : Nat → Int32) (b_wd : Nat → Int32) (b_ch : Nat → Int32) (b_tc : Nat → Int32) (hK5 : ∀ i, b_K i < 5) {r0 : Nat → Int32} {r1 : Nat → Int32} (hf : f_X2_takeAsItIs b_K b_ch b_tc b_wd v_ends v_hall_size v_touchers = some (r0, r1)) : MD l g yX2_takeAsItIs cX2_takeAsItIs 3 none 2 44 [.ref a_this] ([ob a_this 7 [.ref a_this_hall, .ref a_this_ends, .ref a_this_touchers, .ref a_this_stops, .ref a_this_silences, .int v_getter], ia g a_this_ends 5 v_ends, ob a_this_hall 6 [.ref a_this_hall_seats, .int v_hall_size, .int v_hall_fall], ra g a_this_hall_seats 5 (fun i => some (sa i)), ia g a_this_touchers 5 v_touchers] ++ swl sa b_K b_su b_wi b_wd b_ch b_tc) none ([ob a_this 7 [.ref a_this_hall, .ref a_this_ends, .ref a_this_touchers, .ref a_this_stops, .ref a_this_silences, .int v_getter], ia g a_this_ends 5 r0, ob a_this_hall 6 [.ref a_this_hall_seats, .int v_hall_size, .int v_hall_fall], ra g a_this_hall_seats 5 (fun i => some (sa i)), ia g a_this_touchers 5 r1] ++ swl sa b_K b_su b_wi b_wd b_ch b_tc) := by
  refine MC.mk (by decide) (Nat.le_of_ble_eq_true rfl) ?_
  intro p e s m args below meth c ls Q A F hnm hK hw hA hl hQ
  have hP := hw.1
  have hx := F.1
  have hb := F.2.1
  have hml := F.2.2.2.1
  have hown := F.2.2.2.2.1
  have hts := F.2.2.2.2.2.1
  have hl : lv_has ls 3 [(0, .ref a_this)] := hl
  have L2 : ∀ (k : Nat) (y1 : Int32) (w_v_ends : Nat → Int32) (w_v_touchers : Nat → Int32) (q : Int32 × (Nat → Int32) × (Nat → Int32)), f_X2_takeAsItIs_2 k b_K b_ch b_tc b_wd v_hall_size y1 w_v_ends w_v_touchers = some q → ∀ (H : Heap) (locs : List Loc) (ls : Array Slot), WD g A s.heap ([ob a_this 7 [.ref a_this_hall, .ref a_this_ends, .ref a_this_touchers, .ref a_this_stops, .ref a_this_silences, .int v_getter], ia g a_this_ends 5 w_v_ends, ob a_this_hall 6 [.ref a_this_hall_seats, .int v_hall_size, .int v_hall_fall], ra g a_this_hall_seats 5 (fun i => some (sa i)), ia g a_this_touchers 5 w_v_touchers] ++ swl sa b_K b_su b_wi b_wd b_ch b_tc) H locs → lv_has ls 3 [(1, .int y1), (0, .ref a_this)] → (∀ (H : Heap) (locs : List Loc) (ls : Array Slot), WD g A s.heap ([ob a_this 7 [.ref a_this_hall, .ref a_this_ends, .ref a_this_touchers, .ref a_this_stops, .ref a_this_silences, .int v_getter], ia g a_this_ends 5 q.2.1, ob a_this_hall 6 [.ref a_this_hall_seats, .int v_hall_size, .int v_hall_fall], ra g a_this_hall_seats 5 (fun i => some (sa i)), ia g a_this_touchers 5 q.2.2] ++ swl sa b_K b_su b_wi b_wd b_ch b_tc) H locs → lv_has ls 3 [(1, .int q.1), (0, .ref a_this)] → W p l e (rmc 2 0 0 44) s m args below meth c H locs 0 0 Q (F0 m 57 ls [])) → W p l e (rmc 2 0 0 44) s m args below meth c H locs 0 0 Q (F0 m 2 ls []) := by
    intro k
    induction k with
    | zero => intro y1 w_v_ends w_v_touchers q hf; rw [f_X2_takeAsItIs_2] at hf; cases hf
    | succ k ih =>
      intro y1 w_v_ends w_v_touchers q hf H locs ls hw hl kx
      rw [f_X2_takeAsItIs_2] at hf
      have hP := hw.1
      refine lv_iload_n hx hb dX2_takeAsItIs_2 rfl (lv_at hl 0 rfl) ?_
      refine lv_aload_n hx hb dX2_takeAsItIs_3 rfl (lv_at hl 1 rfl) ?_
      refine w_get (ci := 7) F hK hP fb_X2 0 rfl rfl 0 (by decide) fl_X2_12 (fun _ h => h) rfl dX2_takeAsItIs_4 ?_
      refine w_get (ci := 6) F hK hP fb_X4 2 rfl rfl 1 (by decide) fl_X2_35 (fun _ h => h) rfl dX2_takeAsItIs_7 ?_
      refine lv_icmp_ge (tgt := 57) hx hb dX2_takeAsItIs_10 (by decide) (fun h1 => ?_) (fun h1 => ?_)
      · have hf := o_t h1 hf
        cases hf
        exact kx _ _ ls hw (lv_sub hl [0, 1] rfl)
      · have hf := o_f h1 hf
        refine lv_aload_n hx hb dX2_takeAsItIs_13 rfl (lv_at hl 1 rfl) ?_
        refine w_get (ci := 7) F hK hP fb_X2 0 rfl rfl 0 (by decide) fl_X2_12 (fun _ h => h) rfl dX2_takeAsItIs_14 ?_
        refine w_get (ci := 6) F hK hP fb_X4 2 rfl rfl 0 (by decide) fl_X2_38 (fun _ h => h) rfl dX2_takeAsItIs_17 ?_
        refine lv_iload_n hx hb dX2_takeAsItIs_20 rfl (lv_at hl 0 rfl) ?_
        obtain ⟨h2, hf⟩ := o_chk hf
        refine w_aald F hK hP 3 rfl h2 dX2_takeAsItIs_21 ?_
        refine lv_astore_n (lv' := [(2, .ref (sa (Int32.toNatClampNeg y1))), (1, .int y1), (0, .ref a_this)]) hx hb dX2_takeAsItIs_22 rfl hl (by decide) rfl (fun ls hl => ?_)
        refine lv_aload_n hx hb dX2_takeAsItIs_23 rfl (lv_at hl 2 rfl) ?_
        refine w_get (ci := 7) F hK hP fb_X2 0 rfl rfl 1 (by decide) fl_X2_18 (fun _ h => h) rfl dX2_takeAsItIs_24 ?_
        refine lv_iload_n hx hb dX2_takeAsItIs_27 rfl (lv_at hl 1 rfl) ?_
        refine lv_aload_n hx hb dX2_takeAsItIs_28 rfl (lv_at hl 0 rfl) ?_
        refine lv_aload_n hx hb dX2_takeAsItIs_29 rfl (lv_at hl 0 rfl) ?_
        refine s_get F hK hP (in5 h2) hK5 3 rfl fl_X2_42 dX2_takeAsItIs_30 ?_
        refine lv_aload_n hx hb dX2_takeAsItIs_33 rfl (lv_at hl 0 rfl) ?_
        refine s_get F hK hP (in5 h2) hK5 2 rfl fl_X2_47 dX2_takeAsItIs_34 ?_
        refine s_endBy F hK hP (in5 h2) hK5 hl.1 (Nat.le_of_ble_eq_true rfl) (Nat.le_of_ble_eq_true rfl) (Nat.le_of_ble_eq_true rfl) (Nat.le_of_ble_eq_true rfl) (Nat.le_of_ble_eq_true rfl) dX2_takeAsItIs_37 ?_
        refine w_iast (ws' := ([ob a_this 7 [.ref a_this_hall, .ref a_this_ends, .ref a_this_touchers, .ref a_this_stops, .ref a_this_silences, .int v_getter], ia g a_this_ends 5 (upd w_v_ends (Int32.toNatClampNeg y1) (endF (b_K (Int32.toNatClampNeg y1)) (b_ch (Int32.toNatClampNeg y1)) (b_wd (Int32.toNatClampNeg y1)))), ob a_this_hall 6 [.ref a_this_hall_seats, .int v_hall_size, .int v_hall_fall], ra g a_this_hall_seats 5 (fun i => some (sa i)), ia g a_this_touchers 5 w_v_touchers] ++ swl sa b_K b_su b_wi b_wd b_ch b_tc)) F hK hw 1 rfl h2 rfl dX2_takeAsItIs_40 (fun H locs hw => ?_)
        have hP := hw.1
        refine lv_aload_n hx hb dX2_takeAsItIs_41 rfl (lv_at hl 2 rfl) ?_
        refine w_get (ci := 7) F hK hP fb_X2 0 rfl rfl 2 (by decide) fl_X2_22 (fun _ h => h) rfl dX2_takeAsItIs_42 ?_
        refine lv_iload_n hx hb dX2_takeAsItIs_45 rfl (lv_at hl 1 rfl) ?_
        refine lv_aload_n hx hb dX2_takeAsItIs_46 rfl (lv_at hl 0 rfl) ?_
        refine s_get F hK hP (in5 h2) hK5 4 rfl fl_X2_54 dX2_takeAsItIs_47 ?_
        refine w_iast (ws' := ([ob a_this 7 [.ref a_this_hall, .ref a_this_ends, .ref a_this_touchers, .ref a_this_stops, .ref a_this_silences, .int v_getter], ia g a_this_ends 5 (upd w_v_ends (Int32.toNatClampNeg y1) (endF (b_K (Int32.toNatClampNeg y1)) (b_ch (Int32.toNatClampNeg y1)) (b_wd (Int32.toNatClampNeg y1)))), ob a_this_hall 6 [.ref a_this_hall_seats, .int v_hall_size, .int v_hall_fall], ra g a_this_hall_seats 5 (fun i => some (sa i)), ia g a_this_touchers 5 (upd w_v_touchers (Int32.toNatClampNeg y1) (b_tc (Int32.toNatClampNeg y1)))] ++ swl sa b_K b_su b_wi b_wd b_ch b_tc)) F hK hw 4 rfl h2 rfl dX2_takeAsItIs_50 (fun H locs hw => ?_)
        have hP := hw.1
        obtain ⟨z3, ez3⟩ : ∃ y : Int32, y = y1 + 1 := ⟨_, rfl⟩
        have hf := o_bnd ez3 hf
        refine lv_iinc (v := z3) (lv' := [(1, .int z3), (2, .ref (sa (Int32.toNatClampNeg y1))), (0, .ref a_this)]) hx hb dX2_takeAsItIs_51 hl (k := 1) rfl (by rw [ez3]; rfl) (by decide) rfl (fun ls hl => ?_)
        refine lv_goto (tgt := 2) hx hb dX2_takeAsItIs_54 (by decide) ?_
        exact ih z3 (upd w_v_ends (Int32.toNatClampNeg y1) (endF (b_K (Int32.toNatClampNeg y1)) (b_ch (Int32.toNatClampNeg y1)) (b_wd (Int32.toNatClampNeg y1)))) (upd w_v_touchers (Int32.toNatClampNeg y1) (b_tc (Int32.toNatClampNeg y1))) _ hf _ _ ls hw (lv_sub hl [0, 2] rfl) kx
  unfold f_X2_takeAsItIs at hf
  refine lv_iconst (v := 0) hx hb dX2_takeAsItIs_0 (by decide) ?_
  refine lv_istore_n (lv' := [(1, .int 0), (0, .ref a_this)]) hx hb dX2_takeAsItIs_1 rfl hl (by decide) rfl (fun ls hl => ?_)
  obtain ⟨q4, hq4, hf⟩ := o_bind hf
  refine L2 _ 0 v_ends v_touchers _ hq4 _ _ ls hw (lv_sub hl [0, 1] rfl) (fun H locs ls hw hl => ?_)
  have hP := hw.1
  cases hf
  exact r_cv F hQ ⟨rfl, rfl⟩ hw dX2_takeAsItIs_57
def f_X2_supposeChoice (x1 : Int32) (x2 : Int32) (b_K : Nat → Nat) (b_wd : Nat → Int32) (v_ends : Nat → Int32) : Option ((Nat → Int32)) := (if x1 < 0 ∨ 5 ≤ Int32.toNatClampNeg x1 then none else (some (upd v_ends (Int32.toNatClampNeg x1) (endF (b_K (Int32.toNatClampNeg x1)) x2 (b_wd (Int32.toNatClampNeg x1))))))
set_option maxRecDepth 100000 in
set_option maxHeartbeats 4000000 in
theorem c_X2_supposeChoice (l : Launch) (g : GG) (a_this : Nat) (a_this_hall : Nat) (a_this_ends : Nat) (a_this_touchers : Nat) (a_this_stops : Nat) (a_this_silences : Nat) (a_this_hall_seats : Nat) (sa : Nat → Nat) (x1 : Int32) (x2 : Int32) (v_getter : Int32) (v_ends : Nat → Int32) (v_hall_size : Int32) (v_hall_fall : Int32) (b_K : Nat → Nat) (b_su : Nat → Int32) (b_wi : Nat → Int32) (b_wd : Nat → Int32) (b_ch : Nat → Int32) (b_tc : Nat → Int32) (hK5 : ∀ i, b_K i < 5) {r0 : Nat → Int32} (hf : f_X2_supposeChoice x1 x2 b_K b_wd v_ends = some r0) : MD l g yX2_supposeChoice cX2_supposeChoice 4 none 2 44 [.ref a_this, .int x1, .int x2] ([ob a_this 7 [.ref a_this_hall, .ref a_this_ends, .ref a_this_touchers, .ref a_this_stops, .ref a_this_silences, .int v_getter], ia g a_this_ends 5 v_ends, ob a_this_hall 6 [.ref a_this_hall_seats, .int v_hall_size, .int v_hall_fall], ra g a_this_hall_seats 5 (fun i => some (sa i))] ++ swl sa b_K b_su b_wi b_wd b_ch b_tc) none ([ob a_this 7 [.ref a_this_hall, .ref a_this_ends, .ref a_this_touchers, .ref a_this_stops, .ref a_this_silences, .int v_getter], ia g a_this_ends 5 r0, ob a_this_hall 6 [.ref a_this_hall_seats, .int v_hall_size, .int v_hall_fall], ra g a_this_hall_seats 5 (fun i => some (sa i))] ++ swl sa b_K b_su b_wi b_wd b_ch b_tc) := by
  refine MC.mk (by decide) (Nat.le_of_ble_eq_true rfl) ?_
  intro p e s m args below meth c ls Q A F hnm hK hw hA hl hQ
  have hP := hw.1
  have hx := F.1
  have hb := F.2.1
  have hml := F.2.2.2.1
  have hown := F.2.2.2.2.1
  have hts := F.2.2.2.2.2.1
  have hl : lv_has ls 4 [(0, .ref a_this), (1, .int x1), (2, .int x2)] := hl
  unfold f_X2_supposeChoice at hf
  refine lv_aload_n hx hb dX2_supposeChoice_0 rfl (lv_at hl 0 rfl) ?_
  refine w_get (ci := 7) F hK hP fb_X2 0 rfl rfl 0 (by decide) fl_X2_12 (fun _ h => h) rfl dX2_supposeChoice_1 ?_
  refine w_get (ci := 6) F hK hP fb_X4 2 rfl rfl 0 (by decide) fl_X2_38 (fun _ h => h) rfl dX2_supposeChoice_4 ?_
  refine lv_iload_n hx hb dX2_supposeChoice_7 rfl (lv_at hl 1 rfl) ?_
  obtain ⟨h1, hf⟩ := o_chk hf
  refine w_aald F hK hP 3 rfl h1 dX2_supposeChoice_8 ?_
  refine lv_astore_n (lv' := [(3, .ref (sa (Int32.toNatClampNeg x1))), (0, .ref a_this), (1, .int x1), (2, .int x2)]) hx hb dX2_supposeChoice_9 rfl hl (by decide) rfl (fun ls hl => ?_)
  refine lv_aload_n hx hb dX2_supposeChoice_10 rfl (lv_at hl 1 rfl) ?_
  refine w_get (ci := 7) F hK hP fb_X2 0 rfl rfl 1 (by decide) fl_X2_18 (fun _ h => h) rfl dX2_supposeChoice_11 ?_
  refine lv_iload_n hx hb dX2_supposeChoice_14 rfl (lv_at hl 2 rfl) ?_
  refine lv_aload_n hx hb dX2_supposeChoice_15 rfl (lv_at hl 0 rfl) ?_
  refine lv_iload_n hx hb dX2_supposeChoice_16 rfl (lv_at hl 3 rfl) ?_
  refine lv_aload_n hx hb dX2_supposeChoice_17 rfl (lv_at hl 0 rfl) ?_
  refine s_get F hK hP (in5 h1) hK5 2 rfl fl_X2_47 dX2_supposeChoice_18 ?_
  refine s_endBy F hK hP (in5 h1) hK5 hl.1 (Nat.le_of_ble_eq_true rfl) (Nat.le_of_ble_eq_true rfl) (Nat.le_of_ble_eq_true rfl) (Nat.le_of_ble_eq_true rfl) (Nat.le_of_ble_eq_true rfl) dX2_supposeChoice_21 ?_
  refine w_iast (ws' := ([ob a_this 7 [.ref a_this_hall, .ref a_this_ends, .ref a_this_touchers, .ref a_this_stops, .ref a_this_silences, .int v_getter], ia g a_this_ends 5 (upd v_ends (Int32.toNatClampNeg x1) (endF (b_K (Int32.toNatClampNeg x1)) x2 (b_wd (Int32.toNatClampNeg x1)))), ob a_this_hall 6 [.ref a_this_hall_seats, .int v_hall_size, .int v_hall_fall], ra g a_this_hall_seats 5 (fun i => some (sa i))] ++ swl sa b_K b_su b_wi b_wd b_ch b_tc)) F hK hw 1 rfl h1 rfl dX2_supposeChoice_24 (fun H locs hw => ?_)
  have hP := hw.1
  cases hf
  exact r_cv F hQ ⟨rfl, rfl⟩ hw dX2_supposeChoice_25
def f_X2_supposeWind (x1 : Int32) (x2 : Int32) (b_K : Nat → Nat) (b_ch : Nat → Int32) (v_ends : Nat → Int32) : Option ((Nat → Int32)) := (if x1 < 0 ∨ 5 ≤ Int32.toNatClampNeg x1 then none else (some (upd v_ends (Int32.toNatClampNeg x1) (endF (b_K (Int32.toNatClampNeg x1)) (b_ch (Int32.toNatClampNeg x1)) x2))))
set_option maxRecDepth 100000 in
set_option maxHeartbeats 4000000 in
theorem c_X2_supposeWind (l : Launch) (g : GG) (a_this : Nat) (a_this_hall : Nat) (a_this_ends : Nat) (a_this_touchers : Nat) (a_this_stops : Nat) (a_this_silences : Nat) (a_this_hall_seats : Nat) (sa : Nat → Nat) (x1 : Int32) (x2 : Int32) (v_getter : Int32) (v_ends : Nat → Int32) (v_hall_size : Int32) (v_hall_fall : Int32) (b_K : Nat → Nat) (b_su : Nat → Int32) (b_wi : Nat → Int32) (b_wd : Nat → Int32) (b_ch : Nat → Int32) (b_tc : Nat → Int32) (hK5 : ∀ i, b_K i < 5) {r0 : Nat → Int32} (hf : f_X2_supposeWind x1 x2 b_K b_ch v_ends = some r0) : MD l g yX2_supposeWind cX2_supposeWind 4 none 2 44 [.ref a_this, .int x1, .int x2] ([ob a_this 7 [.ref a_this_hall, .ref a_this_ends, .ref a_this_touchers, .ref a_this_stops, .ref a_this_silences, .int v_getter], ia g a_this_ends 5 v_ends, ob a_this_hall 6 [.ref a_this_hall_seats, .int v_hall_size, .int v_hall_fall], ra g a_this_hall_seats 5 (fun i => some (sa i))] ++ swl sa b_K b_su b_wi b_wd b_ch b_tc) none ([ob a_this 7 [.ref a_this_hall, .ref a_this_ends, .ref a_this_touchers, .ref a_this_stops, .ref a_this_silences, .int v_getter], ia g a_this_ends 5 r0, ob a_this_hall 6 [.ref a_this_hall_seats, .int v_hall_size, .int v_hall_fall], ra g a_this_hall_seats 5 (fun i => some (sa i))] ++ swl sa b_K b_su b_wi b_wd b_ch b_tc) := by
  refine MC.mk (by decide) (Nat.le_of_ble_eq_true rfl) ?_
  intro p e s m args below meth c ls Q A F hnm hK hw hA hl hQ
  have hP := hw.1
  have hx := F.1
  have hb := F.2.1
  have hml := F.2.2.2.1
  have hown := F.2.2.2.2.1
  have hts := F.2.2.2.2.2.1
  have hl : lv_has ls 4 [(0, .ref a_this), (1, .int x1), (2, .int x2)] := hl
  unfold f_X2_supposeWind at hf
  refine lv_aload_n hx hb dX2_supposeWind_0 rfl (lv_at hl 0 rfl) ?_
  refine w_get (ci := 7) F hK hP fb_X2 0 rfl rfl 0 (by decide) fl_X2_12 (fun _ h => h) rfl dX2_supposeWind_1 ?_
  refine w_get (ci := 6) F hK hP fb_X4 2 rfl rfl 0 (by decide) fl_X2_38 (fun _ h => h) rfl dX2_supposeWind_4 ?_
  refine lv_iload_n hx hb dX2_supposeWind_7 rfl (lv_at hl 1 rfl) ?_
  obtain ⟨h1, hf⟩ := o_chk hf
  refine w_aald F hK hP 3 rfl h1 dX2_supposeWind_8 ?_
  refine lv_astore_n (lv' := [(3, .ref (sa (Int32.toNatClampNeg x1))), (0, .ref a_this), (1, .int x1), (2, .int x2)]) hx hb dX2_supposeWind_9 rfl hl (by decide) rfl (fun ls hl => ?_)
  refine lv_aload_n hx hb dX2_supposeWind_10 rfl (lv_at hl 1 rfl) ?_
  refine w_get (ci := 7) F hK hP fb_X2 0 rfl rfl 1 (by decide) fl_X2_18 (fun _ h => h) rfl dX2_supposeWind_11 ?_
  refine lv_iload_n hx hb dX2_supposeWind_14 rfl (lv_at hl 2 rfl) ?_
  refine lv_aload_n hx hb dX2_supposeWind_15 rfl (lv_at hl 0 rfl) ?_
  refine lv_aload_n hx hb dX2_supposeWind_16 rfl (lv_at hl 0 rfl) ?_
  refine s_get F hK hP (in5 h1) hK5 3 rfl fl_X2_42 dX2_supposeWind_17 ?_
  refine lv_iload_n hx hb dX2_supposeWind_20 rfl (lv_at hl 3 rfl) ?_
  refine s_endBy F hK hP (in5 h1) hK5 hl.1 (Nat.le_of_ble_eq_true rfl) (Nat.le_of_ble_eq_true rfl) (Nat.le_of_ble_eq_true rfl) (Nat.le_of_ble_eq_true rfl) (Nat.le_of_ble_eq_true rfl) dX2_supposeWind_21 ?_
  refine w_iast (ws' := ([ob a_this 7 [.ref a_this_hall, .ref a_this_ends, .ref a_this_touchers, .ref a_this_stops, .ref a_this_silences, .int v_getter], ia g a_this_ends 5 (upd v_ends (Int32.toNatClampNeg x1) (endF (b_K (Int32.toNatClampNeg x1)) (b_ch (Int32.toNatClampNeg x1)) x2)), ob a_this_hall 6 [.ref a_this_hall_seats, .int v_hall_size, .int v_hall_fall], ra g a_this_hall_seats 5 (fun i => some (sa i))] ++ swl sa b_K b_su b_wi b_wd b_ch b_tc)) F hK hw 1 rfl h1 rfl dX2_supposeWind_24 (fun H locs hw => ?_)
  have hP := hw.1
  cases hf
  exact r_cv F hQ ⟨rfl, rfl⟩ hw dX2_supposeWind_25
def f_X2_supposeTouch (x1 : Int32) (x2 : Int32) (v_touchers : Nat → Int32) : Option ((Nat → Int32)) := (if x2 < 0 ∨ 5 ≤ Int32.toNatClampNeg x2 then none else (some (upd v_touchers (Int32.toNatClampNeg x2) ((v_touchers (Int32.toNatClampNeg x2)) ||| ((1 : Int32) <<< (x1 &&& 31))))))
set_option maxRecDepth 100000 in
set_option maxHeartbeats 4000000 in
theorem c_X2_supposeTouch (l : Launch) (g : GG) (a_this : Nat) (a_this_hall : Nat) (a_this_ends : Nat) (a_this_touchers : Nat) (a_this_stops : Nat) (a_this_silences : Nat) (x1 : Int32) (x2 : Int32) (v_getter : Int32) (v_touchers : Nat → Int32) {r0 : Nat → Int32} (hf : f_X2_supposeTouch x1 x2 v_touchers = some r0) : MD l g yX2_supposeTouch cX2_supposeTouch 3 none 0 0 [.ref a_this, .int x1, .int x2] [ob a_this 7 [.ref a_this_hall, .ref a_this_ends, .ref a_this_touchers, .ref a_this_stops, .ref a_this_silences, .int v_getter], ia g a_this_touchers 5 v_touchers] none [ob a_this 7 [.ref a_this_hall, .ref a_this_ends, .ref a_this_touchers, .ref a_this_stops, .ref a_this_silences, .int v_getter], ia g a_this_touchers 5 r0] := by
  refine MC.mk (by decide) (Nat.le_of_ble_eq_true rfl) ?_
  intro p e s m args below meth c ls Q A F hnm hK hw hA hl hQ
  have hP := hw.1
  have hx := F.1
  have hb := F.2.1
  have hml := F.2.2.2.1
  have hown := F.2.2.2.2.1
  have hts := F.2.2.2.2.2.1
  have hl : lv_has ls 3 [(0, .ref a_this), (1, .int x1), (2, .int x2)] := hl
  unfold f_X2_supposeTouch at hf
  refine lv_aload_n hx hb dX2_supposeTouch_0 rfl (lv_at hl 0 rfl) ?_
  refine w_get (ci := 7) F hK hP fb_X2 0 rfl rfl 2 (by decide) fl_X2_22 (fun _ h => h) rfl dX2_supposeTouch_1 ?_
  refine lv_iload_n hx hb dX2_supposeTouch_4 rfl (lv_at hl 2 rfl) ?_
  refine lv_dup2_11 hx hb dX2_supposeTouch_5 rfl rfl ?_
  obtain ⟨h1, hf⟩ := o_chk hf
  refine w_iald F hK hP 1 rfl h1 dX2_supposeTouch_6 ?_
  refine lv_iconst (v := 1) hx hb dX2_supposeTouch_7 (by decide) ?_
  refine lv_iload_n hx hb dX2_supposeTouch_8 rfl (lv_at hl 1 rfl) ?_
  refine lv_ishl hx hb dX2_supposeTouch_9 ?_
  refine lv_ior hx hb dX2_supposeTouch_10 ?_
  refine w_iast (ws' := [ob a_this 7 [.ref a_this_hall, .ref a_this_ends, .ref a_this_touchers, .ref a_this_stops, .ref a_this_silences, .int v_getter], ia g a_this_touchers 5 (upd v_touchers (Int32.toNatClampNeg x2) ((v_touchers (Int32.toNatClampNeg x2)) ||| ((1 : Int32) <<< (x1 &&& 31))))]) F hK hw 1 rfl h1 rfl dX2_supposeTouch_11 (fun H locs hw => ?_)
  have hP := hw.1
  cases hf
  exact r_cv F hQ ⟨rfl, rfl⟩ hw dX2_supposeTouch_12
def f_X2_stopByTouch_20 (fuel : Nat) (x1 : Int32) (v_hall_size : Int32) (v_stops : Nat → Int32) (v_touchers : Nat → Int32) (y3 : Int32) (y2 : Int32) : Option (Int32 × Int32) := match fuel with
  | 0 => none
  | k + 1 => (if v_hall_size ≤ y3 then (some (y3, y2)) else (if x1 < 0 ∨ 5 ≤ Int32.toNatClampNeg x1 then none else (if (((v_touchers (Int32.toNatClampNeg x1)) >>> (y3 &&& 31)) &&& 1) = 1 then (if y3 < 0 ∨ 5 ≤ Int32.toNatClampNeg y3 then none else (bnd (if ((v_stops (Int32.toNatClampNeg y3)) + 1) < y2 then ((v_stops (Int32.toNatClampNeg y3)) + 1) else y2) fun z9 => (bnd (y3 + 1 : Int32) fun z10 => (f_X2_stopByTouch_20 k x1 v_hall_size v_stops v_touchers z10 z9)))) else (bnd (y3 + 1 : Int32) fun z7 => (f_X2_stopByTouch_20 k x1 v_hall_size v_stops v_touchers z7 y2)))))
def f_X2_stopByTouch (x1 : Int32) (v_hall_size : Int32) (v_stops : Nat → Int32) (v_touchers : Nat → Int32) : Option (Int32) := (if x1 < 0 ∨ 5 ≤ Int32.toNatClampNeg x1 then none else (bnd (v_stops (Int32.toNatClampNeg x1)) fun z2 => (if (v_touchers (Int32.toNatClampNeg x1)) = 0 then (some z2) else ((f_X2_stopByTouch_20 4096 x1 v_hall_size v_stops v_touchers 0 z2).bind fun q11 => (some q11.2)))))
set_option maxRecDepth 100000 in
set_option maxHeartbeats 4000000 in
theorem c_X2_stopByTouch (l : Launch) (g : GG) (a_this : Nat) (a_this_hall : Nat) (a_this_ends : Nat) (a_this_touchers : Nat) (a_this_stops : Nat) (a_this_silences : Nat) (a_this_hall_seats : Nat) (x1 : Int32) (v_getter : Int32) (v_hall_size : Int32) (v_hall_fall : Int32) (v_stops : Nat → Int32) (v_touchers : Nat → Int32) {r0 : Int32} (hf : f_X2_stopByTouch x1 v_hall_size v_stops v_touchers = some r0) : MR l g yX2_stopByTouch cX2_stopByTouch 4 (some .int) 1 21 [.ref a_this, .int x1] [ob a_this 7 [.ref a_this_hall, .ref a_this_ends, .ref a_this_touchers, .ref a_this_stops, .ref a_this_silences, .int v_getter], ob a_this_hall 6 [.ref a_this_hall_seats, .int v_hall_size, .int v_hall_fall], ia g a_this_stops 5 v_stops, ia g a_this_touchers 5 v_touchers] (some (.int r0)) := by
  refine MR.mk (by decide) (Nat.le_of_ble_eq_true rfl) ?_
  intro p e s m args below meth c ls Q F hK hP hl hQ
  have hx := F.1
  have hb := F.2.1
  have hml := F.2.2.2.1
  have hown := F.2.2.2.2.1
  have hts := F.2.2.2.2.2.1
  have hl : lv_has ls 4 [(0, .ref a_this), (1, .int x1)] := hl
  have L20 : ∀ (k : Nat) (y3 : Int32) (y2 : Int32) (q : Int32 × Int32), f_X2_stopByTouch_20 k x1 v_hall_size v_stops v_touchers y3 y2 = some q → ∀ (ls : Array Slot), lv_has ls 4 [(3, .int y3), (2, .int y2), (0, .ref a_this), (1, .int x1)] → (∀ (ls : Array Slot), lv_has ls 4 [(3, .int q.1), (2, .int q.2), (0, .ref a_this), (1, .int x1)] → W p l e (rmc 1 0 0 21) s m args below meth c s.heap [] 0 0 Q (F0 m 64 ls [])) → W p l e (rmc 1 0 0 21) s m args below meth c s.heap [] 0 0 Q (F0 m 20 ls []) := by
    intro k
    induction k with
    | zero => intro y3 y2 q hf; rw [f_X2_stopByTouch_20] at hf; cases hf
    | succ k ih =>
      intro y3 y2 q hf ls hl kx
      rw [f_X2_stopByTouch_20] at hf
      refine lv_iload_n hx hb dX2_stopByTouch_20 rfl (lv_at hl 0 rfl) ?_
      refine lv_aload_n hx hb dX2_stopByTouch_21 rfl (lv_at hl 2 rfl) ?_
      refine w_get (ci := 7) F hK hP fb_X2 0 rfl rfl 0 (by decide) fl_X2_12 (fun _ h => h) rfl dX2_stopByTouch_22 ?_
      refine w_get (ci := 6) F hK hP fb_X4 1 rfl rfl 1 (by decide) fl_X2_35 (fun _ h => h) rfl dX2_stopByTouch_25 ?_
      refine lv_icmp_ge (tgt := 64) hx hb dX2_stopByTouch_28 (by decide) (fun h4 => ?_) (fun h4 => ?_)
      · have hf := o_t h4 hf
        cases hf
        exact kx ls (lv_sub hl [0, 1, 2, 3] rfl)
      · have hf := o_f h4 hf
        refine lv_aload_n hx hb dX2_stopByTouch_31 rfl (lv_at hl 2 rfl) ?_
        refine w_get (ci := 7) F hK hP fb_X2 0 rfl rfl 2 (by decide) fl_X2_22 (fun _ h => h) rfl dX2_stopByTouch_32 ?_
        refine lv_iload_n hx hb dX2_stopByTouch_35 rfl (lv_at hl 3 rfl) ?_
        obtain ⟨h5, hf⟩ := o_chk hf
        refine w_iald F hK hP 3 rfl h5 dX2_stopByTouch_36 ?_
        refine lv_iload_n hx hb dX2_stopByTouch_37 rfl (lv_at hl 0 rfl) ?_
        refine lv_ishr hx hb dX2_stopByTouch_38 ?_
        refine lv_iconst (v := 1) hx hb dX2_stopByTouch_39 (by decide) ?_
        refine lv_iand hx hb dX2_stopByTouch_40 ?_
        refine lv_iconst (v := 1) hx hb dX2_stopByTouch_41 (by decide) ?_
        refine lv_icmp_ne (tgt := 58) hx hb dX2_stopByTouch_42 (by decide) (fun h6 => ?_) (fun h6 => ?_)
        · have hf := o_f h6 hf
          obtain ⟨z7, ez7⟩ : ∃ y : Int32, y = y3 + 1 := ⟨_, rfl⟩
          have hf := o_bnd ez7 hf
          refine lv_iinc (v := z7) (lv' := [(3, .int z7), (2, .int y2), (0, .ref a_this), (1, .int x1)]) hx hb dX2_stopByTouch_58 hl (k := 0) rfl (by rw [ez7]; rfl) (by decide) rfl (fun ls hl => ?_)
          refine lv_goto (tgt := 20) hx hb dX2_stopByTouch_61 (by decide) ?_
          exact ih z7 y2 _ hf ls (lv_sub hl [0, 1, 2, 3] rfl) kx
        · have hf := o_t h6 hf
          refine lv_iload_n hx hb dX2_stopByTouch_45 rfl (lv_at hl 1 rfl) ?_
          refine lv_aload_n hx hb dX2_stopByTouch_46 rfl (lv_at hl 2 rfl) ?_
          refine w_get (ci := 7) F hK hP fb_X2 0 rfl rfl 3 (by decide) fl_X2_25 (fun _ h => h) rfl dX2_stopByTouch_47 ?_
          refine lv_iload_n hx hb dX2_stopByTouch_50 rfl (lv_at hl 0 rfl) ?_
          obtain ⟨h8, hf⟩ := o_chk hf
          refine w_iald F hK hP 2 rfl h8 dX2_stopByTouch_51 ?_
          refine lv_iconst (v := 1) hx hb dX2_stopByTouch_52 (by decide) ?_
          refine lv_iadd hx hb dX2_stopByTouch_53 ?_
          refine va_mmin hx hb (hml.trans hl.1.symm) hown (hts _ ml_X2_76) (hts _ mm_st_min) (hts _ mm_in) (hts _ mm_co_min) (Nat.le_of_ble_eq_true rfl) (Nat.le_of_ble_eq_true rfl) (Nat.le_of_ble_eq_true rfl) (Nat.le_of_ble_eq_true rfl) dX2_stopByTouch_54 ?_
          refine lv_topi (fun z9 ez9 => ?_)
          have hf := o_bnd ez9 hf
          refine lv_istore_n (lv' := [(2, .int z9), (3, .int y3), (0, .ref a_this), (1, .int x1)]) hx hb dX2_stopByTouch_57 rfl hl (by decide) rfl (fun ls hl => ?_)
          obtain ⟨z10, ez10⟩ : ∃ y : Int32, y = y3 + 1 := ⟨_, rfl⟩
          have hf := o_bnd ez10 hf
          refine lv_iinc (v := z10) (lv' := [(3, .int z10), (2, .int z9), (0, .ref a_this), (1, .int x1)]) hx hb dX2_stopByTouch_58 hl (k := 1) rfl (by rw [ez10]; rfl) (by decide) rfl (fun ls hl => ?_)
          refine lv_goto (tgt := 20) hx hb dX2_stopByTouch_61 (by decide) ?_
          exact ih z10 z9 _ hf ls (lv_sub hl [0, 1, 2, 3] rfl) kx
  unfold f_X2_stopByTouch at hf
  refine lv_aload_n hx hb dX2_stopByTouch_0 rfl (lv_at hl 0 rfl) ?_
  refine w_get (ci := 7) F hK hP fb_X2 0 rfl rfl 3 (by decide) fl_X2_25 (fun _ h => h) rfl dX2_stopByTouch_1 ?_
  refine lv_iload_n hx hb dX2_stopByTouch_4 rfl (lv_at hl 1 rfl) ?_
  obtain ⟨h1, hf⟩ := o_chk hf
  refine w_iald F hK hP 2 rfl h1 dX2_stopByTouch_5 ?_
  refine lv_topi (fun z2 ez2 => ?_)
  have hf := o_bnd ez2 hf
  refine lv_istore_n (lv' := [(2, .int z2), (0, .ref a_this), (1, .int x1)]) hx hb dX2_stopByTouch_6 rfl hl (by decide) rfl (fun ls hl => ?_)
  refine lv_aload_n hx hb dX2_stopByTouch_7 rfl (lv_at hl 1 rfl) ?_
  refine w_get (ci := 7) F hK hP fb_X2 0 rfl rfl 2 (by decide) fl_X2_22 (fun _ h => h) rfl dX2_stopByTouch_8 ?_
  refine lv_iload_n hx hb dX2_stopByTouch_11 rfl (lv_at hl 2 rfl) ?_
  refine w_iald F hK hP 3 rfl h1 dX2_stopByTouch_12 ?_
  refine lv_if_ne (tgt := 18) hx hb dX2_stopByTouch_13 (by decide) (fun h3 => ?_) (fun h3 => ?_)
  · have hf := o_f h3 hf
    refine lv_iconst (v := 0) hx hb dX2_stopByTouch_18 (by decide) ?_
    refine lv_istore_n (lv' := [(3, .int 0), (2, .int z2), (0, .ref a_this), (1, .int x1)]) hx hb dX2_stopByTouch_19 rfl hl (by decide) rfl (fun ls hl => ?_)
    obtain ⟨q11, hq11, hf⟩ := o_bind hf
    refine L20 _ 0 z2 _ hq11 ls (lv_sub hl [0, 1, 2, 3] rfl) (fun ls hl => ?_)
    refine lv_iload_n hx hb dX2_stopByTouch_64 rfl (lv_at hl 1 rfl) ?_
    exact r_ri F hQ (Option.some.inj hf) dX2_stopByTouch_65
  · have hf := o_t h3 hf
    refine lv_iload_n hx hb dX2_stopByTouch_16 rfl (lv_at hl 0 rfl) ?_
    exact r_ri F hQ (Option.some.inj hf) dX2_stopByTouch_17
def f_X2_findStops_2 (fuel : Nat) (v_ends : Nat → Int32) (v_hall_size : Int32) (v_touchers : Nat → Int32) (y1 : Int32) (w_v_stops : Nat → Int32) : Option (Int32 × (Nat → Int32)) := match fuel with
  | 0 => none
  | k + 1 => (if v_hall_size ≤ y1 then (some (y1, w_v_stops)) else (if y1 < 0 ∨ 5 ≤ Int32.toNatClampNeg y1 then none else (bnd (y1 + 1 : Int32) fun z3 => (f_X2_findStops_2 k v_ends v_hall_size v_touchers z3 (upd w_v_stops (Int32.toNatClampNeg y1) (v_ends (Int32.toNatClampNeg y1)))))))
def f_X2_findStops_54 (fuel : Nat) (v_ends : Nat → Int32) (v_hall_size : Int32) (v_touchers : Nat → Int32) (y3 : Int32) (y1 : Int32) (y2 : Int32) (w_v_stops : Nat → Int32) : Option (Int32 × Int32 × Int32 × (Nat → Int32)) := match fuel with
  | 0 => none
  | k + 1 => (if v_hall_size ≤ y3 then (some (y3, y1, y2, w_v_stops)) else ((f_X2_stopByTouch y3 v_hall_size w_v_stops v_touchers).bind fun q8 => (if y3 < 0 ∨ 5 ≤ Int32.toNatClampNeg y3 then none else (if (w_v_stops (Int32.toNatClampNeg y3)) ≤ q8 then (bnd (y1 ||| 0) fun z11 => (bnd (y3 + 1 : Int32) fun z12 => (f_X2_findStops_54 k v_ends v_hall_size v_touchers z12 z11 y2 (upd w_v_stops (Int32.toNatClampNeg y3) q8)))) else (bnd (y1 ||| 1) fun z13 => (bnd (y3 + 1 : Int32) fun z14 => (f_X2_findStops_54 k v_ends v_hall_size v_touchers z14 z13 y2 (upd w_v_stops (Int32.toNatClampNeg y3) q8))))))))
def f_X2_findStops_35 (fuel : Nat) (v_ends : Nat → Int32) (v_hall_size : Int32) (v_touchers : Nat → Int32) (y2 : Int32) (y1 : Int32) (w_v_stops : Nat → Int32) : Option (Int32 × Int32 × (Nat → Int32)) := match fuel with
  | 0 => none
  | k + 1 => (if v_hall_size ≤ y2 then (some (y2, y1, w_v_stops)) else (if y1 = 0 then (some (y2, y1, w_v_stops)) else ((f_X2_findStops_54 4096 v_ends v_hall_size v_touchers 0 0 y2 w_v_stops).bind fun q15 => (bnd (q15.2.2.1 + 1 : Int32) fun z16 => (f_X2_findStops_35 k v_ends v_hall_size v_touchers z16 q15.2.1 q15.2.2.2)))))
def f_X2_findStops (v_ends : Nat → Int32) (v_hall_size : Int32) (v_stops : Nat → Int32) (v_touchers : Nat → Int32) : Option ((Nat → Int32)) := ((f_X2_findStops_2 4096 v_ends v_hall_size v_touchers 0 v_stops).bind fun q4 => ((f_X2_findStops_35 4096 v_ends v_hall_size v_touchers 1 1 q4.2).bind fun q17 => (some q17.2.2)))
set_option maxRecDepth 100000 in
set_option maxHeartbeats 4000000 in
theorem c_X2_findStops (l : Launch) (g : GG) (a_this : Nat) (a_this_hall : Nat) (a_this_ends : Nat) (a_this_touchers : Nat) (a_this_stops : Nat) (a_this_silences : Nat) (a_this_hall_seats : Nat) (v_getter : Int32) (v_ends : Nat → Int32) (v_hall_size : Int32) (v_hall_fall : Int32) (v_stops : Nat → Int32) (v_touchers : Nat → Int32) {r0 : Nat → Int32} (hf : f_X2_findStops v_ends v_hall_size v_stops v_touchers = some r0) : MD l g yX2_findStops cX2_findStops 5 none 2 44 [.ref a_this] [ob a_this 7 [.ref a_this_hall, .ref a_this_ends, .ref a_this_touchers, .ref a_this_stops, .ref a_this_silences, .int v_getter], ia g a_this_ends 5 v_ends, ob a_this_hall 6 [.ref a_this_hall_seats, .int v_hall_size, .int v_hall_fall], ia g a_this_stops 5 v_stops, ia g a_this_touchers 5 v_touchers] none [ob a_this 7 [.ref a_this_hall, .ref a_this_ends, .ref a_this_touchers, .ref a_this_stops, .ref a_this_silences, .int v_getter], ia g a_this_ends 5 v_ends, ob a_this_hall 6 [.ref a_this_hall_seats, .int v_hall_size, .int v_hall_fall], ia g a_this_stops 5 r0, ia g a_this_touchers 5 v_touchers] := by
  refine MC.mk (by decide) (Nat.le_of_ble_eq_true rfl) ?_
  intro p e s m args below meth c ls Q A F hnm hK hw hA hl hQ
  have hP := hw.1
  have hx := F.1
  have hb := F.2.1
  have hml := F.2.2.2.1
  have hown := F.2.2.2.2.1
  have hts := F.2.2.2.2.2.1
  have hl : lv_has ls 5 [(0, .ref a_this)] := hl
  have L2 : ∀ (k : Nat) (y1 : Int32) (w_v_stops : Nat → Int32) (q : Int32 × (Nat → Int32)), f_X2_findStops_2 k v_ends v_hall_size v_touchers y1 w_v_stops = some q → ∀ (H : Heap) (locs : List Loc) (ls : Array Slot), WD g A s.heap [ob a_this 7 [.ref a_this_hall, .ref a_this_ends, .ref a_this_touchers, .ref a_this_stops, .ref a_this_silences, .int v_getter], ia g a_this_ends 5 v_ends, ob a_this_hall 6 [.ref a_this_hall_seats, .int v_hall_size, .int v_hall_fall], ia g a_this_stops 5 w_v_stops, ia g a_this_touchers 5 v_touchers] H locs → lv_has ls 5 [(1, .int y1), (0, .ref a_this)] → (∀ (H : Heap) (locs : List Loc) (ls : Array Slot), WD g A s.heap [ob a_this 7 [.ref a_this_hall, .ref a_this_ends, .ref a_this_touchers, .ref a_this_stops, .ref a_this_silences, .int v_getter], ia g a_this_ends 5 v_ends, ob a_this_hall 6 [.ref a_this_hall_seats, .int v_hall_size, .int v_hall_fall], ia g a_this_stops 5 q.2, ia g a_this_touchers 5 v_touchers] H locs → lv_has ls 5 [(1, .int q.1), (0, .ref a_this)] → W p l e (rmc 2 0 0 44) s m args below meth c H locs 0 0 Q (F0 m 31 ls [])) → W p l e (rmc 2 0 0 44) s m args below meth c H locs 0 0 Q (F0 m 2 ls []) := by
    intro k
    induction k with
    | zero => intro y1 w_v_stops q hf; rw [f_X2_findStops_2] at hf; cases hf
    | succ k ih =>
      intro y1 w_v_stops q hf H locs ls hw hl kx
      rw [f_X2_findStops_2] at hf
      have hP := hw.1
      refine lv_iload_n hx hb dX2_findStops_2 rfl (lv_at hl 0 rfl) ?_
      refine lv_aload_n hx hb dX2_findStops_3 rfl (lv_at hl 1 rfl) ?_
      refine w_get (ci := 7) F hK hP fb_X2 0 rfl rfl 0 (by decide) fl_X2_12 (fun _ h => h) rfl dX2_findStops_4 ?_
      refine w_get (ci := 6) F hK hP fb_X4 2 rfl rfl 1 (by decide) fl_X2_35 (fun _ h => h) rfl dX2_findStops_7 ?_
      refine lv_icmp_ge (tgt := 31) hx hb dX2_findStops_10 (by decide) (fun h1 => ?_) (fun h1 => ?_)
      · have hf := o_t h1 hf
        cases hf
        exact kx _ _ ls hw (lv_sub hl [0, 1] rfl)
      · have hf := o_f h1 hf
        refine lv_aload_n hx hb dX2_findStops_13 rfl (lv_at hl 1 rfl) ?_
        refine w_get (ci := 7) F hK hP fb_X2 0 rfl rfl 3 (by decide) fl_X2_25 (fun _ h => h) rfl dX2_findStops_14 ?_
        refine lv_iload_n hx hb dX2_findStops_17 rfl (lv_at hl 0 rfl) ?_
        refine lv_aload_n hx hb dX2_findStops_18 rfl (lv_at hl 1 rfl) ?_
        refine w_get (ci := 7) F hK hP fb_X2 0 rfl rfl 1 (by decide) fl_X2_18 (fun _ h => h) rfl dX2_findStops_19 ?_
        refine lv_iload_n hx hb dX2_findStops_22 rfl (lv_at hl 0 rfl) ?_
        obtain ⟨h2, hf⟩ := o_chk hf
        refine w_iald F hK hP 1 rfl h2 dX2_findStops_23 ?_
        refine w_iast (ws' := [ob a_this 7 [.ref a_this_hall, .ref a_this_ends, .ref a_this_touchers, .ref a_this_stops, .ref a_this_silences, .int v_getter], ia g a_this_ends 5 v_ends, ob a_this_hall 6 [.ref a_this_hall_seats, .int v_hall_size, .int v_hall_fall], ia g a_this_stops 5 (upd w_v_stops (Int32.toNatClampNeg y1) (v_ends (Int32.toNatClampNeg y1))), ia g a_this_touchers 5 v_touchers]) F hK hw 3 rfl h2 rfl dX2_findStops_24 (fun H locs hw => ?_)
        have hP := hw.1
        obtain ⟨z3, ez3⟩ : ∃ y : Int32, y = y1 + 1 := ⟨_, rfl⟩
        have hf := o_bnd ez3 hf
        refine lv_iinc (v := z3) (lv' := [(1, .int z3), (0, .ref a_this)]) hx hb dX2_findStops_25 hl (k := 0) rfl (by rw [ez3]; rfl) (by decide) rfl (fun ls hl => ?_)
        refine lv_goto (tgt := 2) hx hb dX2_findStops_28 (by decide) ?_
        exact ih z3 (upd w_v_stops (Int32.toNatClampNeg y1) (v_ends (Int32.toNatClampNeg y1))) _ hf _ _ ls hw (lv_sub hl [0, 1] rfl) kx
  have L54 : ∀ (k : Nat) (y3 : Int32) (y1 : Int32) (y2 : Int32) (w_v_stops : Nat → Int32) (q : Int32 × Int32 × Int32 × (Nat → Int32)), f_X2_findStops_54 k v_ends v_hall_size v_touchers y3 y1 y2 w_v_stops = some q → ∀ (H : Heap) (locs : List Loc) (ls : Array Slot), WD g A s.heap [ob a_this 7 [.ref a_this_hall, .ref a_this_ends, .ref a_this_touchers, .ref a_this_stops, .ref a_this_silences, .int v_getter], ia g a_this_ends 5 v_ends, ob a_this_hall 6 [.ref a_this_hall_seats, .int v_hall_size, .int v_hall_fall], ia g a_this_stops 5 w_v_stops, ia g a_this_touchers 5 v_touchers] H locs → lv_has ls 5 [(3, .int y3), (1, .int y1), (2, .int y2), (0, .ref a_this)] → (∀ (H : Heap) (locs : List Loc) (ls : Array Slot), WD g A s.heap [ob a_this 7 [.ref a_this_hall, .ref a_this_ends, .ref a_this_touchers, .ref a_this_stops, .ref a_this_silences, .int v_getter], ia g a_this_ends 5 v_ends, ob a_this_hall 6 [.ref a_this_hall_seats, .int v_hall_size, .int v_hall_fall], ia g a_this_stops 5 q.2.2.2, ia g a_this_touchers 5 v_touchers] H locs → lv_has ls 5 [(3, .int q.1), (1, .int q.2.1), (2, .int q.2.2.1), (0, .ref a_this)] → W p l e (rmc 2 0 0 44) s m args below meth c H locs 0 0 Q (F0 m 105 ls [])) → W p l e (rmc 2 0 0 44) s m args below meth c H locs 0 0 Q (F0 m 54 ls []) := by
    intro k
    induction k with
    | zero => intro y3 y1 y2 w_v_stops q hf; rw [f_X2_findStops_54] at hf; cases hf
    | succ k ih =>
      intro y3 y1 y2 w_v_stops q hf H locs ls hw hl kx
      rw [f_X2_findStops_54] at hf
      have hP := hw.1
      refine lv_iload_n hx hb dX2_findStops_54 rfl (lv_at hl 0 rfl) ?_
      refine lv_aload_n hx hb dX2_findStops_55 rfl (lv_at hl 3 rfl) ?_
      refine w_get (ci := 7) F hK hP fb_X2 0 rfl rfl 0 (by decide) fl_X2_12 (fun _ h => h) rfl dX2_findStops_56 ?_
      refine w_get (ci := 6) F hK hP fb_X4 2 rfl rfl 1 (by decide) fl_X2_35 (fun _ h => h) rfl dX2_findStops_59 ?_
      refine lv_icmp_ge (tgt := 105) hx hb dX2_findStops_62 (by decide) (fun h7 => ?_) (fun h7 => ?_)
      · have hf := o_t h7 hf
        cases hf
        exact kx _ _ ls hw (lv_sub hl [0, 1, 2, 3] rfl)
      · have hf := o_f h7 hf
        refine lv_aload_n hx hb dX2_findStops_65 rfl (lv_at hl 3 rfl) ?_
        refine lv_iload_n hx hb dX2_findStops_66 rfl (lv_at hl 0 rfl) ?_
        obtain ⟨q8, hq8, hf⟩ := o_bind hf
        refine k_rV F (c_X2_stopByTouch l g a_this a_this_hall a_this_ends a_this_touchers a_this_stops a_this_silences a_this_hall_seats y3 v_getter v_hall_size v_hall_fall w_v_stops v_touchers hq8) qv_X2_stopByTouch ml_X2_72 (hP.sub [0, 2, 3, 4] rfl) hK (va_recv hK.1 hP (ci := 7) (q0 := 0) rfl rfl) rfl hl.1 rfl (Nat.le_of_ble_eq_true rfl) dX2_findStops_67 ⟨(Nat.le_of_ble_eq_true rfl), (Nat.le_of_ble_eq_true rfl)⟩ ⟨(Nat.le_of_ble_eq_true rfl), (Nat.le_of_ble_eq_true rfl)⟩ ?_
        refine W.eq (g2 := F0 m 70 ls (.int q8 :: [])) rfl ?_
        refine lv_istore (lv' := [(4, .int q8), (3, .int y3), (1, .int y1), (2, .int y2), (0, .ref a_this)]) hx hb dX2_findStops_70 hl (by decide) rfl (fun ls hl => ?_)
        refine lv_iload_n hx hb dX2_findStops_72 rfl (lv_at hl 2 rfl) ?_
        refine lv_iload hx hb dX2_findStops_73 (lv_at hl 0 rfl) ?_
        refine lv_aload_n hx hb dX2_findStops_75 rfl (lv_at hl 4 rfl) ?_
        refine w_get (ci := 7) F hK hP fb_X2 0 rfl rfl 3 (by decide) fl_X2_25 (fun _ h => h) rfl dX2_findStops_76 ?_
        refine lv_iload_n hx hb dX2_findStops_79 rfl (lv_at hl 1 rfl) ?_
        obtain ⟨h9, hf⟩ := o_chk hf
        refine w_iald F hK hP 3 rfl h9 dX2_findStops_80 ?_
        refine lv_icmp_ge (tgt := 88) hx hb dX2_findStops_81 (by decide) (fun h10 => ?_) (fun h10 => ?_)
        · have hf := o_t h10 hf
          refine lv_iconst (v := 0) hx hb dX2_findStops_88 (by decide) ?_
          refine lv_ior hx hb dX2_findStops_89 ?_
          refine lv_topi (fun z11 ez11 => ?_)
          have hf := o_bnd ez11 hf
          refine lv_istore_n (lv' := [(1, .int z11), (4, .int q8), (3, .int y3), (2, .int y2), (0, .ref a_this)]) hx hb dX2_findStops_90 rfl hl (by decide) rfl (fun ls hl => ?_)
          refine lv_aload_n hx hb dX2_findStops_91 rfl (lv_at hl 4 rfl) ?_
          refine w_get (ci := 7) F hK hP fb_X2 0 rfl rfl 3 (by decide) fl_X2_25 (fun _ h => h) rfl dX2_findStops_92 ?_
          refine lv_iload_n hx hb dX2_findStops_95 rfl (lv_at hl 2 rfl) ?_
          refine lv_iload hx hb dX2_findStops_96 (lv_at hl 1 rfl) ?_
          refine w_iast (ws' := [ob a_this 7 [.ref a_this_hall, .ref a_this_ends, .ref a_this_touchers, .ref a_this_stops, .ref a_this_silences, .int v_getter], ia g a_this_ends 5 v_ends, ob a_this_hall 6 [.ref a_this_hall_seats, .int v_hall_size, .int v_hall_fall], ia g a_this_stops 5 (upd w_v_stops (Int32.toNatClampNeg y3) q8), ia g a_this_touchers 5 v_touchers]) F hK hw 3 rfl h9 rfl dX2_findStops_98 (fun H locs hw => ?_)
          have hP := hw.1
          obtain ⟨z12, ez12⟩ : ∃ y : Int32, y = y3 + 1 := ⟨_, rfl⟩
          have hf := o_bnd ez12 hf
          refine lv_iinc (v := z12) (lv' := [(3, .int z12), (1, .int z11), (4, .int q8), (2, .int y2), (0, .ref a_this)]) hx hb dX2_findStops_99 hl (k := 2) rfl (by rw [ez12]; rfl) (by decide) rfl (fun ls hl => ?_)
          refine lv_goto (tgt := 54) hx hb dX2_findStops_102 (by decide) ?_
          exact ih z12 z11 y2 (upd w_v_stops (Int32.toNatClampNeg y3) q8) _ hf _ _ ls hw (lv_sub hl [0, 1, 3, 4] rfl) kx
        · have hf := o_f h10 hf
          refine lv_iconst (v := 1) hx hb dX2_findStops_84 (by decide) ?_
          refine lv_goto (tgt := 89) hx hb dX2_findStops_85 (by decide) ?_
          refine lv_ior hx hb dX2_findStops_89 ?_
          refine lv_topi (fun z13 ez13 => ?_)
          have hf := o_bnd ez13 hf
          refine lv_istore_n (lv' := [(1, .int z13), (4, .int q8), (3, .int y3), (2, .int y2), (0, .ref a_this)]) hx hb dX2_findStops_90 rfl hl (by decide) rfl (fun ls hl => ?_)
          refine lv_aload_n hx hb dX2_findStops_91 rfl (lv_at hl 4 rfl) ?_
          refine w_get (ci := 7) F hK hP fb_X2 0 rfl rfl 3 (by decide) fl_X2_25 (fun _ h => h) rfl dX2_findStops_92 ?_
          refine lv_iload_n hx hb dX2_findStops_95 rfl (lv_at hl 2 rfl) ?_
          refine lv_iload hx hb dX2_findStops_96 (lv_at hl 1 rfl) ?_
          refine w_iast (ws' := [ob a_this 7 [.ref a_this_hall, .ref a_this_ends, .ref a_this_touchers, .ref a_this_stops, .ref a_this_silences, .int v_getter], ia g a_this_ends 5 v_ends, ob a_this_hall 6 [.ref a_this_hall_seats, .int v_hall_size, .int v_hall_fall], ia g a_this_stops 5 (upd w_v_stops (Int32.toNatClampNeg y3) q8), ia g a_this_touchers 5 v_touchers]) F hK hw 3 rfl h9 rfl dX2_findStops_98 (fun H locs hw => ?_)
          have hP := hw.1
          obtain ⟨z14, ez14⟩ : ∃ y : Int32, y = y3 + 1 := ⟨_, rfl⟩
          have hf := o_bnd ez14 hf
          refine lv_iinc (v := z14) (lv' := [(3, .int z14), (1, .int z13), (4, .int q8), (2, .int y2), (0, .ref a_this)]) hx hb dX2_findStops_99 hl (k := 2) rfl (by rw [ez14]; rfl) (by decide) rfl (fun ls hl => ?_)
          refine lv_goto (tgt := 54) hx hb dX2_findStops_102 (by decide) ?_
          exact ih z14 z13 y2 (upd w_v_stops (Int32.toNatClampNeg y3) q8) _ hf _ _ ls hw (lv_sub hl [0, 1, 3, 4] rfl) kx
  have L35 : ∀ (k : Nat) (y2 : Int32) (y1 : Int32) (w_v_stops : Nat → Int32) (q : Int32 × Int32 × (Nat → Int32)), f_X2_findStops_35 k v_ends v_hall_size v_touchers y2 y1 w_v_stops = some q → ∀ (H : Heap) (locs : List Loc) (ls : Array Slot), WD g A s.heap [ob a_this 7 [.ref a_this_hall, .ref a_this_ends, .ref a_this_touchers, .ref a_this_stops, .ref a_this_silences, .int v_getter], ia g a_this_ends 5 v_ends, ob a_this_hall 6 [.ref a_this_hall_seats, .int v_hall_size, .int v_hall_fall], ia g a_this_stops 5 w_v_stops, ia g a_this_touchers 5 v_touchers] H locs → lv_has ls 5 [(2, .int y2), (1, .int y1), (0, .ref a_this)] → (∀ (H : Heap) (locs : List Loc) (ls : Array Slot), WD g A s.heap [ob a_this 7 [.ref a_this_hall, .ref a_this_ends, .ref a_this_touchers, .ref a_this_stops, .ref a_this_silences, .int v_getter], ia g a_this_ends 5 v_ends, ob a_this_hall 6 [.ref a_this_hall_seats, .int v_hall_size, .int v_hall_fall], ia g a_this_stops 5 q.2.2, ia g a_this_touchers 5 v_touchers] H locs → lv_has ls 5 [(2, .int q.1), (1, .int q.2.1), (0, .ref a_this)] → W p l e (rmc 2 0 0 44) s m args below meth c H locs 0 0 Q (F0 m 111 ls [])) → W p l e (rmc 2 0 0 44) s m args below meth c H locs 0 0 Q (F0 m 35 ls []) := by
    intro k
    induction k with
    | zero => intro y2 y1 w_v_stops q hf; rw [f_X2_findStops_35] at hf; cases hf
    | succ k ih =>
      intro y2 y1 w_v_stops q hf H locs ls hw hl kx
      rw [f_X2_findStops_35] at hf
      have hP := hw.1
      refine lv_iload_n hx hb dX2_findStops_35 rfl (lv_at hl 0 rfl) ?_
      refine lv_aload_n hx hb dX2_findStops_36 rfl (lv_at hl 2 rfl) ?_
      refine w_get (ci := 7) F hK hP fb_X2 0 rfl rfl 0 (by decide) fl_X2_12 (fun _ h => h) rfl dX2_findStops_37 ?_
      refine w_get (ci := 6) F hK hP fb_X4 2 rfl rfl 1 (by decide) fl_X2_35 (fun _ h => h) rfl dX2_findStops_40 ?_
      refine lv_icmp_ge (tgt := 111) hx hb dX2_findStops_43 (by decide) (fun h5 => ?_) (fun h5 => ?_)
      · have hf := o_t h5 hf
        cases hf
        exact kx _ _ ls hw (lv_sub hl [0, 1, 2] rfl)
      · have hf := o_f h5 hf
        refine lv_iload_n hx hb dX2_findStops_46 rfl (lv_at hl 1 rfl) ?_
        refine lv_if_eq (tgt := 111) hx hb dX2_findStops_47 (by decide) (fun h6 => ?_) (fun h6 => ?_)
        · have hf := o_t h6 hf
          cases hf
          exact kx _ _ ls hw (lv_sub hl [0, 1, 2] rfl)
        · have hf := o_f h6 hf
          refine lv_iconst (v := 0) hx hb dX2_findStops_50 (by decide) ?_
          refine lv_istore_n (lv' := [(1, .int 0), (2, .int y2), (0, .ref a_this)]) hx hb dX2_findStops_51 rfl hl (by decide) rfl (fun ls hl => ?_)
          refine lv_iconst (v := 0) hx hb dX2_findStops_52 (by decide) ?_
          refine lv_istore_n (lv' := [(3, .int 0), (1, .int 0), (2, .int y2), (0, .ref a_this)]) hx hb dX2_findStops_53 rfl hl (by decide) rfl (fun ls hl => ?_)
          obtain ⟨q15, hq15, hf⟩ := o_bind hf
          refine L54 _ 0 0 y2 w_v_stops _ hq15 _ _ ls hw (lv_sub hl [0, 1, 2, 3] rfl) (fun H locs ls hw hl => ?_)
          have hP := hw.1
          obtain ⟨z16, ez16⟩ : ∃ y : Int32, y = q15.2.2.1 + 1 := ⟨_, rfl⟩
          have hf := o_bnd ez16 hf
          refine lv_iinc (v := z16) (lv' := [(2, .int z16), (3, .int q15.1), (1, .int q15.2.1), (0, .ref a_this)]) hx hb dX2_findStops_105 hl (k := 2) rfl (by rw [ez16]; rfl) (by decide) rfl (fun ls hl => ?_)
          refine lv_goto (tgt := 35) hx hb dX2_findStops_108 (by decide) ?_
          exact ih z16 q15.2.1 q15.2.2.2 _ hf _ _ ls hw (lv_sub hl [0, 2, 3] rfl) kx
  unfold f_X2_findStops at hf
  refine lv_iconst (v := 0) hx hb dX2_findStops_0 (by decide) ?_
  refine lv_istore_n (lv' := [(1, .int 0), (0, .ref a_this)]) hx hb dX2_findStops_1 rfl hl (by decide) rfl (fun ls hl => ?_)
  obtain ⟨q4, hq4, hf⟩ := o_bind hf
  refine L2 _ 0 v_stops _ hq4 _ _ ls hw (lv_sub hl [0, 1] rfl) (fun H locs ls hw hl => ?_)
  have hP := hw.1
  refine lv_iconst (v := 1) hx hb dX2_findStops_31 (by decide) ?_
  refine lv_istore_n (lv' := [(1, .int 1), (0, .ref a_this)]) hx hb dX2_findStops_32 rfl hl (by decide) rfl (fun ls hl => ?_)
  refine lv_iconst (v := 1) hx hb dX2_findStops_33 (by decide) ?_
  refine lv_istore_n (lv' := [(2, .int 1), (1, .int 1), (0, .ref a_this)]) hx hb dX2_findStops_34 rfl hl (by decide) rfl (fun ls hl => ?_)
  obtain ⟨q17, hq17, hf⟩ := o_bind hf
  refine L35 _ 1 1 q4.2 _ hq17 _ _ ls hw (lv_sub hl [0, 1, 2] rfl) (fun H locs ls hw hl => ?_)
  have hP := hw.1
  cases hf
  exact r_cv F hQ ⟨rfl, rfl⟩ hw dX2_findStops_111
def f_X2_findGetter_16 (fuel : Nat) (v_hall_size : Int32) (v_silences : Nat → Int32) (y5 : Int32) (y4 : Int32) (y3 : Int32) (y2 : Int32) (y1 : Int32) (w_v_getter : Int32) : Option (Int32 × Int32 × Int32 × Int32 × Int32 × Int32) := match fuel with
  | 0 => none
  | k + 1 => (if v_hall_size ≤ y5 then (some (y5, y4, y3, y2, y1, w_v_getter)) else (if y5 < 0 ∨ 5 ≤ Int32.toNatClampNeg y5 then none else (bnd (v_silences (Int32.toNatClampNeg y5)) fun z3 => (if y1 ≤ z3 then (if z3 = y1 then (bnd (y5 + 1 : Int32) fun z11 => (f_X2_findGetter_16 k v_hall_size v_silences z11 y4 (-1) y2 y1 w_v_getter)) else (if y2 ≤ z3 then (if z3 = y2 then (bnd (y5 + 1 : Int32) fun z9 => (f_X2_findGetter_16 k v_hall_size v_silences z9 (-1) y3 y2 y1 w_v_getter)) else (bnd (y5 + 1 : Int32) fun z8 => (f_X2_findGetter_16 k v_hall_size v_silences z8 y4 y3 y2 y1 w_v_getter))) else (bnd (y5 + 1 : Int32) fun z10 => (f_X2_findGetter_16 k v_hall_size v_silences z10 y5 y3 z3 y1 w_v_getter)))) else (bnd (y5 + 1 : Int32) fun z12 => (f_X2_findGetter_16 k v_hall_size v_silences z12 y3 y5 y1 z3 w_v_getter))))))
def f_X2_findGetter (v_getter : Int32) (v_hall_size : Int32) (v_silences : Nat → Int32) : Option (Int32) := ((f_X2_findGetter_16 4096 v_hall_size v_silences 0 (-1) (-1) 1000 1000 v_getter).bind fun q13 => (if q13.2.2.1 = (-1) then (some (-1)) else (some q13.2.1)))
set_option maxRecDepth 100000 in
set_option maxHeartbeats 4000000 in
theorem c_X2_findGetter (l : Launch) (g : GG) (a_this : Nat) (a_this_hall : Nat) (a_this_ends : Nat) (a_this_touchers : Nat) (a_this_stops : Nat) (a_this_silences : Nat) (a_this_hall_seats : Nat) (v_getter : Int32) (v_hall_size : Int32) (v_hall_fall : Int32) (v_silences : Nat → Int32) {r0 : Int32} (hf : f_X2_findGetter v_getter v_hall_size v_silences = some r0) : MD l g yX2_findGetter cX2_findGetter 7 none 0 0 [.ref a_this] [ob a_this 7 [.ref a_this_hall, .ref a_this_ends, .ref a_this_touchers, .ref a_this_stops, .ref a_this_silences, .int v_getter], ob a_this_hall 6 [.ref a_this_hall_seats, .int v_hall_size, .int v_hall_fall], ia g a_this_silences 5 v_silences] none [ob a_this 7 [.ref a_this_hall, .ref a_this_ends, .ref a_this_touchers, .ref a_this_stops, .ref a_this_silences, .int r0], ob a_this_hall 6 [.ref a_this_hall_seats, .int v_hall_size, .int v_hall_fall], ia g a_this_silences 5 v_silences] := by
  refine MC.mk (by decide) (Nat.le_of_ble_eq_true rfl) ?_
  intro p e s m args below meth c ls Q A F hnm hK hw hA hl hQ
  have hP := hw.1
  have hx := F.1
  have hb := F.2.1
  have hml := F.2.2.2.1
  have hown := F.2.2.2.2.1
  have hts := F.2.2.2.2.2.1
  have hl : lv_has ls 7 [(0, .ref a_this)] := hl
  have L16 : ∀ (k : Nat) (y5 : Int32) (y4 : Int32) (y3 : Int32) (y2 : Int32) (y1 : Int32) (w_v_getter : Int32) (q : Int32 × Int32 × Int32 × Int32 × Int32 × Int32), f_X2_findGetter_16 k v_hall_size v_silences y5 y4 y3 y2 y1 w_v_getter = some q → ∀ (H : Heap) (locs : List Loc) (ls : Array Slot), WD g A s.heap [ob a_this 7 [.ref a_this_hall, .ref a_this_ends, .ref a_this_touchers, .ref a_this_stops, .ref a_this_silences, .int w_v_getter], ob a_this_hall 6 [.ref a_this_hall_seats, .int v_hall_size, .int v_hall_fall], ia g a_this_silences 5 v_silences] H locs → lv_has ls 7 [(5, .int y5), (4, .int y4), (3, .int y3), (2, .int y2), (1, .int y1), (0, .ref a_this)] → (∀ (H : Heap) (locs : List Loc) (ls : Array Slot), WD g A s.heap [ob a_this 7 [.ref a_this_hall, .ref a_this_ends, .ref a_this_touchers, .ref a_this_stops, .ref a_this_silences, .int q.2.2.2.2.2], ob a_this_hall 6 [.ref a_this_hall_seats, .int v_hall_size, .int v_hall_fall], ia g a_this_silences 5 v_silences] H locs → lv_has ls 7 [(5, .int q.1), (4, .int q.2.1), (3, .int q.2.2.1), (2, .int q.2.2.2.1), (1, .int q.2.2.2.2.1), (0, .ref a_this)] → W p l e (rmc 0 0 0 0) s m args below meth c H locs 0 0 Q (F0 m 99 ls [])) → W p l e (rmc 0 0 0 0) s m args below meth c H locs 0 0 Q (F0 m 16 ls []) := by
    intro k
    induction k with
    | zero => intro y5 y4 y3 y2 y1 w_v_getter q hf; rw [f_X2_findGetter_16] at hf; cases hf
    | succ k ih =>
      intro y5 y4 y3 y2 y1 w_v_getter q hf H locs ls hw hl kx
      rw [f_X2_findGetter_16] at hf
      have hP := hw.1
      refine lv_iload hx hb dX2_findGetter_16 (lv_at hl 0 rfl) ?_
      refine lv_aload_n hx hb dX2_findGetter_18 rfl (lv_at hl 5 rfl) ?_
      refine w_get (ci := 7) F hK hP fb_X2 0 rfl rfl 0 (by decide) fl_X2_12 (fun _ h => h) rfl dX2_findGetter_19 ?_
      refine w_get (ci := 6) F hK hP fb_X4 1 rfl rfl 1 (by decide) fl_X2_35 (fun _ h => h) rfl dX2_findGetter_22 ?_
      refine lv_icmp_ge (tgt := 99) hx hb dX2_findGetter_25 (by decide) (fun h1 => ?_) (fun h1 => ?_)
      · have hf := o_t h1 hf
        cases hf
        exact kx _ _ ls hw (lv_sub hl [0, 1, 2, 3, 4, 5] rfl)
      · have hf := o_f h1 hf
        refine lv_aload_n hx hb dX2_findGetter_28 rfl (lv_at hl 5 rfl) ?_
        refine w_get (ci := 7) F hK hP fb_X2 0 rfl rfl 4 (by decide) fl_X2_28 (fun _ h => h) rfl dX2_findGetter_29 ?_
        refine lv_iload hx hb dX2_findGetter_32 (lv_at hl 0 rfl) ?_
        obtain ⟨h2, hf⟩ := o_chk hf
        refine w_iald F hK hP 2 rfl h2 dX2_findGetter_34 ?_
        refine lv_topi (fun z3 ez3 => ?_)
        have hf := o_bnd ez3 hf
        refine lv_istore (lv' := [(6, .int z3), (5, .int y5), (4, .int y4), (3, .int y3), (2, .int y2), (1, .int y1), (0, .ref a_this)]) hx hb dX2_findGetter_35 hl (by decide) rfl (fun ls hl => ?_)
        refine lv_iload hx hb dX2_findGetter_37 (lv_at hl 0 rfl) ?_
        refine lv_iload_n hx hb dX2_findGetter_39 rfl (lv_at hl 5 rfl) ?_
        refine lv_icmp_ge (tgt := 57) hx hb dX2_findGetter_40 (by decide) (fun h4 => ?_) (fun h4 => ?_)
        · have hf := o_t h4 hf
          refine lv_iload hx hb dX2_findGetter_57 (lv_at hl 0 rfl) ?_
          refine lv_iload_n hx hb dX2_findGetter_59 rfl (lv_at hl 5 rfl) ?_
          refine lv_icmp_ne (tgt := 68) hx hb dX2_findGetter_60 (by decide) (fun h5 => ?_) (fun h5 => ?_)
          · have hf := o_f h5 hf
            refine lv_iload hx hb dX2_findGetter_68 (lv_at hl 0 rfl) ?_
            refine lv_iload_n hx hb dX2_findGetter_70 rfl (lv_at hl 4 rfl) ?_
            refine lv_icmp_ge (tgt := 84) hx hb dX2_findGetter_71 (by decide) (fun h6 => ?_) (fun h6 => ?_)
            · have hf := o_t h6 hf
              refine lv_iload hx hb dX2_findGetter_84 (lv_at hl 0 rfl) ?_
              refine lv_iload_n hx hb dX2_findGetter_86 rfl (lv_at hl 4 rfl) ?_
              refine lv_icmp_ne (tgt := 93) hx hb dX2_findGetter_87 (by decide) (fun h7 => ?_) (fun h7 => ?_)
              · have hf := o_f h7 hf
                obtain ⟨z8, ez8⟩ : ∃ y : Int32, y = y5 + 1 := ⟨_, rfl⟩
                have hf := o_bnd ez8 hf
                refine lv_iinc (v := z8) (lv' := [(5, .int z8), (6, .int z3), (4, .int y4), (3, .int y3), (2, .int y2), (1, .int y1), (0, .ref a_this)]) hx hb dX2_findGetter_93 hl (k := 1) rfl (by rw [ez8]; rfl) (by decide) rfl (fun ls hl => ?_)
                refine lv_goto (tgt := 16) hx hb dX2_findGetter_96 (by decide) ?_
                exact ih z8 y4 y3 y2 y1 w_v_getter _ hf _ _ ls hw (lv_sub hl [0, 2, 3, 4, 5, 6] rfl) kx
              · have hf := o_t h7 hf
                refine lv_iconst (v := (-1)) hx hb dX2_findGetter_90 (by decide) ?_
                refine lv_istore (lv' := [(4, .int (-1)), (6, .int z3), (5, .int y5), (3, .int y3), (2, .int y2), (1, .int y1), (0, .ref a_this)]) hx hb dX2_findGetter_91 hl (by decide) rfl (fun ls hl => ?_)
                obtain ⟨z9, ez9⟩ : ∃ y : Int32, y = y5 + 1 := ⟨_, rfl⟩
                have hf := o_bnd ez9 hf
                refine lv_iinc (v := z9) (lv' := [(5, .int z9), (4, .int (-1)), (6, .int z3), (3, .int y3), (2, .int y2), (1, .int y1), (0, .ref a_this)]) hx hb dX2_findGetter_93 hl (k := 2) rfl (by rw [ez9]; rfl) (by decide) rfl (fun ls hl => ?_)
                refine lv_goto (tgt := 16) hx hb dX2_findGetter_96 (by decide) ?_
                exact ih z9 (-1) y3 y2 y1 w_v_getter _ hf _ _ ls hw (lv_sub hl [0, 1, 3, 4, 5, 6] rfl) kx
            · have hf := o_f h6 hf
              refine lv_iload hx hb dX2_findGetter_74 (lv_at hl 0 rfl) ?_
              refine lv_istore_n (lv' := [(2, .int z3), (6, .int z3), (5, .int y5), (4, .int y4), (3, .int y3), (1, .int y1), (0, .ref a_this)]) hx hb dX2_findGetter_76 rfl hl (by decide) rfl (fun ls hl => ?_)
              refine lv_iload hx hb dX2_findGetter_77 (lv_at hl 2 rfl) ?_
              refine lv_istore (lv' := [(4, .int y5), (2, .int z3), (6, .int z3), (5, .int y5), (3, .int y3), (1, .int y1), (0, .ref a_this)]) hx hb dX2_findGetter_79 hl (by decide) rfl (fun ls hl => ?_)
              refine lv_goto (tgt := 93) hx hb dX2_findGetter_81 (by decide) ?_
              obtain ⟨z10, ez10⟩ : ∃ y : Int32, y = y5 + 1 := ⟨_, rfl⟩
              have hf := o_bnd ez10 hf
              refine lv_iinc (v := z10) (lv' := [(5, .int z10), (4, .int y5), (2, .int z3), (6, .int z3), (3, .int y3), (1, .int y1), (0, .ref a_this)]) hx hb dX2_findGetter_93 hl (k := 3) rfl (by rw [ez10]; rfl) (by decide) rfl (fun ls hl => ?_)
              refine lv_goto (tgt := 16) hx hb dX2_findGetter_96 (by decide) ?_
              exact ih z10 y5 y3 z3 y1 w_v_getter _ hf _ _ ls hw (lv_sub hl [0, 1, 4, 2, 5, 6] rfl) kx
          · have hf := o_t h5 hf
            refine lv_iconst (v := (-1)) hx hb dX2_findGetter_63 (by decide) ?_
            refine lv_istore_n (lv' := [(3, .int (-1)), (6, .int z3), (5, .int y5), (4, .int y4), (2, .int y2), (1, .int y1), (0, .ref a_this)]) hx hb dX2_findGetter_64 rfl hl (by decide) rfl (fun ls hl => ?_)
            refine lv_goto (tgt := 93) hx hb dX2_findGetter_65 (by decide) ?_
            obtain ⟨z11, ez11⟩ : ∃ y : Int32, y = y5 + 1 := ⟨_, rfl⟩
            have hf := o_bnd ez11 hf
            refine lv_iinc (v := z11) (lv' := [(5, .int z11), (3, .int (-1)), (6, .int z3), (4, .int y4), (2, .int y2), (1, .int y1), (0, .ref a_this)]) hx hb dX2_findGetter_93 hl (k := 2) rfl (by rw [ez11]; rfl) (by decide) rfl (fun ls hl => ?_)
            refine lv_goto (tgt := 16) hx hb dX2_findGetter_96 (by decide) ?_
            exact ih z11 y4 (-1) y2 y1 w_v_getter _ hf _ _ ls hw (lv_sub hl [0, 3, 1, 4, 5, 6] rfl) kx
        · have hf := o_f h4 hf
          refine lv_iload_n hx hb dX2_findGetter_43 rfl (lv_at hl 5 rfl) ?_
          refine lv_istore_n (lv' := [(2, .int y1), (6, .int z3), (5, .int y5), (4, .int y4), (3, .int y3), (1, .int y1), (0, .ref a_this)]) hx hb dX2_findGetter_44 rfl hl (by decide) rfl (fun ls hl => ?_)
          refine lv_iload_n hx hb dX2_findGetter_45 rfl (lv_at hl 4 rfl) ?_
          refine lv_istore (lv' := [(4, .int y3), (2, .int y1), (6, .int z3), (5, .int y5), (3, .int y3), (1, .int y1), (0, .ref a_this)]) hx hb dX2_findGetter_46 hl (by decide) rfl (fun ls hl => ?_)
          refine lv_iload hx hb dX2_findGetter_48 (lv_at hl 2 rfl) ?_
          refine lv_istore_n (lv' := [(1, .int z3), (4, .int y3), (2, .int y1), (6, .int z3), (5, .int y5), (3, .int y3), (0, .ref a_this)]) hx hb dX2_findGetter_50 rfl hl (by decide) rfl (fun ls hl => ?_)
          refine lv_iload hx hb dX2_findGetter_51 (lv_at hl 4 rfl) ?_
          refine lv_istore_n (lv' := [(3, .int y5), (1, .int z3), (4, .int y3), (2, .int y1), (6, .int z3), (5, .int y5), (0, .ref a_this)]) hx hb dX2_findGetter_53 rfl hl (by decide) rfl (fun ls hl => ?_)
          refine lv_goto (tgt := 93) hx hb dX2_findGetter_54 (by decide) ?_
          obtain ⟨z12, ez12⟩ : ∃ y : Int32, y = y5 + 1 := ⟨_, rfl⟩
          have hf := o_bnd ez12 hf
          refine lv_iinc (v := z12) (lv' := [(5, .int z12), (3, .int y5), (1, .int z3), (4, .int y3), (2, .int y1), (6, .int z3), (0, .ref a_this)]) hx hb dX2_findGetter_93 hl (k := 5) rfl (by rw [ez12]; rfl) (by decide) rfl (fun ls hl => ?_)
          refine lv_goto (tgt := 16) hx hb dX2_findGetter_96 (by decide) ?_
          exact ih z12 y3 y5 y1 z3 w_v_getter _ hf _ _ ls hw (lv_sub hl [0, 3, 1, 4, 2, 6] rfl) kx
  unfold f_X2_findGetter at hf
  refine lv_sipush (v := 1000) hx hb dX2_findGetter_0 (by decide) ?_
  refine lv_istore_n (lv' := [(1, .int 1000), (0, .ref a_this)]) hx hb dX2_findGetter_3 rfl hl (by decide) rfl (fun ls hl => ?_)
  refine lv_sipush (v := 1000) hx hb dX2_findGetter_4 (by decide) ?_
  refine lv_istore_n (lv' := [(2, .int 1000), (1, .int 1000), (0, .ref a_this)]) hx hb dX2_findGetter_7 rfl hl (by decide) rfl (fun ls hl => ?_)
  refine lv_iconst (v := (-1)) hx hb dX2_findGetter_8 (by decide) ?_
  refine lv_istore_n (lv' := [(3, .int (-1)), (2, .int 1000), (1, .int 1000), (0, .ref a_this)]) hx hb dX2_findGetter_9 rfl hl (by decide) rfl (fun ls hl => ?_)
  refine lv_iconst (v := (-1)) hx hb dX2_findGetter_10 (by decide) ?_
  refine lv_istore (lv' := [(4, .int (-1)), (3, .int (-1)), (2, .int 1000), (1, .int 1000), (0, .ref a_this)]) hx hb dX2_findGetter_11 hl (by decide) rfl (fun ls hl => ?_)
  refine lv_iconst (v := 0) hx hb dX2_findGetter_13 (by decide) ?_
  refine lv_istore (lv' := [(5, .int 0), (4, .int (-1)), (3, .int (-1)), (2, .int 1000), (1, .int 1000), (0, .ref a_this)]) hx hb dX2_findGetter_14 hl (by decide) rfl (fun ls hl => ?_)
  obtain ⟨q13, hq13, hf⟩ := o_bind hf
  refine L16 _ 0 (-1) (-1) 1000 1000 v_getter _ hq13 _ _ ls hw (lv_sub hl [0, 1, 2, 3, 4, 5] rfl) (fun H locs ls hw hl => ?_)
  have hP := hw.1
  refine lv_aload_n hx hb dX2_findGetter_99 rfl (lv_at hl 5 rfl) ?_
  refine lv_iload_n hx hb dX2_findGetter_100 rfl (lv_at hl 2 rfl) ?_
  refine lv_iconst (v := (-1)) hx hb dX2_findGetter_101 (by decide) ?_
  refine lv_icmp_ne (tgt := 109) hx hb dX2_findGetter_102 (by decide) (fun h14 => ?_) (fun h14 => ?_)
  · have hf := o_f h14 hf
    refine lv_iload hx hb dX2_findGetter_109 (lv_at hl 1 rfl) ?_
    refine w_put (ci := 7) (ws' := [ob a_this 7 [.ref a_this_hall, .ref a_this_ends, .ref a_this_touchers, .ref a_this_stops, .ref a_this_silences, .int q13.2.1], ob a_this_hall 6 [.ref a_this_hall_seats, .int v_hall_size, .int v_hall_fall], ia g a_this_silences 5 v_silences]) F hK hw fb_X2 0 rfl rfl 5 (by decide) fl_X2_31 (fun _ h => h) rfl rfl rfl rfl (Nat.le_of_ble_eq_true rfl) rfl dX2_findGetter_111 (fun H locs hw => ?_)
    have hP := hw.1
    cases hf
    exact r_cv F hQ ⟨rfl, rfl⟩ hw dX2_findGetter_114
  · have hf := o_t h14 hf
    refine lv_iconst (v := (-1)) hx hb dX2_findGetter_105 (by decide) ?_
    refine lv_goto (tgt := 111) hx hb dX2_findGetter_106 (by decide) ?_
    refine w_put (ci := 7) (ws' := [ob a_this 7 [.ref a_this_hall, .ref a_this_ends, .ref a_this_touchers, .ref a_this_stops, .ref a_this_silences, .int (-1)], ob a_this_hall 6 [.ref a_this_hall_seats, .int v_hall_size, .int v_hall_fall], ia g a_this_silences 5 v_silences]) F hK hw fb_X2 0 rfl rfl 5 (by decide) fl_X2_31 (fun _ h => h) rfl rfl rfl rfl (Nat.le_of_ble_eq_true rfl) rfl dX2_findGetter_111 (fun H locs hw => ?_)
    have hP := hw.1
    cases hf
    exact r_cv F hQ ⟨rfl, rfl⟩ hw dX2_findGetter_114
