def f_X12_salesNow_28 (fuel : Nat) (x1 : Int32) (x2 : Int32) (x3 : Int32) (v_bidders : Int32) (v_fall : Int32) (v_kindOf : Nat → Int32) (v_sumOf : Nat → Int32) (v_touchedBy : Nat → Int32) (v_windOf : Nat → Int32) (y7 : Int32) (y6 : Int32) (y5 : Int32) (y4 : Int32) (w_v_choiceOf : Nat → Int32) (w_v_saved : Nat → Int32) (w_v_seedNow : Int64) (w_v_stopsAt : Nat → Int32) : Option (Int32 × Int32 × Int32 × Int32 × (Nat → Int32) × (Nat → Int32) × Int64 × (Nat → Int32)) := match fuel with
  | 0 => none
  | k + 1 => (if v_bidders ≤ y7 then (some (y7, y6, y5, y4, w_v_choiceOf, w_v_saved, w_v_seedNow, w_v_stopsAt)) else ((f_X12_draw 9 w_v_seedNow).bind fun q5 => (if y7 < 0 ∨ 5 ≤ Int32.toNatClampNeg y7 then none else (bnd (y7 + 1 : Int32) fun z7 => (f_X12_salesNow_28 k x1 x2 x3 v_bidders v_fall v_kindOf v_sumOf v_touchedBy v_windOf z7 y6 y5 y4 (upd w_v_choiceOf (Int32.toNatClampNeg y7) (1 + q5.1)) w_v_saved q5.2 w_v_stopsAt)))))
def f_X12_salesNow_19 (fuel : Nat) (x1 : Int32) (x2 : Int32) (x3 : Int32) (v_bidders : Int32) (v_fall : Int32) (v_kindOf : Nat → Int32) (v_sumOf : Nat → Int32) (v_touchedBy : Nat → Int32) (v_windOf : Nat → Int32) (y6 : Int32) (y5 : Int32) (y4 : Int32) (w_v_choiceOf : Nat → Int32) (w_v_saved : Nat → Int32) (w_v_seedNow : Int64) (w_v_stopsAt : Nat → Int32) : Option (Int32 × Int32 × Int32 × (Nat → Int32) × (Nat → Int32) × Int64 × (Nat → Int32)) := match fuel with
  | 0 => none
  | k + 1 => (if x1 ≤ y6 then (some (y6, y5, y4, w_v_choiceOf, w_v_saved, w_v_seedNow, w_v_stopsAt)) else ((f_X12_salesNow_28 4096 x1 x2 x3 v_bidders v_fall v_kindOf v_sumOf v_touchedBy v_windOf 0 y6 y5 y4 w_v_choiceOf w_v_saved w_v_seedNow w_v_stopsAt).bind fun q8 => ((f_X12_layStops v_bidders q8.2.2.2.2.1 v_kindOf q8.2.2.2.2.2.2.2 v_touchedBy v_windOf).bind fun q9 => ((f_X12_getter v_bidders v_kindOf q9).bind fun q10 => (if q10 = (-1) then (bnd (q8.2.2.2.1 + 0) fun z17 => (bnd (q8.2.2.1 + 0) fun z19 => (bnd (q8.2.1 + 1 : Int32) fun z20 => (f_X12_salesNow_19 k x1 x2 x3 v_bidders v_fall v_kindOf v_sumOf v_touchedBy v_windOf z20 z19 z17 q8.2.2.2.2.1 q8.2.2.2.2.2.1 q8.2.2.2.2.2.2.1 q9)))) else (bnd (q8.2.2.2.1 + 1) fun z12 => ((f_X12_priceOf q10 v_fall v_kindOf q9 v_sumOf).bind fun q14 => (bnd (q8.2.2.1 + q14) fun z15 => (bnd (q8.2.1 + 1 : Int32) fun z16 => (f_X12_salesNow_19 k x1 x2 x3 v_bidders v_fall v_kindOf v_sumOf v_touchedBy v_windOf z16 z15 z12 q8.2.2.2.2.1 q8.2.2.2.2.2.1 q8.2.2.2.2.2.2.1 q9))))))))))
def f_X12_salesNow (x1 : Int32) (x2 : Int32) (x3 : Int32) (v_bidders : Int32) (v_choiceOf : Nat → Int32) (v_fall : Int32) (v_kindOf : Nat → Int32) (v_saved : Nat → Int32) (v_seedNow : Int64) (v_stopsAt : Nat → Int32) (v_sumOf : Nat → Int32) (v_touchedBy : Nat → Int32) (v_windOf : Nat → Int32) : Option (Int32 × (Nat → Int32) × (Nat → Int32) × Int64 × (Nat → Int32)) := ((f_X12_save v_bidders v_choiceOf v_saved).bind fun q1 => (bnd (Int32.toInt64 x2) fun z2 => ((f_X12_salesNow_19 4096 x1 x2 x3 v_bidders v_fall v_kindOf v_sumOf v_touchedBy v_windOf 0 0 0 v_choiceOf q1 z2 v_stopsAt).bind fun q21 => ((f_X12_load v_bidders q21.2.2.2.1 q21.2.2.2.2.1).bind fun q22 => (if x3 = 0 then (some (q21.2.2.1, q22, q21.2.2.2.2.1, q21.2.2.2.2.2.1, q21.2.2.2.2.2.2)) else (if x3 = 1 then (some (q21.2.1, q22, q21.2.2.2.2.1, q21.2.2.2.2.2.1, q21.2.2.2.2.2.2)) else (some ((Int64.toInt32 q21.2.2.2.2.2.1), q22, q21.2.2.2.2.1, q21.2.2.2.2.2.1, q21.2.2.2.2.2.2))))))))
set_option maxRecDepth 100000 in
set_option maxHeartbeats 4000000 in
theorem c_X12_salesNow (l : Launch) (g : GG) (aM : Nat) (rM : Nat → Nat) (x1 : Int32) (x2 : Int32) (x3 : Int32) (v_halls : Int32) (v_bidders : Int32) (v_fall : Int32) (v_heard : Int32) (v_asks : Int32) (v_pageLength : Int32) (v_isWhole : Int32) (v_newMany : Int32) (v_seedNow : Int64) (v_isKept : Int32) (v_keptHall : Int32) (v_keptHeard : Int32) (v_h : Int64) (v_choiceOf : Nat → Int32) (v_kindOf : Nat → Int32) (v_saved : Nat → Int32) (v_stopsAt : Nat → Int32) (v_sumOf : Nat → Int32) (v_touchedBy : Nat → Int32) (v_windOf : Nat → Int32) {r0 : Int32} {r1 : Nat → Int32} {r2 : Nat → Int32} {r3 : Int64} {r4 : Nat → Int32} (hf : f_X12_salesNow x1 x2 x3 v_bidders v_choiceOf v_fall v_kindOf v_saved v_seedNow v_stopsAt v_sumOf v_touchedBy v_windOf = some (r0, r1, r2, r3, r4)) : MD l g yX12_salesNow cX12_salesNow 8 (some .int) 3 69 [.ref aM, .int x1, .int x2, .int x3] [ob aM 12 (oM rM v_halls v_bidders v_fall v_heard v_asks v_pageLength v_isWhole v_newMany v_seedNow v_isKept v_keptHall v_keptHeard v_h), ia g (rM 7) 5 v_choiceOf, ia g (rM 3) 5 v_kindOf, ia g (rM 18) 5 v_saved, ia g (rM 17) 5 v_stopsAt, ia g (rM 5) 5 v_sumOf, ia g (rM 8) 5 v_touchedBy, ia g (rM 4) 5 v_windOf] (some (.int r0)) [ob aM 12 (oM rM v_halls v_bidders v_fall v_heard v_asks v_pageLength v_isWhole v_newMany r3 v_isKept v_keptHall v_keptHeard v_h), ia g (rM 7) 5 r1, ia g (rM 3) 5 v_kindOf, ia g (rM 18) 5 r2, ia g (rM 17) 5 r4, ia g (rM 5) 5 v_sumOf, ia g (rM 8) 5 v_touchedBy, ia g (rM 4) 5 v_windOf] := by
  refine MC.mk (by decide) (Nat.le_of_ble_eq_true rfl) ?_
  intro p e s m args below meth c ls Q A F hnm hK hw hA hl hQ
  have hP := hw.1
  have hx := F.1
  have hb := F.2.1
  have hml := F.2.2.2.1
  have hown := F.2.2.2.2.1
  have hts := F.2.2.2.2.2.1
  have hl : lv_has ls 8 [(0, .ref aM), (1, .int x1), (2, .int x2), (3, .int x3)] := hl
  have L28 : ∀ (k : Nat) (y7 : Int32) (y6 : Int32) (y5 : Int32) (y4 : Int32) (w_v_choiceOf : Nat → Int32) (w_v_saved : Nat → Int32) (w_v_seedNow : Int64) (w_v_stopsAt : Nat → Int32) (q : Int32 × Int32 × Int32 × Int32 × (Nat → Int32) × (Nat → Int32) × Int64 × (Nat → Int32)), f_X12_salesNow_28 k x1 x2 x3 v_bidders v_fall v_kindOf v_sumOf v_touchedBy v_windOf y7 y6 y5 y4 w_v_choiceOf w_v_saved w_v_seedNow w_v_stopsAt = some q → ∀ (H : Heap) (locs : List Loc) (ls : Array Slot), WD g A s.heap [ob aM 12 (oM rM v_halls v_bidders v_fall v_heard v_asks v_pageLength v_isWhole v_newMany w_v_seedNow v_isKept v_keptHall v_keptHeard v_h), ia g (rM 7) 5 w_v_choiceOf, ia g (rM 3) 5 v_kindOf, ia g (rM 18) 5 w_v_saved, ia g (rM 17) 5 w_v_stopsAt, ia g (rM 5) 5 v_sumOf, ia g (rM 8) 5 v_touchedBy, ia g (rM 4) 5 v_windOf] H locs → lv_has ls 8 [(7, .int y7), (6, .int y6), (5, .int y5), (4, .int y4), (0, .ref aM), (1, .int x1), (3, .int x3)] → (∀ (H : Heap) (locs : List Loc) (ls : Array Slot), WD g A s.heap [ob aM 12 (oM rM v_halls v_bidders v_fall v_heard v_asks v_pageLength v_isWhole v_newMany q.2.2.2.2.2.2.1 v_isKept v_keptHall v_keptHeard v_h), ia g (rM 7) 5 q.2.2.2.2.1, ia g (rM 3) 5 v_kindOf, ia g (rM 18) 5 q.2.2.2.2.2.1, ia g (rM 17) 5 q.2.2.2.2.2.2.2, ia g (rM 5) 5 v_sumOf, ia g (rM 8) 5 v_touchedBy, ia g (rM 4) 5 v_windOf] H locs → lv_has ls 8 [(7, .int q.1), (6, .int q.2.1), (5, .int q.2.2.1), (4, .int q.2.2.2.1), (0, .ref aM), (1, .int x1), (3, .int x3)] → W p l e (rmc 3 0 0 69) s m args below meth c H locs 0 0 Q (F0 m 58 ls [])) → W p l e (rmc 3 0 0 69) s m args below meth c H locs 0 0 Q (F0 m 28 ls []) := by
    intro k
    induction k with
    | zero => intro y7 y6 y5 y4 w_v_choiceOf w_v_saved w_v_seedNow w_v_stopsAt q hf; rw [f_X12_salesNow_28] at hf; cases hf
    | succ k ih =>
      intro y7 y6 y5 y4 w_v_choiceOf w_v_saved w_v_seedNow w_v_stopsAt q hf H locs ls hw hl kx
      rw [f_X12_salesNow_28] at hf
      have hP := hw.1
      refine lv_iload hx hb dX12_salesNow_28 (lv_at hl 0 rfl) ?_
      refine lv_aload_n hx hb dX12_salesNow_30 rfl (lv_at hl 4 rfl) ?_
      refine w_get (ci := 12) F hK hP fb_X12 0 rfl rfl 1 (by decide) fl_X12_89 (fun _ h => h) rfl dX12_salesNow_31 ?_
      refine lv_icmp_ge (tgt := 58) hx hb dX12_salesNow_34 (by decide) (fun h4 => ?_) (fun h4 => ?_)
      · have hf := o_t h4 hf
        cases hf
        exact kx _ _ ls hw (lv_sub hl [0, 1, 2, 3, 4, 5, 6] rfl)
      · have hf := o_f h4 hf
        refine lv_aload_n hx hb dX12_salesNow_37 rfl (lv_at hl 4 rfl) ?_
        refine w_get (ci := 12) F hK hP fb_X12 0 rfl rfl 7 (by decide) fl_X12_22 (fun _ h => h) rfl dX12_salesNow_38 ?_
        refine lv_iload hx hb dX12_salesNow_41 (lv_at hl 0 rfl) ?_
        refine lv_iconst (v := 1) hx hb dX12_salesNow_43 (by decide) ?_
        refine lv_aload_n hx hb dX12_salesNow_44 rfl (lv_at hl 4 rfl) ?_
        refine lv_bipush (v := 9) hx hb dX12_salesNow_45 (by decide) ?_
        obtain ⟨q5, hq5, hf⟩ := o_bind hf
        refine k_dV (wr := [ia g (rM 7) 5 w_v_choiceOf, ia g (rM 3) 5 v_kindOf, ia g (rM 18) 5 w_v_saved, ia g (rM 17) 5 w_v_stopsAt, ia g (rM 5) 5 v_sumOf, ia g (rM 8) 5 v_touchedBy, ia g (rM 4) 5 v_windOf]) (ws' := [ob aM 12 (oM rM v_halls v_bidders v_fall v_heard v_asks v_pageLength v_isWhole v_newMany q5.2 v_isKept v_keptHall v_keptHeard v_h), ia g (rM 7) 5 w_v_choiceOf, ia g (rM 3) 5 v_kindOf, ia g (rM 18) 5 w_v_saved, ia g (rM 17) 5 w_v_stopsAt, ia g (rM 5) 5 v_sumOf, ia g (rM 8) 5 v_touchedBy, ia g (rM 4) 5 v_windOf]) F (c_X12_draw l g aM rM 9 v_halls v_bidders v_fall v_heard v_asks v_pageLength v_isWhole v_newMany w_v_seedNow v_isKept v_keptHall v_keptHeard v_h hq5) qv_X12_draw ml_X12_192 hw hA hK [0] [1, 2, 3, 4, 5, 6, 7] [7, 0, 1, 2, 3, 4, 5, 6] rfl rfl rfl rfl rfl (by decide) rfl rfl rfl (va_recv hK.1 hP (ci := 12) (q0 := 0) rfl rfl) rfl hl.1 rfl (Nat.le_of_ble_eq_true rfl) dX12_salesNow_47 ⟨(Nat.le_of_ble_eq_true rfl), (Nat.le_of_ble_eq_true rfl)⟩ ⟨(Nat.le_of_ble_eq_true rfl), (Nat.le_of_ble_eq_true rfl)⟩ (fun H locs hw => ?_)
        have hP := hw.1
        refine W.eq (g2 := F0 m 50 ls (.int q5.1 :: [.int 1, .int y7, .ref (rM 7)])) rfl ?_
        refine lv_iadd hx hb dX12_salesNow_50 ?_
        obtain ⟨h6, hf⟩ := o_chk hf
        refine w_iast (ws' := [ob aM 12 (oM rM v_halls v_bidders v_fall v_heard v_asks v_pageLength v_isWhole v_newMany q5.2 v_isKept v_keptHall v_keptHeard v_h), ia g (rM 7) 5 (upd w_v_choiceOf (Int32.toNatClampNeg y7) (1 + q5.1)), ia g (rM 3) 5 v_kindOf, ia g (rM 18) 5 w_v_saved, ia g (rM 17) 5 w_v_stopsAt, ia g (rM 5) 5 v_sumOf, ia g (rM 8) 5 v_touchedBy, ia g (rM 4) 5 v_windOf]) F hK hw 1 rfl h6 rfl dX12_salesNow_51 (fun H locs hw => ?_)
        have hP := hw.1
        obtain ⟨z7, ez7⟩ : ∃ y : Int32, y = y7 + 1 := ⟨_, rfl⟩
        have hf := o_bnd ez7 hf
        refine lv_iinc (v := z7) (lv' := [(7, .int z7), (6, .int y6), (5, .int y5), (4, .int y4), (0, .ref aM), (1, .int x1), (3, .int x3)]) hx hb dX12_salesNow_52 hl (k := 0) rfl (by rw [ez7]; rfl) (by decide) rfl (fun ls hl => ?_)
        refine lv_goto (tgt := 28) hx hb dX12_salesNow_55 (by decide) ?_
        exact ih z7 y6 y5 y4 (upd w_v_choiceOf (Int32.toNatClampNeg y7) (1 + q5.1)) w_v_saved q5.2 w_v_stopsAt _ hf _ _ ls hw (lv_sub hl [0, 1, 2, 3, 4, 5, 6] rfl) kx
  have L19 : ∀ (k : Nat) (y6 : Int32) (y5 : Int32) (y4 : Int32) (w_v_choiceOf : Nat → Int32) (w_v_saved : Nat → Int32) (w_v_seedNow : Int64) (w_v_stopsAt : Nat → Int32) (q : Int32 × Int32 × Int32 × (Nat → Int32) × (Nat → Int32) × Int64 × (Nat → Int32)), f_X12_salesNow_19 k x1 x2 x3 v_bidders v_fall v_kindOf v_sumOf v_touchedBy v_windOf y6 y5 y4 w_v_choiceOf w_v_saved w_v_seedNow w_v_stopsAt = some q → ∀ (H : Heap) (locs : List Loc) (ls : Array Slot), WD g A s.heap [ob aM 12 (oM rM v_halls v_bidders v_fall v_heard v_asks v_pageLength v_isWhole v_newMany w_v_seedNow v_isKept v_keptHall v_keptHeard v_h), ia g (rM 7) 5 w_v_choiceOf, ia g (rM 3) 5 v_kindOf, ia g (rM 18) 5 w_v_saved, ia g (rM 17) 5 w_v_stopsAt, ia g (rM 5) 5 v_sumOf, ia g (rM 8) 5 v_touchedBy, ia g (rM 4) 5 v_windOf] H locs → lv_has ls 8 [(6, .int y6), (5, .int y5), (4, .int y4), (0, .ref aM), (1, .int x1), (3, .int x3)] → (∀ (H : Heap) (locs : List Loc) (ls : Array Slot), WD g A s.heap [ob aM 12 (oM rM v_halls v_bidders v_fall v_heard v_asks v_pageLength v_isWhole v_newMany q.2.2.2.2.2.1 v_isKept v_keptHall v_keptHeard v_h), ia g (rM 7) 5 q.2.2.2.1, ia g (rM 3) 5 v_kindOf, ia g (rM 18) 5 q.2.2.2.2.1, ia g (rM 17) 5 q.2.2.2.2.2.2, ia g (rM 5) 5 v_sumOf, ia g (rM 8) 5 v_touchedBy, ia g (rM 4) 5 v_windOf] H locs → lv_has ls 8 [(6, .int q.1), (5, .int q.2.1), (4, .int q.2.2.1), (0, .ref aM), (1, .int x1), (3, .int x3)] → W p l e (rmc 3 0 0 69) s m args below meth c H locs 0 0 Q (F0 m 111 ls [])) → W p l e (rmc 3 0 0 69) s m args below meth c H locs 0 0 Q (F0 m 19 ls []) := by
    intro k
    induction k with
    | zero => intro y6 y5 y4 w_v_choiceOf w_v_saved w_v_seedNow w_v_stopsAt q hf; rw [f_X12_salesNow_19] at hf; cases hf
    | succ k ih =>
      intro y6 y5 y4 w_v_choiceOf w_v_saved w_v_seedNow w_v_stopsAt q hf H locs ls hw hl kx
      rw [f_X12_salesNow_19] at hf
      have hP := hw.1
      refine lv_iload hx hb dX12_salesNow_19 (lv_at hl 0 rfl) ?_
      refine lv_iload_n hx hb dX12_salesNow_21 rfl (lv_at hl 4 rfl) ?_
      refine lv_icmp_ge (tgt := 111) hx hb dX12_salesNow_22 (by decide) (fun h3 => ?_) (fun h3 => ?_)
      · have hf := o_t h3 hf
        cases hf
        exact kx _ _ ls hw (lv_sub hl [0, 1, 2, 3, 4, 5] rfl)
      · have hf := o_f h3 hf
        refine lv_iconst (v := 0) hx hb dX12_salesNow_25 (by decide) ?_
        refine lv_istore (lv' := [(7, .int 0), (6, .int y6), (5, .int y5), (4, .int y4), (0, .ref aM), (1, .int x1), (3, .int x3)]) hx hb dX12_salesNow_26 hl (by decide) rfl (fun ls hl => ?_)
        obtain ⟨q8, hq8, hf⟩ := o_bind hf
        refine L28 _ 0 y6 y5 y4 w_v_choiceOf w_v_saved w_v_seedNow w_v_stopsAt _ hq8 _ _ ls hw (lv_sub hl [0, 1, 2, 3, 4, 5, 6] rfl) (fun H locs ls hw hl => ?_)
        have hP := hw.1
        refine lv_aload_n hx hb dX12_salesNow_58 rfl (lv_at hl 4 rfl) ?_
        obtain ⟨q9, hq9, hf⟩ := o_bind hf
        refine k_dV (wr := [ia g (rM 18) 5 q8.2.2.2.2.2.1, ia g (rM 5) 5 v_sumOf]) (ws' := [ob aM 12 (oM rM v_halls v_bidders v_fall v_heard v_asks v_pageLength v_isWhole v_newMany q8.2.2.2.2.2.2.1 v_isKept v_keptHall v_keptHeard v_h), ia g (rM 7) 5 q8.2.2.2.2.1, ia g (rM 3) 5 v_kindOf, ia g (rM 18) 5 q8.2.2.2.2.2.1, ia g (rM 17) 5 q9, ia g (rM 5) 5 v_sumOf, ia g (rM 8) 5 v_touchedBy, ia g (rM 4) 5 v_windOf]) F (c_X12_layStops l g aM rM v_halls v_bidders v_fall v_heard v_asks v_pageLength v_isWhole v_newMany q8.2.2.2.2.2.2.1 v_isKept v_keptHall v_keptHeard v_h q8.2.2.2.2.1 v_kindOf q8.2.2.2.2.2.2.2 v_touchedBy v_windOf hq9) qv_X12_layStops ml_X12_123 hw hA hK [0, 1, 2, 4, 6, 7] [3, 5] [2, 3, 4, 0, 5, 1, 6, 7] rfl rfl rfl rfl rfl (by decide) rfl rfl rfl (va_recv hK.1 hP (ci := 12) (q0 := 0) rfl rfl) rfl hl.1 rfl (Nat.le_of_ble_eq_true rfl) dX12_salesNow_59 ⟨(Nat.le_of_ble_eq_true rfl), (Nat.le_of_ble_eq_true rfl)⟩ ⟨(Nat.le_of_ble_eq_true rfl), (Nat.le_of_ble_eq_true rfl)⟩ (fun H locs hw => ?_)
        have hP := hw.1
        refine W.eq (g2 := F0 m 62 ls ([])) rfl ?_
        refine lv_aload_n hx hb dX12_salesNow_62 rfl (lv_at hl 4 rfl) ?_
        obtain ⟨q10, hq10, hf⟩ := o_bind hf
        refine k_rV F (c_X12_getter l g aM rM v_halls v_bidders v_fall v_heard v_asks v_pageLength v_isWhole v_newMany q8.2.2.2.2.2.2.1 v_isKept v_keptHall v_keptHeard v_h v_kindOf q9 hq10) qv_X12_getter ml_X12_117 (hP.sub [0, 2, 4] rfl) hK (va_recv hK.1 hP (ci := 12) (q0 := 0) rfl rfl) rfl hl.1 rfl (Nat.le_of_ble_eq_true rfl) dX12_salesNow_63 ⟨(Nat.le_of_ble_eq_true rfl), (Nat.le_of_ble_eq_true rfl)⟩ ⟨(Nat.le_of_ble_eq_true rfl), (Nat.le_of_ble_eq_true rfl)⟩ ?_
        refine W.eq (g2 := F0 m 66 ls (.int q10 :: [])) rfl ?_
        refine lv_istore (lv' := [(7, .int q10), (6, .int q8.2.1), (5, .int q8.2.2.1), (4, .int q8.2.2.2.1), (0, .ref aM), (1, .int x1), (3, .int x3)]) hx hb dX12_salesNow_66 hl (by decide) rfl (fun ls hl => ?_)
        refine lv_iload hx hb dX12_salesNow_68 (lv_at hl 3 rfl) ?_
        refine lv_iload hx hb dX12_salesNow_70 (lv_at hl 0 rfl) ?_
        refine lv_iconst (v := (-1)) hx hb dX12_salesNow_72 (by decide) ?_
        refine lv_icmp_ne (tgt := 80) hx hb dX12_salesNow_73 (by decide) (fun h11 => ?_) (fun h11 => ?_)
        · have hf := o_f h11 hf
          refine lv_iconst (v := 1) hx hb dX12_salesNow_80 (by decide) ?_
          refine lv_iadd hx hb dX12_salesNow_81 ?_
          refine lv_topi (fun z12 ez12 => ?_)
          have hf := o_bnd ez12 hf
          refine lv_istore (lv' := [(4, .int z12), (7, .int q10), (6, .int q8.2.1), (5, .int q8.2.2.1), (0, .ref aM), (1, .int x1), (3, .int x3)]) hx hb dX12_salesNow_82 hl (by decide) rfl (fun ls hl => ?_)
          refine lv_iload hx hb dX12_salesNow_84 (lv_at hl 3 rfl) ?_
          refine lv_iload hx hb dX12_salesNow_86 (lv_at hl 1 rfl) ?_
          refine lv_iconst (v := (-1)) hx hb dX12_salesNow_88 (by decide) ?_
          refine lv_icmp_ne (tgt := 96) hx hb dX12_salesNow_89 (by decide) (fun _ => ?_) (fun h => absurd h h11)
          refine lv_aload_n hx hb dX12_salesNow_96 rfl (lv_at hl 4 rfl) ?_
          refine lv_iload hx hb dX12_salesNow_97 (lv_at hl 1 rfl) ?_
          obtain ⟨q14, hq14, hf⟩ := o_bind hf
          refine k_rV F (c_X12_priceOf l g aM rM q10 v_halls v_bidders v_fall v_heard v_asks v_pageLength v_isWhole v_newMany q8.2.2.2.2.2.2.1 v_isKept v_keptHall v_keptHeard v_h v_kindOf q9 v_sumOf hq14) qv_X12_priceOf ml_X12_120 (hP.sub [0, 2, 4, 5] rfl) hK (va_recv hK.1 hP (ci := 12) (q0 := 0) rfl rfl) rfl hl.1 rfl (Nat.le_of_ble_eq_true rfl) dX12_salesNow_99 ⟨(Nat.le_of_ble_eq_true rfl), (Nat.le_of_ble_eq_true rfl)⟩ ⟨(Nat.le_of_ble_eq_true rfl), (Nat.le_of_ble_eq_true rfl)⟩ ?_
          refine W.eq (g2 := F0 m 102 ls (.int q14 :: [.int q8.2.2.1])) rfl ?_
          refine lv_iadd hx hb dX12_salesNow_102 ?_
          refine lv_topi (fun z15 ez15 => ?_)
          have hf := o_bnd ez15 hf
          refine lv_istore (lv' := [(5, .int z15), (4, .int z12), (7, .int q10), (6, .int q8.2.1), (0, .ref aM), (1, .int x1), (3, .int x3)]) hx hb dX12_salesNow_103 hl (by decide) rfl (fun ls hl => ?_)
          obtain ⟨z16, ez16⟩ : ∃ y : Int32, y = q8.2.1 + 1 := ⟨_, rfl⟩
          have hf := o_bnd ez16 hf
          refine lv_iinc (v := z16) (lv' := [(6, .int z16), (5, .int z15), (4, .int z12), (7, .int q10), (0, .ref aM), (1, .int x1), (3, .int x3)]) hx hb dX12_salesNow_105 hl (k := 3) rfl (by rw [ez16]; rfl) (by decide) rfl (fun ls hl => ?_)
          refine lv_goto (tgt := 19) hx hb dX12_salesNow_108 (by decide) ?_
          exact ih z16 z15 z12 q8.2.2.2.2.1 q8.2.2.2.2.2.1 q8.2.2.2.2.2.2.1 q9 _ hf _ _ ls hw (lv_sub hl [0, 1, 2, 4, 5, 6] rfl) kx
        · have hf := o_t h11 hf
          refine lv_iconst (v := 0) hx hb dX12_salesNow_76 (by decide) ?_
          refine lv_goto (tgt := 81) hx hb dX12_salesNow_77 (by decide) ?_
          refine lv_iadd hx hb dX12_salesNow_81 ?_
          refine lv_topi (fun z17 ez17 => ?_)
          have hf := o_bnd ez17 hf
          refine lv_istore (lv' := [(4, .int z17), (7, .int q10), (6, .int q8.2.1), (5, .int q8.2.2.1), (0, .ref aM), (1, .int x1), (3, .int x3)]) hx hb dX12_salesNow_82 hl (by decide) rfl (fun ls hl => ?_)
          refine lv_iload hx hb dX12_salesNow_84 (lv_at hl 3 rfl) ?_
          refine lv_iload hx hb dX12_salesNow_86 (lv_at hl 1 rfl) ?_
          refine lv_iconst (v := (-1)) hx hb dX12_salesNow_88 (by decide) ?_
          refine lv_icmp_ne (tgt := 96) hx hb dX12_salesNow_89 (by decide) (fun h => absurd h11 h) (fun _ => ?_)
          refine lv_iconst (v := 0) hx hb dX12_salesNow_92 (by decide) ?_
          refine lv_goto (tgt := 102) hx hb dX12_salesNow_93 (by decide) ?_
          refine lv_iadd hx hb dX12_salesNow_102 ?_
          refine lv_topi (fun z19 ez19 => ?_)
          have hf := o_bnd ez19 hf
          refine lv_istore (lv' := [(5, .int z19), (4, .int z17), (7, .int q10), (6, .int q8.2.1), (0, .ref aM), (1, .int x1), (3, .int x3)]) hx hb dX12_salesNow_103 hl (by decide) rfl (fun ls hl => ?_)
          obtain ⟨z20, ez20⟩ : ∃ y : Int32, y = q8.2.1 + 1 := ⟨_, rfl⟩
          have hf := o_bnd ez20 hf
          refine lv_iinc (v := z20) (lv' := [(6, .int z20), (5, .int z19), (4, .int z17), (7, .int q10), (0, .ref aM), (1, .int x1), (3, .int x3)]) hx hb dX12_salesNow_105 hl (k := 3) rfl (by rw [ez20]; rfl) (by decide) rfl (fun ls hl => ?_)
          refine lv_goto (tgt := 19) hx hb dX12_salesNow_108 (by decide) ?_
          exact ih z20 z19 z17 q8.2.2.2.2.1 q8.2.2.2.2.2.1 q8.2.2.2.2.2.2.1 q9 _ hf _ _ ls hw (lv_sub hl [0, 1, 2, 4, 5, 6] rfl) kx
  unfold f_X12_salesNow at hf
  refine lv_aload_n hx hb dX12_salesNow_0 rfl (lv_at hl 0 rfl) ?_
  obtain ⟨q1, hq1, hf⟩ := o_bind hf
  refine k_dV (wr := [ia g (rM 3) 5 v_kindOf, ia g (rM 17) 5 v_stopsAt, ia g (rM 5) 5 v_sumOf, ia g (rM 8) 5 v_touchedBy, ia g (rM 4) 5 v_windOf]) (ws' := [ob aM 12 (oM rM v_halls v_bidders v_fall v_heard v_asks v_pageLength v_isWhole v_newMany v_seedNow v_isKept v_keptHall v_keptHeard v_h), ia g (rM 7) 5 v_choiceOf, ia g (rM 3) 5 v_kindOf, ia g (rM 18) 5 q1, ia g (rM 17) 5 v_stopsAt, ia g (rM 5) 5 v_sumOf, ia g (rM 8) 5 v_touchedBy, ia g (rM 4) 5 v_windOf]) F (c_X12_save l g aM rM v_halls v_bidders v_fall v_heard v_asks v_pageLength v_isWhole v_newMany v_seedNow v_isKept v_keptHall v_keptHeard v_h v_choiceOf v_saved hq1) qv_X12_save ml_X12_149 hw hA hK [0, 1, 3] [2, 4, 5, 6, 7] [5, 6, 0, 7, 1, 2, 3, 4] rfl rfl rfl rfl rfl (by decide) rfl rfl rfl (va_recv hK.1 hP (ci := 12) (q0 := 0) rfl rfl) rfl hl.1 rfl (Nat.le_of_ble_eq_true rfl) dX12_salesNow_1 ⟨(Nat.le_of_ble_eq_true rfl), (Nat.le_of_ble_eq_true rfl)⟩ ⟨(Nat.le_of_ble_eq_true rfl), (Nat.le_of_ble_eq_true rfl)⟩ (fun H locs hw => ?_)
  have hP := hw.1
  refine W.eq (g2 := F0 m 4 ls ([])) rfl ?_
  refine lv_aload_n hx hb dX12_salesNow_4 rfl (lv_at hl 0 rfl) ?_
  refine lv_iload_n hx hb dX12_salesNow_5 rfl (lv_at hl 2 rfl) ?_
  refine lv_i2l hx hb dX12_salesNow_6 rfl ?_
  refine lv_topl (fun z2 ez2 => ?_)
  have hf := o_bnd ez2 hf
  refine w_put (ci := 12) (ws' := [ob aM 12 (oM rM v_halls v_bidders v_fall v_heard v_asks v_pageLength v_isWhole v_newMany z2 v_isKept v_keptHall v_keptHeard v_h), ia g (rM 7) 5 v_choiceOf, ia g (rM 3) 5 v_kindOf, ia g (rM 18) 5 q1, ia g (rM 17) 5 v_stopsAt, ia g (rM 5) 5 v_sumOf, ia g (rM 8) 5 v_touchedBy, ia g (rM 4) 5 v_windOf]) F hK hw fb_X12 0 rfl rfl 19 (by decide) fl_X12_182 (fun _ h => h) rfl rfl rfl rfl (Nat.le_of_ble_eq_true rfl) rfl dX12_salesNow_7 (fun H locs hw => ?_)
  have hP := hw.1
  refine lv_iconst (v := 0) hx hb dX12_salesNow_10 (by decide) ?_
  refine lv_istore (lv' := [(4, .int 0), (0, .ref aM), (1, .int x1), (2, .int x2), (3, .int x3)]) hx hb dX12_salesNow_11 hl (by decide) rfl (fun ls hl => ?_)
  refine lv_iconst (v := 0) hx hb dX12_salesNow_13 (by decide) ?_
  refine lv_istore (lv' := [(5, .int 0), (4, .int 0), (0, .ref aM), (1, .int x1), (2, .int x2), (3, .int x3)]) hx hb dX12_salesNow_14 hl (by decide) rfl (fun ls hl => ?_)
  refine lv_iconst (v := 0) hx hb dX12_salesNow_16 (by decide) ?_
  refine lv_istore (lv' := [(6, .int 0), (5, .int 0), (4, .int 0), (0, .ref aM), (1, .int x1), (2, .int x2), (3, .int x3)]) hx hb dX12_salesNow_17 hl (by decide) rfl (fun ls hl => ?_)
  obtain ⟨q21, hq21, hf⟩ := o_bind hf
  refine L19 _ 0 0 0 v_choiceOf q1 z2 v_stopsAt _ hq21 _ _ ls hw (lv_sub hl [0, 1, 2, 3, 4, 6] rfl) (fun H locs ls hw hl => ?_)
  have hP := hw.1
  refine lv_aload_n hx hb dX12_salesNow_111 rfl (lv_at hl 3 rfl) ?_
  obtain ⟨q22, hq22, hf⟩ := o_bind hf
  refine k_dV (wr := [ia g (rM 3) 5 v_kindOf, ia g (rM 17) 5 q21.2.2.2.2.2.2, ia g (rM 5) 5 v_sumOf, ia g (rM 8) 5 v_touchedBy, ia g (rM 4) 5 v_windOf]) (ws' := [ob aM 12 (oM rM v_halls v_bidders v_fall v_heard v_asks v_pageLength v_isWhole v_newMany q21.2.2.2.2.2.1 v_isKept v_keptHall v_keptHeard v_h), ia g (rM 7) 5 q22, ia g (rM 3) 5 v_kindOf, ia g (rM 18) 5 q21.2.2.2.2.1, ia g (rM 17) 5 q21.2.2.2.2.2.2, ia g (rM 5) 5 v_sumOf, ia g (rM 8) 5 v_touchedBy, ia g (rM 4) 5 v_windOf]) F (c_X12_load l g aM rM v_halls v_bidders v_fall v_heard v_asks v_pageLength v_isWhole v_newMany q21.2.2.2.2.2.1 v_isKept v_keptHall v_keptHeard v_h q21.2.2.2.1 q21.2.2.2.2.1 hq22) qv_X12_load ml_X12_159 hw hA hK [0, 1, 3] [2, 4, 5, 6, 7] [5, 6, 0, 7, 1, 2, 3, 4] rfl rfl rfl rfl rfl (by decide) rfl rfl rfl (va_recv hK.1 hP (ci := 12) (q0 := 0) rfl rfl) rfl hl.1 rfl (Nat.le_of_ble_eq_true rfl) dX12_salesNow_112 ⟨(Nat.le_of_ble_eq_true rfl), (Nat.le_of_ble_eq_true rfl)⟩ ⟨(Nat.le_of_ble_eq_true rfl), (Nat.le_of_ble_eq_true rfl)⟩ (fun H locs hw => ?_)
  have hP := hw.1
  refine W.eq (g2 := F0 m 115 ls ([])) rfl ?_
  refine lv_iload_n hx hb dX12_salesNow_115 rfl (lv_at hl 5 rfl) ?_
  refine lv_if_ne (tgt := 124) hx hb dX12_salesNow_116 (by decide) (fun h23 => ?_) (fun h23 => ?_)
  · have hf := o_f h23 hf
    refine lv_iload_n hx hb dX12_salesNow_124 rfl (lv_at hl 5 rfl) ?_
    refine lv_iconst (v := 1) hx hb dX12_salesNow_125 (by decide) ?_
    refine lv_icmp_ne (tgt := 134) hx hb dX12_salesNow_126 (by decide) (fun h24 => ?_) (fun h24 => ?_)
    · have hf := o_f h24 hf
      refine lv_aload_n hx hb dX12_salesNow_134 rfl (lv_at hl 3 rfl) ?_
      refine w_get (ci := 12) F hK hP fb_X12 0 rfl rfl 19 (by decide) fl_X12_182 (fun _ h => h) rfl dX12_salesNow_135 ?_
      refine lv_l2i hx hb dX12_salesNow_138 rfl ?_
      cases hf
      exact r_ci F hQ ⟨rfl, rfl⟩ hw dX12_salesNow_139
    · have hf := o_t h24 hf
      refine lv_iload hx hb dX12_salesNow_129 (lv_at hl 1 rfl) ?_
      refine lv_goto (tgt := 139) hx hb dX12_salesNow_131 (by decide) ?_
      cases hf
      exact r_ci F hQ ⟨rfl, rfl⟩ hw dX12_salesNow_139
  · have hf := o_t h23 hf
    refine lv_iload hx hb dX12_salesNow_119 (lv_at hl 2 rfl) ?_
    refine lv_goto (tgt := 139) hx hb dX12_salesNow_121 (by decide) ?_
    cases hf
    exact r_ci F hQ ⟨rfl, rfl⟩ hw dX12_salesNow_139
def f_X12_sales (x1 : Int32) (x2 : Int32) (x3 : Int32) (v_bidders : Int32) (v_choiceOf : Nat → Int32) (v_fall : Int32) (v_kindOf : Nat → Int32) (v_saved : Nat → Int32) (v_seedNow : Int64) (v_stopsAt : Nat → Int32) (v_sumOf : Nat → Int32) (v_touchedBy : Nat → Int32) (v_windOf : Nat → Int32) : Option (Int32 × (Nat → Int32) × (Nat → Int32) × Int64 × (Nat → Int32)) := ((f_X12_within x1 1 60).bind fun q1 => (if q1 = 0 then (some ((-102), v_choiceOf, v_saved, v_seedNow, v_stopsAt)) else (if x2 < 0 then (some ((-102), v_choiceOf, v_saved, v_seedNow, v_stopsAt)) else ((f_X12_within x3 0 2).bind fun q4 => (if q4 = 0 then (some ((-102), v_choiceOf, v_saved, v_seedNow, v_stopsAt)) else (if v_bidders = 0 then (some ((-103), v_choiceOf, v_saved, v_seedNow, v_stopsAt)) else ((f_X12_salesNow x1 x2 x3 v_bidders v_choiceOf v_fall v_kindOf v_saved v_seedNow v_stopsAt v_sumOf v_touchedBy v_windOf).bind fun q7 => (some (q7.1, q7.2.1, q7.2.2.1, q7.2.2.2.1, q7.2.2.2.2)))))))))
set_option maxRecDepth 100000 in
set_option maxHeartbeats 4000000 in
theorem c_X12_sales (l : Launch) (g : GG) (aM : Nat) (rM : Nat → Nat) (x1 : Int32) (x2 : Int32) (x3 : Int32) (v_halls : Int32) (v_bidders : Int32) (v_fall : Int32) (v_heard : Int32) (v_asks : Int32) (v_pageLength : Int32) (v_isWhole : Int32) (v_newMany : Int32) (v_seedNow : Int64) (v_isKept : Int32) (v_keptHall : Int32) (v_keptHeard : Int32) (v_h : Int64) (v_choiceOf : Nat → Int32) (v_kindOf : Nat → Int32) (v_saved : Nat → Int32) (v_stopsAt : Nat → Int32) (v_sumOf : Nat → Int32) (v_touchedBy : Nat → Int32) (v_windOf : Nat → Int32) {r0 : Int32} {r1 : Nat → Int32} {r2 : Nat → Int32} {r3 : Int64} {r4 : Nat → Int32} (hf : f_X12_sales x1 x2 x3 v_bidders v_choiceOf v_fall v_kindOf v_saved v_seedNow v_stopsAt v_sumOf v_touchedBy v_windOf = some (r0, r1, r2, r3, r4)) : MD l g yX12_sales cX12_sales 4 (some .int) 4 96 [.ref aM, .int x1, .int x2, .int x3] [ob aM 12 (oM rM v_halls v_bidders v_fall v_heard v_asks v_pageLength v_isWhole v_newMany v_seedNow v_isKept v_keptHall v_keptHeard v_h), ia g (rM 7) 5 v_choiceOf, ia g (rM 3) 5 v_kindOf, ia g (rM 18) 5 v_saved, ia g (rM 17) 5 v_stopsAt, ia g (rM 5) 5 v_sumOf, ia g (rM 8) 5 v_touchedBy, ia g (rM 4) 5 v_windOf] (some (.int r0)) [ob aM 12 (oM rM v_halls v_bidders v_fall v_heard v_asks v_pageLength v_isWhole v_newMany r3 v_isKept v_keptHall v_keptHeard v_h), ia g (rM 7) 5 r1, ia g (rM 3) 5 v_kindOf, ia g (rM 18) 5 r2, ia g (rM 17) 5 r4, ia g (rM 5) 5 v_sumOf, ia g (rM 8) 5 v_touchedBy, ia g (rM 4) 5 v_windOf] := by
  refine MC.mk (by decide) (Nat.le_of_ble_eq_true rfl) ?_
  intro p e s m args below meth c ls Q A F hnm hK hw hA hl hQ
  have hP := hw.1
  have hx := F.1
  have hb := F.2.1
  have hml := F.2.2.2.1
  have hown := F.2.2.2.2.1
  have hts := F.2.2.2.2.2.1
  have hl : lv_has ls 4 [(0, .ref aM), (1, .int x1), (2, .int x2), (3, .int x3)] := hl
  unfold f_X12_sales at hf
  refine lv_iload_n hx hb dX12_sales_0 rfl (lv_at hl 1 rfl) ?_
  refine lv_iconst (v := 1) hx hb dX12_sales_1 (by decide) ?_
  refine lv_bipush (v := 60) hx hb dX12_sales_2 (by decide) ?_
  obtain ⟨q1, hq1, hf⟩ := o_bind hf
  refine k_rS F (c_X12_within l g x1 1 60 hq1) qs_X12_within ml_X12_59 (hP.sub [] rfl) hK rfl hl.1 rfl (Nat.le_of_ble_eq_true rfl) dX12_sales_4 ⟨(Nat.le_of_ble_eq_true rfl), (Nat.le_of_ble_eq_true rfl)⟩ ⟨(Nat.le_of_ble_eq_true rfl), (Nat.le_of_ble_eq_true rfl)⟩ ?_
  refine W.eq (g2 := F0 m 7 ls (.int q1 :: [])) rfl ?_
  refine lv_if_eq (tgt := 23) hx hb dX12_sales_7 (by decide) (fun h2 => ?_) (fun h2 => ?_)
  · have hf := o_t h2 hf
    refine lv_bipush (v := (-102)) hx hb dX12_sales_23 (by decide) ?_
    cases hf
    exact r_ci F hQ ⟨rfl, rfl⟩ hw dX12_sales_25
  · have hf := o_f h2 hf
    refine lv_iload_n hx hb dX12_sales_10 rfl (lv_at hl 2 rfl) ?_
    refine lv_if_lt (tgt := 23) hx hb dX12_sales_11 (by decide) (fun h3 => ?_) (fun h3 => ?_)
    · have hf := o_t h3 hf
      refine lv_bipush (v := (-102)) hx hb dX12_sales_23 (by decide) ?_
      cases hf
      exact r_ci F hQ ⟨rfl, rfl⟩ hw dX12_sales_25
    · have hf := o_f h3 hf
      refine lv_iload_n hx hb dX12_sales_14 rfl (lv_at hl 3 rfl) ?_
      refine lv_iconst (v := 0) hx hb dX12_sales_15 (by decide) ?_
      refine lv_iconst (v := 2) hx hb dX12_sales_16 (by decide) ?_
      obtain ⟨q4, hq4, hf⟩ := o_bind hf
      refine k_rS F (c_X12_within l g x3 0 2 hq4) qs_X12_within ml_X12_59 (hP.sub [] rfl) hK rfl hl.1 rfl (Nat.le_of_ble_eq_true rfl) dX12_sales_17 ⟨(Nat.le_of_ble_eq_true rfl), (Nat.le_of_ble_eq_true rfl)⟩ ⟨(Nat.le_of_ble_eq_true rfl), (Nat.le_of_ble_eq_true rfl)⟩ ?_
      refine W.eq (g2 := F0 m 20 ls (.int q4 :: [])) rfl ?_
      refine lv_if_ne (tgt := 26) hx hb dX12_sales_20 (by decide) (fun h5 => ?_) (fun h5 => ?_)
      · have hf := o_f h5 hf
        refine lv_aload_n hx hb dX12_sales_26 rfl (lv_at hl 0 rfl) ?_
        refine w_get (ci := 12) F hK hP fb_X12 0 rfl rfl 1 (by decide) fl_X12_89 (fun _ h => h) rfl dX12_sales_27 ?_
        refine lv_if_ne (tgt := 38) hx hb dX12_sales_30 (by decide) (fun h6 => ?_) (fun h6 => ?_)
        · have hf := o_f h6 hf
          refine lv_aload_n hx hb dX12_sales_38 rfl (lv_at hl 0 rfl) ?_
          refine lv_iload_n hx hb dX12_sales_39 rfl (lv_at hl 1 rfl) ?_
          refine lv_iload_n hx hb dX12_sales_40 rfl (lv_at hl 2 rfl) ?_
          refine lv_iload_n hx hb dX12_sales_41 rfl (lv_at hl 3 rfl) ?_
          obtain ⟨q7, hq7, hf⟩ := o_bind hf
          refine k_dV (wr := []) (ws' := [ob aM 12 (oM rM v_halls v_bidders v_fall v_heard v_asks v_pageLength v_isWhole v_newMany q7.2.2.2.1 v_isKept v_keptHall v_keptHeard v_h), ia g (rM 7) 5 q7.2.1, ia g (rM 3) 5 v_kindOf, ia g (rM 18) 5 q7.2.2.1, ia g (rM 17) 5 q7.2.2.2.2, ia g (rM 5) 5 v_sumOf, ia g (rM 8) 5 v_touchedBy, ia g (rM 4) 5 v_windOf]) F (c_X12_salesNow l g aM rM x1 x2 x3 v_halls v_bidders v_fall v_heard v_asks v_pageLength v_isWhole v_newMany v_seedNow v_isKept v_keptHall v_keptHeard v_h v_choiceOf v_kindOf v_saved v_stopsAt v_sumOf v_touchedBy v_windOf hq7) qv_X12_salesNow ml_X12_195 hw hA hK [0, 1, 2, 3, 4, 5, 6, 7] [] [0, 1, 2, 3, 4, 5, 6, 7] rfl rfl rfl rfl rfl (by decide) rfl rfl rfl (va_recv hK.1 hP (ci := 12) (q0 := 0) rfl rfl) rfl hl.1 rfl (Nat.le_of_ble_eq_true rfl) dX12_sales_42 ⟨(Nat.le_of_ble_eq_true rfl), (Nat.le_of_ble_eq_true rfl)⟩ ⟨(Nat.le_of_ble_eq_true rfl), (Nat.le_of_ble_eq_true rfl)⟩ (fun H locs hw => ?_)
          have hP := hw.1
          refine W.eq (g2 := F0 m 45 ls (.int q7.1 :: [])) rfl ?_
          cases hf
          exact r_ci F hQ ⟨rfl, rfl⟩ hw dX12_sales_45
        · have hf := o_t h6 hf
          refine lv_bipush (v := (-103)) hx hb dX12_sales_33 (by decide) ?_
          refine lv_goto (tgt := 45) hx hb dX12_sales_35 (by decide) ?_
          cases hf
          exact r_ci F hQ ⟨rfl, rfl⟩ hw dX12_sales_45
      · have hf := o_t h5 hf
        refine lv_bipush (v := (-102)) hx hb dX12_sales_23 (by decide) ?_
        cases hf
        exact r_ci F hQ ⟨rfl, rfl⟩ hw dX12_sales_25
def f_X12_image_33 (fuel : Nat) (v_bidders : Int32) (v_choiceOf : Nat → Int32) (v_halls : Int32) (v_heard : Int32) (v_heardBidder : Nat → Int32) (v_heardBreath : Nat → Int32) (v_touchedBy : Nat → Int32) (v_windOf : Nat → Int32) (y1 : Int32) (w_v_isKept : Int32) (w_v_keptBidder : Nat → Int32) (w_v_keptBreath : Nat → Int32) (w_v_keptChoice : Nat → Int32) (w_v_keptHall : Int32) (w_v_keptHeard : Int32) (w_v_keptTouched : Nat → Int32) (w_v_keptWind : Nat → Int32) : Option (Int32 × Int32 × (Nat → Int32) × (Nat → Int32) × (Nat → Int32) × Int32 × Int32 × (Nat → Int32) × (Nat → Int32)) := match fuel with
  | 0 => none
  | k + 1 => (if 5 ≤ y1 then (some (y1, w_v_isKept, w_v_keptBidder, w_v_keptBreath, w_v_keptChoice, w_v_keptHall, w_v_keptHeard, w_v_keptTouched, w_v_keptWind)) else (if y1 < 0 ∨ 5 ≤ Int32.toNatClampNeg y1 then none else (bnd (y1 + 1 : Int32) fun z4 => (f_X12_image_33 k v_bidders v_choiceOf v_halls v_heard v_heardBidder v_heardBreath v_touchedBy v_windOf z4 w_v_isKept w_v_keptBidder w_v_keptBreath (upd w_v_keptChoice (Int32.toNatClampNeg y1) (v_choiceOf (Int32.toNatClampNeg y1))) w_v_keptHall w_v_keptHeard (upd w_v_keptTouched (Int32.toNatClampNeg y1) (v_touchedBy (Int32.toNatClampNeg y1))) (upd w_v_keptWind (Int32.toNatClampNeg y1) (v_windOf (Int32.toNatClampNeg y1)))))))
def f_X12_image_82 (fuel : Nat) (v_bidders : Int32) (v_choiceOf : Nat → Int32) (v_halls : Int32) (v_heard : Int32) (v_heardBidder : Nat → Int32) (v_heardBreath : Nat → Int32) (v_touchedBy : Nat → Int32) (v_windOf : Nat → Int32) (y1 : Int32) (w_v_isKept : Int32) (w_v_keptBidder : Nat → Int32) (w_v_keptBreath : Nat → Int32) (w_v_keptChoice : Nat → Int32) (w_v_keptHall : Int32) (w_v_keptHeard : Int32) (w_v_keptTouched : Nat → Int32) (w_v_keptWind : Nat → Int32) : Option (Int32 × Int32 × (Nat → Int32) × (Nat → Int32) × (Nat → Int32) × Int32 × Int32 × (Nat → Int32) × (Nat → Int32)) := match fuel with
  | 0 => none
  | k + 1 => (if 8 ≤ y1 then (some (y1, w_v_isKept, w_v_keptBidder, w_v_keptBreath, w_v_keptChoice, w_v_keptHall, w_v_keptHeard, w_v_keptTouched, w_v_keptWind)) else (if y1 < 0 ∨ 8 ≤ Int32.toNatClampNeg y1 then none else (bnd (y1 + 1 : Int32) fun z8 => (f_X12_image_82 k v_bidders v_choiceOf v_halls v_heard v_heardBidder v_heardBreath v_touchedBy v_windOf z8 w_v_isKept (upd w_v_keptBidder (Int32.toNatClampNeg y1) (v_heardBidder (Int32.toNatClampNeg y1))) (upd w_v_keptBreath (Int32.toNatClampNeg y1) (v_heardBreath (Int32.toNatClampNeg y1))) w_v_keptChoice w_v_keptHall w_v_keptHeard w_v_keptTouched w_v_keptWind))))
def f_X12_image (v_bidders : Int32) (v_choiceOf : Nat → Int32) (v_halls : Int32) (v_heard : Int32) (v_heardBidder : Nat → Int32) (v_heardBreath : Nat → Int32) (v_isKept : Int32) (v_keptBidder : Nat → Int32) (v_keptBreath : Nat → Int32) (v_keptChoice : Nat → Int32) (v_keptHall : Int32) (v_keptHeard : Int32) (v_keptTouched : Nat → Int32) (v_keptWind : Nat → Int32) (v_touchedBy : Nat → Int32) (v_windOf : Nat → Int32) : Option (Int32 × Int32 × (Nat → Int32) × (Nat → Int32) × (Nat → Int32) × Int32 × Int32 × (Nat → Int32) × (Nat → Int32)) := (if v_bidders = 0 then (some ((-103), v_isKept, v_keptBidder, v_keptBreath, v_keptChoice, v_keptHall, v_keptHeard, v_keptTouched, v_keptWind)) else ((f_X12_image_33 4096 v_bidders v_choiceOf v_halls v_heard v_heardBidder v_heardBreath v_touchedBy v_windOf 0 1 v_keptBidder v_keptBreath v_keptChoice v_halls v_heard v_keptTouched v_keptWind).bind fun q5 => ((f_X12_image_82 4096 v_bidders v_choiceOf v_halls v_heard v_heardBidder v_heardBreath v_touchedBy v_windOf 0 q5.2.1 q5.2.2.1 q5.2.2.2.1 q5.2.2.2.2.1 q5.2.2.2.2.2.1 q5.2.2.2.2.2.2.1 q5.2.2.2.2.2.2.2.1 q5.2.2.2.2.2.2.2.2).bind fun q9 => (some (v_bidders, q9.2.1, q9.2.2.1, q9.2.2.2.1, q9.2.2.2.2.1, q9.2.2.2.2.2.1, q9.2.2.2.2.2.2.1, q9.2.2.2.2.2.2.2.1, q9.2.2.2.2.2.2.2.2)))))
set_option maxRecDepth 100000 in
set_option maxHeartbeats 4000000 in
theorem c_X12_image (l : Launch) (g : GG) (aM : Nat) (rM : Nat → Nat) (v_halls : Int32) (v_bidders : Int32) (v_fall : Int32) (v_heard : Int32) (v_asks : Int32) (v_pageLength : Int32) (v_isWhole : Int32) (v_newMany : Int32) (v_seedNow : Int64) (v_isKept : Int32) (v_keptHall : Int32) (v_keptHeard : Int32) (v_h : Int64) (v_choiceOf : Nat → Int32) (v_heardBidder : Nat → Int32) (v_heardBreath : Nat → Int32) (v_keptBidder : Nat → Int32) (v_keptBreath : Nat → Int32) (v_keptChoice : Nat → Int32) (v_keptTouched : Nat → Int32) (v_keptWind : Nat → Int32) (v_touchedBy : Nat → Int32) (v_windOf : Nat → Int32) {r0 : Int32} {r1 : Int32} {r2 : Nat → Int32} {r3 : Nat → Int32} {r4 : Nat → Int32} {r5 : Int32} {r6 : Int32} {r7 : Nat → Int32} {r8 : Nat → Int32} (hf : f_X12_image v_bidders v_choiceOf v_halls v_heard v_heardBidder v_heardBreath v_isKept v_keptBidder v_keptBreath v_keptChoice v_keptHall v_keptHeard v_keptTouched v_keptWind v_touchedBy v_windOf = some (r0, r1, r2, r3, r4, r5, r6, r7, r8)) : MD l g yX12_image cX12_image 2 (some .int) 0 0 [.ref aM] [ob aM 12 (oM rM v_halls v_bidders v_fall v_heard v_asks v_pageLength v_isWhole v_newMany v_seedNow v_isKept v_keptHall v_keptHeard v_h), ia g (rM 7) 5 v_choiceOf, ia g (rM 10) 8 v_heardBidder, ia g (rM 11) 8 v_heardBreath, ia g (rM 26) 8 v_keptBidder, ia g (rM 27) 8 v_keptBreath, ia g (rM 24) 5 v_keptChoice, ia g (rM 25) 5 v_keptTouched, ia g (rM 23) 5 v_keptWind, ia g (rM 8) 5 v_touchedBy, ia g (rM 4) 5 v_windOf] (some (.int r0)) [ob aM 12 (oM rM v_halls v_bidders v_fall v_heard v_asks v_pageLength v_isWhole v_newMany v_seedNow r1 r5 r6 v_h), ia g (rM 7) 5 v_choiceOf, ia g (rM 10) 8 v_heardBidder, ia g (rM 11) 8 v_heardBreath, ia g (rM 26) 8 r2, ia g (rM 27) 8 r3, ia g (rM 24) 5 r4, ia g (rM 25) 5 r7, ia g (rM 23) 5 r8, ia g (rM 8) 5 v_touchedBy, ia g (rM 4) 5 v_windOf] := by
  refine MC.mk (by decide) (Nat.le_of_ble_eq_true rfl) ?_
  intro p e s m args below meth c ls Q A F hnm hK hw hA hl hQ
  have hP := hw.1
  have hx := F.1
  have hb := F.2.1
  have hml := F.2.2.2.1
  have hown := F.2.2.2.2.1
  have hts := F.2.2.2.2.2.1
  have hl : lv_has ls 2 [(0, .ref aM)] := hl
  have L33 : ∀ (k : Nat) (y1 : Int32) (w_v_isKept : Int32) (w_v_keptBidder : Nat → Int32) (w_v_keptBreath : Nat → Int32) (w_v_keptChoice : Nat → Int32) (w_v_keptHall : Int32) (w_v_keptHeard : Int32) (w_v_keptTouched : Nat → Int32) (w_v_keptWind : Nat → Int32) (q : Int32 × Int32 × (Nat → Int32) × (Nat → Int32) × (Nat → Int32) × Int32 × Int32 × (Nat → Int32) × (Nat → Int32)), f_X12_image_33 k v_bidders v_choiceOf v_halls v_heard v_heardBidder v_heardBreath v_touchedBy v_windOf y1 w_v_isKept w_v_keptBidder w_v_keptBreath w_v_keptChoice w_v_keptHall w_v_keptHeard w_v_keptTouched w_v_keptWind = some q → ∀ (H : Heap) (locs : List Loc) (ls : Array Slot), WD g A s.heap [ob aM 12 (oM rM v_halls v_bidders v_fall v_heard v_asks v_pageLength v_isWhole v_newMany v_seedNow w_v_isKept w_v_keptHall w_v_keptHeard v_h), ia g (rM 7) 5 v_choiceOf, ia g (rM 10) 8 v_heardBidder, ia g (rM 11) 8 v_heardBreath, ia g (rM 26) 8 w_v_keptBidder, ia g (rM 27) 8 w_v_keptBreath, ia g (rM 24) 5 w_v_keptChoice, ia g (rM 25) 5 w_v_keptTouched, ia g (rM 23) 5 w_v_keptWind, ia g (rM 8) 5 v_touchedBy, ia g (rM 4) 5 v_windOf] H locs → lv_has ls 2 [(1, .int y1), (0, .ref aM)] → (∀ (H : Heap) (locs : List Loc) (ls : Array Slot), WD g A s.heap [ob aM 12 (oM rM v_halls v_bidders v_fall v_heard v_asks v_pageLength v_isWhole v_newMany v_seedNow q.2.1 q.2.2.2.2.2.1 q.2.2.2.2.2.2.1 v_h), ia g (rM 7) 5 v_choiceOf, ia g (rM 10) 8 v_heardBidder, ia g (rM 11) 8 v_heardBreath, ia g (rM 26) 8 q.2.2.1, ia g (rM 27) 8 q.2.2.2.1, ia g (rM 24) 5 q.2.2.2.2.1, ia g (rM 25) 5 q.2.2.2.2.2.2.2.1, ia g (rM 23) 5 q.2.2.2.2.2.2.2.2, ia g (rM 8) 5 v_touchedBy, ia g (rM 4) 5 v_windOf] H locs → lv_has ls 2 [(1, .int q.1), (0, .ref aM)] → W p l e (rmc 0 0 0 0) s m args below meth c H locs 0 0 Q (F0 m 80 ls [])) → W p l e (rmc 0 0 0 0) s m args below meth c H locs 0 0 Q (F0 m 33 ls []) := by
    intro k
    induction k with
    | zero => intro y1 w_v_isKept w_v_keptBidder w_v_keptBreath w_v_keptChoice w_v_keptHall w_v_keptHeard w_v_keptTouched w_v_keptWind q hf; rw [f_X12_image_33] at hf; cases hf
    | succ k ih =>
      intro y1 w_v_isKept w_v_keptBidder w_v_keptBreath w_v_keptChoice w_v_keptHall w_v_keptHeard w_v_keptTouched w_v_keptWind q hf H locs ls hw hl kx
      rw [f_X12_image_33] at hf
      have hP := hw.1
      refine lv_iload_n hx hb dX12_image_33 rfl (lv_at hl 0 rfl) ?_
      refine lv_iconst (v := 5) hx hb dX12_image_34 (by decide) ?_
      refine lv_icmp_ge (tgt := 80) hx hb dX12_image_35 (by decide) (fun h2 => ?_) (fun h2 => ?_)
      · have hf := o_t h2 hf
        cases hf
        exact kx _ _ ls hw (lv_sub hl [0, 1] rfl)
      · have hf := o_f h2 hf
        refine lv_aload_n hx hb dX12_image_38 rfl (lv_at hl 1 rfl) ?_
        refine w_get (ci := 12) F hK hP fb_X12 0 rfl rfl 23 (by decide) fl_X12_44 (fun _ h => h) rfl dX12_image_39 ?_
        refine lv_iload_n hx hb dX12_image_42 rfl (lv_at hl 0 rfl) ?_
        refine lv_aload_n hx hb dX12_image_43 rfl (lv_at hl 1 rfl) ?_
        refine w_get (ci := 12) F hK hP fb_X12 0 rfl rfl 4 (by decide) fl_X12_13 (fun _ h => h) rfl dX12_image_44 ?_
        refine lv_iload_n hx hb dX12_image_47 rfl (lv_at hl 0 rfl) ?_
        obtain ⟨h3, hf⟩ := o_chk hf
        refine w_iald F hK hP 10 rfl h3 dX12_image_48 ?_
        refine w_iast (ws' := [ob aM 12 (oM rM v_halls v_bidders v_fall v_heard v_asks v_pageLength v_isWhole v_newMany v_seedNow w_v_isKept w_v_keptHall w_v_keptHeard v_h), ia g (rM 7) 5 v_choiceOf, ia g (rM 10) 8 v_heardBidder, ia g (rM 11) 8 v_heardBreath, ia g (rM 26) 8 w_v_keptBidder, ia g (rM 27) 8 w_v_keptBreath, ia g (rM 24) 5 w_v_keptChoice, ia g (rM 25) 5 w_v_keptTouched, ia g (rM 23) 5 (upd w_v_keptWind (Int32.toNatClampNeg y1) (v_windOf (Int32.toNatClampNeg y1))), ia g (rM 8) 5 v_touchedBy, ia g (rM 4) 5 v_windOf]) F hK hw 8 rfl h3 rfl dX12_image_49 (fun H locs hw => ?_)
        have hP := hw.1
        refine lv_aload_n hx hb dX12_image_50 rfl (lv_at hl 1 rfl) ?_
        refine w_get (ci := 12) F hK hP fb_X12 0 rfl rfl 24 (by decide) fl_X12_47 (fun _ h => h) rfl dX12_image_51 ?_
        refine lv_iload_n hx hb dX12_image_54 rfl (lv_at hl 0 rfl) ?_
        refine lv_aload_n hx hb dX12_image_55 rfl (lv_at hl 1 rfl) ?_
        refine w_get (ci := 12) F hK hP fb_X12 0 rfl rfl 7 (by decide) fl_X12_22 (fun _ h => h) rfl dX12_image_56 ?_
        refine lv_iload_n hx hb dX12_image_59 rfl (lv_at hl 0 rfl) ?_
        refine w_iald F hK hP 1 rfl h3 dX12_image_60 ?_
        refine w_iast (ws' := [ob aM 12 (oM rM v_halls v_bidders v_fall v_heard v_asks v_pageLength v_isWhole v_newMany v_seedNow w_v_isKept w_v_keptHall w_v_keptHeard v_h), ia g (rM 7) 5 v_choiceOf, ia g (rM 10) 8 v_heardBidder, ia g (rM 11) 8 v_heardBreath, ia g (rM 26) 8 w_v_keptBidder, ia g (rM 27) 8 w_v_keptBreath, ia g (rM 24) 5 (upd w_v_keptChoice (Int32.toNatClampNeg y1) (v_choiceOf (Int32.toNatClampNeg y1))), ia g (rM 25) 5 w_v_keptTouched, ia g (rM 23) 5 (upd w_v_keptWind (Int32.toNatClampNeg y1) (v_windOf (Int32.toNatClampNeg y1))), ia g (rM 8) 5 v_touchedBy, ia g (rM 4) 5 v_windOf]) F hK hw 6 rfl h3 rfl dX12_image_61 (fun H locs hw => ?_)
        have hP := hw.1
        refine lv_aload_n hx hb dX12_image_62 rfl (lv_at hl 1 rfl) ?_
        refine w_get (ci := 12) F hK hP fb_X12 0 rfl rfl 25 (by decide) fl_X12_50 (fun _ h => h) rfl dX12_image_63 ?_
        refine lv_iload_n hx hb dX12_image_66 rfl (lv_at hl 0 rfl) ?_
        refine lv_aload_n hx hb dX12_image_67 rfl (lv_at hl 1 rfl) ?_
        refine w_get (ci := 12) F hK hP fb_X12 0 rfl rfl 8 (by decide) fl_X12_25 (fun _ h => h) rfl dX12_image_68 ?_
        refine lv_iload_n hx hb dX12_image_71 rfl (lv_at hl 0 rfl) ?_
        refine w_iald F hK hP 9 rfl h3 dX12_image_72 ?_
        refine w_iast (ws' := [ob aM 12 (oM rM v_halls v_bidders v_fall v_heard v_asks v_pageLength v_isWhole v_newMany v_seedNow w_v_isKept w_v_keptHall w_v_keptHeard v_h), ia g (rM 7) 5 v_choiceOf, ia g (rM 10) 8 v_heardBidder, ia g (rM 11) 8 v_heardBreath, ia g (rM 26) 8 w_v_keptBidder, ia g (rM 27) 8 w_v_keptBreath, ia g (rM 24) 5 (upd w_v_keptChoice (Int32.toNatClampNeg y1) (v_choiceOf (Int32.toNatClampNeg y1))), ia g (rM 25) 5 (upd w_v_keptTouched (Int32.toNatClampNeg y1) (v_touchedBy (Int32.toNatClampNeg y1))), ia g (rM 23) 5 (upd w_v_keptWind (Int32.toNatClampNeg y1) (v_windOf (Int32.toNatClampNeg y1))), ia g (rM 8) 5 v_touchedBy, ia g (rM 4) 5 v_windOf]) F hK hw 7 rfl h3 rfl dX12_image_73 (fun H locs hw => ?_)
        have hP := hw.1
        obtain ⟨z4, ez4⟩ : ∃ y : Int32, y = y1 + 1 := ⟨_, rfl⟩
        have hf := o_bnd ez4 hf
        refine lv_iinc (v := z4) (lv' := [(1, .int z4), (0, .ref aM)]) hx hb dX12_image_74 hl (k := 0) rfl (by rw [ez4]; rfl) (by decide) rfl (fun ls hl => ?_)
        refine lv_goto (tgt := 33) hx hb dX12_image_77 (by decide) ?_
        exact ih z4 w_v_isKept w_v_keptBidder w_v_keptBreath (upd w_v_keptChoice (Int32.toNatClampNeg y1) (v_choiceOf (Int32.toNatClampNeg y1))) w_v_keptHall w_v_keptHeard (upd w_v_keptTouched (Int32.toNatClampNeg y1) (v_touchedBy (Int32.toNatClampNeg y1))) (upd w_v_keptWind (Int32.toNatClampNeg y1) (v_windOf (Int32.toNatClampNeg y1))) _ hf _ _ ls hw (lv_sub hl [0, 1] rfl) kx
  have L82 : ∀ (k : Nat) (y1 : Int32) (w_v_isKept : Int32) (w_v_keptBidder : Nat → Int32) (w_v_keptBreath : Nat → Int32) (w_v_keptChoice : Nat → Int32) (w_v_keptHall : Int32) (w_v_keptHeard : Int32) (w_v_keptTouched : Nat → Int32) (w_v_keptWind : Nat → Int32) (q : Int32 × Int32 × (Nat → Int32) × (Nat → Int32) × (Nat → Int32) × Int32 × Int32 × (Nat → Int32) × (Nat → Int32)), f_X12_image_82 k v_bidders v_choiceOf v_halls v_heard v_heardBidder v_heardBreath v_touchedBy v_windOf y1 w_v_isKept w_v_keptBidder w_v_keptBreath w_v_keptChoice w_v_keptHall w_v_keptHeard w_v_keptTouched w_v_keptWind = some q → ∀ (H : Heap) (locs : List Loc) (ls : Array Slot), WD g A s.heap [ob aM 12 (oM rM v_halls v_bidders v_fall v_heard v_asks v_pageLength v_isWhole v_newMany v_seedNow w_v_isKept w_v_keptHall w_v_keptHeard v_h), ia g (rM 7) 5 v_choiceOf, ia g (rM 10) 8 v_heardBidder, ia g (rM 11) 8 v_heardBreath, ia g (rM 26) 8 w_v_keptBidder, ia g (rM 27) 8 w_v_keptBreath, ia g (rM 24) 5 w_v_keptChoice, ia g (rM 25) 5 w_v_keptTouched, ia g (rM 23) 5 w_v_keptWind, ia g (rM 8) 5 v_touchedBy, ia g (rM 4) 5 v_windOf] H locs → lv_has ls 2 [(1, .int y1), (0, .ref aM)] → (∀ (H : Heap) (locs : List Loc) (ls : Array Slot), WD g A s.heap [ob aM 12 (oM rM v_halls v_bidders v_fall v_heard v_asks v_pageLength v_isWhole v_newMany v_seedNow q.2.1 q.2.2.2.2.2.1 q.2.2.2.2.2.2.1 v_h), ia g (rM 7) 5 v_choiceOf, ia g (rM 10) 8 v_heardBidder, ia g (rM 11) 8 v_heardBreath, ia g (rM 26) 8 q.2.2.1, ia g (rM 27) 8 q.2.2.2.1, ia g (rM 24) 5 q.2.2.2.2.1, ia g (rM 25) 5 q.2.2.2.2.2.2.2.1, ia g (rM 23) 5 q.2.2.2.2.2.2.2.2, ia g (rM 8) 5 v_touchedBy, ia g (rM 4) 5 v_windOf] H locs → lv_has ls 2 [(1, .int q.1), (0, .ref aM)] → W p l e (rmc 0 0 0 0) s m args below meth c H locs 0 0 Q (F0 m 118 ls [])) → W p l e (rmc 0 0 0 0) s m args below meth c H locs 0 0 Q (F0 m 82 ls []) := by
    intro k
    induction k with
    | zero => intro y1 w_v_isKept w_v_keptBidder w_v_keptBreath w_v_keptChoice w_v_keptHall w_v_keptHeard w_v_keptTouched w_v_keptWind q hf; rw [f_X12_image_82] at hf; cases hf
    | succ k ih =>
      intro y1 w_v_isKept w_v_keptBidder w_v_keptBreath w_v_keptChoice w_v_keptHall w_v_keptHeard w_v_keptTouched w_v_keptWind q hf H locs ls hw hl kx
      rw [f_X12_image_82] at hf
      have hP := hw.1
      refine lv_iload_n hx hb dX12_image_82 rfl (lv_at hl 0 rfl) ?_
      refine lv_bipush (v := 8) hx hb dX12_image_83 (by decide) ?_
      refine lv_icmp_ge (tgt := 118) hx hb dX12_image_85 (by decide) (fun h6 => ?_) (fun h6 => ?_)
      · have hf := o_t h6 hf
        cases hf
        exact kx _ _ ls hw (lv_sub hl [0, 1] rfl)
      · have hf := o_f h6 hf
        refine lv_aload_n hx hb dX12_image_88 rfl (lv_at hl 1 rfl) ?_
        refine w_get (ci := 12) F hK hP fb_X12 0 rfl rfl 26 (by decide) fl_X12_53 (fun _ h => h) rfl dX12_image_89 ?_
        refine lv_iload_n hx hb dX12_image_92 rfl (lv_at hl 0 rfl) ?_
        refine lv_aload_n hx hb dX12_image_93 rfl (lv_at hl 1 rfl) ?_
        refine w_get (ci := 12) F hK hP fb_X12 0 rfl rfl 10 (by decide) fl_X12_28 (fun _ h => h) rfl dX12_image_94 ?_
        refine lv_iload_n hx hb dX12_image_97 rfl (lv_at hl 0 rfl) ?_
        obtain ⟨h7, hf⟩ := o_chk hf
        refine w_iald F hK hP 2 rfl h7 dX12_image_98 ?_
        refine w_iast (ws' := [ob aM 12 (oM rM v_halls v_bidders v_fall v_heard v_asks v_pageLength v_isWhole v_newMany v_seedNow w_v_isKept w_v_keptHall w_v_keptHeard v_h), ia g (rM 7) 5 v_choiceOf, ia g (rM 10) 8 v_heardBidder, ia g (rM 11) 8 v_heardBreath, ia g (rM 26) 8 (upd w_v_keptBidder (Int32.toNatClampNeg y1) (v_heardBidder (Int32.toNatClampNeg y1))), ia g (rM 27) 8 w_v_keptBreath, ia g (rM 24) 5 w_v_keptChoice, ia g (rM 25) 5 w_v_keptTouched, ia g (rM 23) 5 w_v_keptWind, ia g (rM 8) 5 v_touchedBy, ia g (rM 4) 5 v_windOf]) F hK hw 4 rfl h7 rfl dX12_image_99 (fun H locs hw => ?_)
        have hP := hw.1
        refine lv_aload_n hx hb dX12_image_100 rfl (lv_at hl 1 rfl) ?_
        refine w_get (ci := 12) F hK hP fb_X12 0 rfl rfl 27 (by decide) fl_X12_56 (fun _ h => h) rfl dX12_image_101 ?_
        refine lv_iload_n hx hb dX12_image_104 rfl (lv_at hl 0 rfl) ?_
        refine lv_aload_n hx hb dX12_image_105 rfl (lv_at hl 1 rfl) ?_
        refine w_get (ci := 12) F hK hP fb_X12 0 rfl rfl 11 (by decide) fl_X12_31 (fun _ h => h) rfl dX12_image_106 ?_
        refine lv_iload_n hx hb dX12_image_109 rfl (lv_at hl 0 rfl) ?_
        refine w_iald F hK hP 3 rfl h7 dX12_image_110 ?_
        refine w_iast (ws' := [ob aM 12 (oM rM v_halls v_bidders v_fall v_heard v_asks v_pageLength v_isWhole v_newMany v_seedNow w_v_isKept w_v_keptHall w_v_keptHeard v_h), ia g (rM 7) 5 v_choiceOf, ia g (rM 10) 8 v_heardBidder, ia g (rM 11) 8 v_heardBreath, ia g (rM 26) 8 (upd w_v_keptBidder (Int32.toNatClampNeg y1) (v_heardBidder (Int32.toNatClampNeg y1))), ia g (rM 27) 8 (upd w_v_keptBreath (Int32.toNatClampNeg y1) (v_heardBreath (Int32.toNatClampNeg y1))), ia g (rM 24) 5 w_v_keptChoice, ia g (rM 25) 5 w_v_keptTouched, ia g (rM 23) 5 w_v_keptWind, ia g (rM 8) 5 v_touchedBy, ia g (rM 4) 5 v_windOf]) F hK hw 5 rfl h7 rfl dX12_image_111 (fun H locs hw => ?_)
        have hP := hw.1
        obtain ⟨z8, ez8⟩ : ∃ y : Int32, y = y1 + 1 := ⟨_, rfl⟩
        have hf := o_bnd ez8 hf
        refine lv_iinc (v := z8) (lv' := [(1, .int z8), (0, .ref aM)]) hx hb dX12_image_112 hl (k := 0) rfl (by rw [ez8]; rfl) (by decide) rfl (fun ls hl => ?_)
        refine lv_goto (tgt := 82) hx hb dX12_image_115 (by decide) ?_
        exact ih z8 w_v_isKept (upd w_v_keptBidder (Int32.toNatClampNeg y1) (v_heardBidder (Int32.toNatClampNeg y1))) (upd w_v_keptBreath (Int32.toNatClampNeg y1) (v_heardBreath (Int32.toNatClampNeg y1))) w_v_keptChoice w_v_keptHall w_v_keptHeard w_v_keptTouched w_v_keptWind _ hf _ _ ls hw (lv_sub hl [0, 1] rfl) kx
  unfold f_X12_image at hf
  refine lv_aload_n hx hb dX12_image_0 rfl (lv_at hl 0 rfl) ?_
  refine w_get (ci := 12) F hK hP fb_X12 0 rfl rfl 1 (by decide) fl_X12_89 (fun _ h => h) rfl dX12_image_1 ?_
  refine lv_if_ne (tgt := 10) hx hb dX12_image_4 (by decide) (fun h1 => ?_) (fun h1 => ?_)
  · have hf := o_f h1 hf
    refine lv_aload_n hx hb dX12_image_10 rfl (lv_at hl 0 rfl) ?_
    refine lv_iconst (v := 1) hx hb dX12_image_11 (by decide) ?_
    refine w_put (ci := 12) (ws' := [ob aM 12 (oM rM v_halls v_bidders v_fall v_heard v_asks v_pageLength v_isWhole v_newMany v_seedNow 1 v_keptHall v_keptHeard v_h), ia g (rM 7) 5 v_choiceOf, ia g (rM 10) 8 v_heardBidder, ia g (rM 11) 8 v_heardBreath, ia g (rM 26) 8 v_keptBidder, ia g (rM 27) 8 v_keptBreath, ia g (rM 24) 5 v_keptChoice, ia g (rM 25) 5 v_keptTouched, ia g (rM 23) 5 v_keptWind, ia g (rM 8) 5 v_touchedBy, ia g (rM 4) 5 v_windOf]) F hK hw fb_X12 0 rfl rfl 20 (by decide) fl_X12_199 (fun _ h => h) rfl rfl rfl rfl (Nat.le_of_ble_eq_true rfl) rfl dX12_image_12 (fun H locs hw => ?_)
    have hP := hw.1
    refine lv_aload_n hx hb dX12_image_15 rfl (lv_at hl 0 rfl) ?_
    refine lv_aload_n hx hb dX12_image_16 rfl (lv_at hl 0 rfl) ?_
    refine w_get (ci := 12) F hK hP fb_X12 0 rfl rfl 0 (by decide) fl_X12_95 (fun _ h => h) rfl dX12_image_17 ?_
    refine w_put (ci := 12) (ws' := [ob aM 12 (oM rM v_halls v_bidders v_fall v_heard v_asks v_pageLength v_isWhole v_newMany v_seedNow 1 v_halls v_keptHeard v_h), ia g (rM 7) 5 v_choiceOf, ia g (rM 10) 8 v_heardBidder, ia g (rM 11) 8 v_heardBreath, ia g (rM 26) 8 v_keptBidder, ia g (rM 27) 8 v_keptBreath, ia g (rM 24) 5 v_keptChoice, ia g (rM 25) 5 v_keptTouched, ia g (rM 23) 5 v_keptWind, ia g (rM 8) 5 v_touchedBy, ia g (rM 4) 5 v_windOf]) F hK hw fb_X12 0 rfl rfl 21 (by decide) fl_X12_202 (fun _ h => h) rfl rfl rfl rfl (Nat.le_of_ble_eq_true rfl) rfl dX12_image_20 (fun H locs hw => ?_)
    have hP := hw.1
    refine lv_aload_n hx hb dX12_image_23 rfl (lv_at hl 0 rfl) ?_
    refine lv_aload_n hx hb dX12_image_24 rfl (lv_at hl 0 rfl) ?_
    refine w_get (ci := 12) F hK hP fb_X12 0 rfl rfl 9 (by decide) fl_X12_98 (fun _ h => h) rfl dX12_image_25 ?_
    refine w_put (ci := 12) (ws' := [ob aM 12 (oM rM v_halls v_bidders v_fall v_heard v_asks v_pageLength v_isWhole v_newMany v_seedNow 1 v_halls v_heard v_h), ia g (rM 7) 5 v_choiceOf, ia g (rM 10) 8 v_heardBidder, ia g (rM 11) 8 v_heardBreath, ia g (rM 26) 8 v_keptBidder, ia g (rM 27) 8 v_keptBreath, ia g (rM 24) 5 v_keptChoice, ia g (rM 25) 5 v_keptTouched, ia g (rM 23) 5 v_keptWind, ia g (rM 8) 5 v_touchedBy, ia g (rM 4) 5 v_windOf]) F hK hw fb_X12 0 rfl rfl 22 (by decide) fl_X12_205 (fun _ h => h) rfl rfl rfl rfl (Nat.le_of_ble_eq_true rfl) rfl dX12_image_28 (fun H locs hw => ?_)
    have hP := hw.1
    refine lv_iconst (v := 0) hx hb dX12_image_31 (by decide) ?_
    refine lv_istore_n (lv' := [(1, .int 0), (0, .ref aM)]) hx hb dX12_image_32 rfl hl (by decide) rfl (fun ls hl => ?_)
    obtain ⟨q5, hq5, hf⟩ := o_bind hf
    refine L33 _ 0 1 v_keptBidder v_keptBreath v_keptChoice v_halls v_heard v_keptTouched v_keptWind _ hq5 _ _ ls hw (lv_sub hl [0, 1] rfl) (fun H locs ls hw hl => ?_)
    have hP := hw.1
    refine lv_iconst (v := 0) hx hb dX12_image_80 (by decide) ?_
    refine lv_istore_n (lv' := [(1, .int 0), (0, .ref aM)]) hx hb dX12_image_81 rfl hl (by decide) rfl (fun ls hl => ?_)
    obtain ⟨q9, hq9, hf⟩ := o_bind hf
    refine L82 _ 0 q5.2.1 q5.2.2.1 q5.2.2.2.1 q5.2.2.2.2.1 q5.2.2.2.2.2.1 q5.2.2.2.2.2.2.1 q5.2.2.2.2.2.2.2.1 q5.2.2.2.2.2.2.2.2 _ hq9 _ _ ls hw (lv_sub hl [0, 1] rfl) (fun H locs ls hw hl => ?_)
    have hP := hw.1
    refine lv_aload_n hx hb dX12_image_118 rfl (lv_at hl 1 rfl) ?_
    refine w_get (ci := 12) F hK hP fb_X12 0 rfl rfl 1 (by decide) fl_X12_89 (fun _ h => h) rfl dX12_image_119 ?_
    cases hf
    exact r_ci F hQ ⟨rfl, rfl⟩ hw dX12_image_122
  · have hf := o_t h1 hf
    refine lv_bipush (v := (-103)) hx hb dX12_image_7 (by decide) ?_
    cases hf
    exact r_ci F hQ ⟨rfl, rfl⟩ hw dX12_image_9
def f_X12_restore_31 (fuel : Nat) (v_bidders : Int32) (v_halls : Int32) (v_isKept : Int32) (v_keptBidder : Nat → Int32) (v_keptBreath : Nat → Int32) (v_keptChoice : Nat → Int32) (v_keptHall : Int32) (v_keptHeard : Int32) (v_keptTouched : Nat → Int32) (v_keptWind : Nat → Int32) (y1 : Int32) (w_v_choiceOf : Nat → Int32) (w_v_heard : Int32) (w_v_heardBidder : Nat → Int32) (w_v_heardBreath : Nat → Int32) (w_v_touchedBy : Nat → Int32) (w_v_windOf : Nat → Int32) : Option (Int32 × (Nat → Int32) × Int32 × (Nat → Int32) × (Nat → Int32) × (Nat → Int32) × (Nat → Int32)) := match fuel with
  | 0 => none
  | k + 1 => (if 5 ≤ y1 then (some (y1, w_v_choiceOf, w_v_heard, w_v_heardBidder, w_v_heardBreath, w_v_touchedBy, w_v_windOf)) else (if y1 < 0 ∨ 5 ≤ Int32.toNatClampNeg y1 then none else (bnd (y1 + 1 : Int32) fun z5 => (f_X12_restore_31 k v_bidders v_halls v_isKept v_keptBidder v_keptBreath v_keptChoice v_keptHall v_keptHeard v_keptTouched v_keptWind z5 (upd w_v_choiceOf (Int32.toNatClampNeg y1) (v_keptChoice (Int32.toNatClampNeg y1))) w_v_heard w_v_heardBidder w_v_heardBreath (upd w_v_touchedBy (Int32.toNatClampNeg y1) (v_keptTouched (Int32.toNatClampNeg y1))) (upd w_v_windOf (Int32.toNatClampNeg y1) (v_keptWind (Int32.toNatClampNeg y1)))))))
def f_X12_restore_80 (fuel : Nat) (v_bidders : Int32) (v_halls : Int32) (v_isKept : Int32) (v_keptBidder : Nat → Int32) (v_keptBreath : Nat → Int32) (v_keptChoice : Nat → Int32) (v_keptHall : Int32) (v_keptHeard : Int32) (v_keptTouched : Nat → Int32) (v_keptWind : Nat → Int32) (y1 : Int32) (w_v_choiceOf : Nat → Int32) (w_v_heard : Int32) (w_v_heardBidder : Nat → Int32) (w_v_heardBreath : Nat → Int32) (w_v_touchedBy : Nat → Int32) (w_v_windOf : Nat → Int32) : Option (Int32 × (Nat → Int32) × Int32 × (Nat → Int32) × (Nat → Int32) × (Nat → Int32) × (Nat → Int32)) := match fuel with
  | 0 => none
  | k + 1 => (if 8 ≤ y1 then (some (y1, w_v_choiceOf, w_v_heard, w_v_heardBidder, w_v_heardBreath, w_v_touchedBy, w_v_windOf)) else (if y1 < 0 ∨ 8 ≤ Int32.toNatClampNeg y1 then none else (bnd (y1 + 1 : Int32) fun z9 => (f_X12_restore_80 k v_bidders v_halls v_isKept v_keptBidder v_keptBreath v_keptChoice v_keptHall v_keptHeard v_keptTouched v_keptWind z9 w_v_choiceOf w_v_heard (upd w_v_heardBidder (Int32.toNatClampNeg y1) (v_keptBidder (Int32.toNatClampNeg y1))) (upd w_v_heardBreath (Int32.toNatClampNeg y1) (v_keptBreath (Int32.toNatClampNeg y1))) w_v_touchedBy w_v_windOf))))
def f_X12_restore (v_bidders : Int32) (v_choiceOf : Nat → Int32) (v_halls : Int32) (v_heard : Int32) (v_heardBidder : Nat → Int32) (v_heardBreath : Nat → Int32) (v_isKept : Int32) (v_keptBidder : Nat → Int32) (v_keptBreath : Nat → Int32) (v_keptChoice : Nat → Int32) (v_keptHall : Int32) (v_keptHeard : Int32) (v_keptTouched : Nat → Int32) (v_keptWind : Nat → Int32) (v_touchedBy : Nat → Int32) (v_windOf : Nat → Int32) : Option (Int32 × (Nat → Int32) × Int32 × (Nat → Int32) × (Nat → Int32) × (Nat → Int32) × (Nat → Int32)) := (if v_isKept = 0 then (some ((-103), v_choiceOf, v_heard, v_heardBidder, v_heardBreath, v_touchedBy, v_windOf)) else (if v_keptHall = v_halls then ((f_X12_restore_31 4096 v_bidders v_halls v_isKept v_keptBidder v_keptBreath v_keptChoice v_keptHall v_keptHeard v_keptTouched v_keptWind 0 v_choiceOf v_keptHeard v_heardBidder v_heardBreath v_touchedBy v_windOf).bind fun q6 => ((f_X12_restore_80 4096 v_bidders v_halls v_isKept v_keptBidder v_keptBreath v_keptChoice v_keptHall v_keptHeard v_keptTouched v_keptWind 0 q6.2.1 q6.2.2.1 q6.2.2.2.1 q6.2.2.2.2.1 q6.2.2.2.2.2.1 q6.2.2.2.2.2.2).bind fun q10 => (some (v_bidders, q10.2.1, q10.2.2.1, q10.2.2.2.1, q10.2.2.2.2.1, q10.2.2.2.2.2.1, q10.2.2.2.2.2.2)))) else (some ((-103), v_choiceOf, v_heard, v_heardBidder, v_heardBreath, v_touchedBy, v_windOf))))
set_option maxRecDepth 100000 in
set_option maxHeartbeats 4000000 in
theorem c_X12_restore (l : Launch) (g : GG) (aM : Nat) (rM : Nat → Nat) (v_halls : Int32) (v_bidders : Int32) (v_fall : Int32) (v_heard : Int32) (v_asks : Int32) (v_pageLength : Int32) (v_isWhole : Int32) (v_newMany : Int32) (v_seedNow : Int64) (v_isKept : Int32) (v_keptHall : Int32) (v_keptHeard : Int32) (v_h : Int64) (v_choiceOf : Nat → Int32) (v_heardBidder : Nat → Int32) (v_heardBreath : Nat → Int32) (v_keptBidder : Nat → Int32) (v_keptBreath : Nat → Int32) (v_keptChoice : Nat → Int32) (v_keptTouched : Nat → Int32) (v_keptWind : Nat → Int32) (v_touchedBy : Nat → Int32) (v_windOf : Nat → Int32) {r0 : Int32} {r1 : Nat → Int32} {r2 : Int32} {r3 : Nat → Int32} {r4 : Nat → Int32} {r5 : Nat → Int32} {r6 : Nat → Int32} (hf : f_X12_restore v_bidders v_choiceOf v_halls v_heard v_heardBidder v_heardBreath v_isKept v_keptBidder v_keptBreath v_keptChoice v_keptHall v_keptHeard v_keptTouched v_keptWind v_touchedBy v_windOf = some (r0, r1, r2, r3, r4, r5, r6)) : MD l g yX12_restore cX12_restore 2 (some .int) 0 0 [.ref aM] [ob aM 12 (oM rM v_halls v_bidders v_fall v_heard v_asks v_pageLength v_isWhole v_newMany v_seedNow v_isKept v_keptHall v_keptHeard v_h), ia g (rM 7) 5 v_choiceOf, ia g (rM 10) 8 v_heardBidder, ia g (rM 11) 8 v_heardBreath, ia g (rM 26) 8 v_keptBidder, ia g (rM 27) 8 v_keptBreath, ia g (rM 24) 5 v_keptChoice, ia g (rM 25) 5 v_keptTouched, ia g (rM 23) 5 v_keptWind, ia g (rM 8) 5 v_touchedBy, ia g (rM 4) 5 v_windOf] (some (.int r0)) [ob aM 12 (oM rM v_halls v_bidders v_fall r2 v_asks v_pageLength v_isWhole v_newMany v_seedNow v_isKept v_keptHall v_keptHeard v_h), ia g (rM 7) 5 r1, ia g (rM 10) 8 r3, ia g (rM 11) 8 r4, ia g (rM 26) 8 v_keptBidder, ia g (rM 27) 8 v_keptBreath, ia g (rM 24) 5 v_keptChoice, ia g (rM 25) 5 v_keptTouched, ia g (rM 23) 5 v_keptWind, ia g (rM 8) 5 r5, ia g (rM 4) 5 r6] := by
  refine MC.mk (by decide) (Nat.le_of_ble_eq_true rfl) ?_
  intro p e s m args below meth c ls Q A F hnm hK hw hA hl hQ
  have hP := hw.1
  have hx := F.1
  have hb := F.2.1
  have hml := F.2.2.2.1
  have hown := F.2.2.2.2.1
  have hts := F.2.2.2.2.2.1
  have hl : lv_has ls 2 [(0, .ref aM)] := hl
  have L31 : ∀ (k : Nat) (y1 : Int32) (w_v_choiceOf : Nat → Int32) (w_v_heard : Int32) (w_v_heardBidder : Nat → Int32) (w_v_heardBreath : Nat → Int32) (w_v_touchedBy : Nat → Int32) (w_v_windOf : Nat → Int32) (q : Int32 × (Nat → Int32) × Int32 × (Nat → Int32) × (Nat → Int32) × (Nat → Int32) × (Nat → Int32)), f_X12_restore_31 k v_bidders v_halls v_isKept v_keptBidder v_keptBreath v_keptChoice v_keptHall v_keptHeard v_keptTouched v_keptWind y1 w_v_choiceOf w_v_heard w_v_heardBidder w_v_heardBreath w_v_touchedBy w_v_windOf = some q → ∀ (H : Heap) (locs : List Loc) (ls : Array Slot), WD g A s.heap [ob aM 12 (oM rM v_halls v_bidders v_fall w_v_heard v_asks v_pageLength v_isWhole v_newMany v_seedNow v_isKept v_keptHall v_keptHeard v_h), ia g (rM 7) 5 w_v_choiceOf, ia g (rM 10) 8 w_v_heardBidder, ia g (rM 11) 8 w_v_heardBreath, ia g (rM 26) 8 v_keptBidder, ia g (rM 27) 8 v_keptBreath, ia g (rM 24) 5 v_keptChoice, ia g (rM 25) 5 v_keptTouched, ia g (rM 23) 5 v_keptWind, ia g (rM 8) 5 w_v_touchedBy, ia g (rM 4) 5 w_v_windOf] H locs → lv_has ls 2 [(1, .int y1), (0, .ref aM)] → (∀ (H : Heap) (locs : List Loc) (ls : Array Slot), WD g A s.heap [ob aM 12 (oM rM v_halls v_bidders v_fall q.2.2.1 v_asks v_pageLength v_isWhole v_newMany v_seedNow v_isKept v_keptHall v_keptHeard v_h), ia g (rM 7) 5 q.2.1, ia g (rM 10) 8 q.2.2.2.1, ia g (rM 11) 8 q.2.2.2.2.1, ia g (rM 26) 8 v_keptBidder, ia g (rM 27) 8 v_keptBreath, ia g (rM 24) 5 v_keptChoice, ia g (rM 25) 5 v_keptTouched, ia g (rM 23) 5 v_keptWind, ia g (rM 8) 5 q.2.2.2.2.2.1, ia g (rM 4) 5 q.2.2.2.2.2.2] H locs → lv_has ls 2 [(1, .int q.1), (0, .ref aM)] → W p l e (rmc 0 0 0 0) s m args below meth c H locs 0 0 Q (F0 m 78 ls [])) → W p l e (rmc 0 0 0 0) s m args below meth c H locs 0 0 Q (F0 m 31 ls []) := by
    intro k
    induction k with
    | zero => intro y1 w_v_choiceOf w_v_heard w_v_heardBidder w_v_heardBreath w_v_touchedBy w_v_windOf q hf; rw [f_X12_restore_31] at hf; cases hf
    | succ k ih =>
      intro y1 w_v_choiceOf w_v_heard w_v_heardBidder w_v_heardBreath w_v_touchedBy w_v_windOf q hf H locs ls hw hl kx
      rw [f_X12_restore_31] at hf
      have hP := hw.1
      refine lv_iload_n hx hb dX12_restore_31 rfl (lv_at hl 0 rfl) ?_
      refine lv_iconst (v := 5) hx hb dX12_restore_32 (by decide) ?_
      refine lv_icmp_ge (tgt := 78) hx hb dX12_restore_33 (by decide) (fun h3 => ?_) (fun h3 => ?_)
      · have hf := o_t h3 hf
        cases hf
        exact kx _ _ ls hw (lv_sub hl [0, 1] rfl)
      · have hf := o_f h3 hf
        refine lv_aload_n hx hb dX12_restore_36 rfl (lv_at hl 1 rfl) ?_
        refine w_get (ci := 12) F hK hP fb_X12 0 rfl rfl 4 (by decide) fl_X12_13 (fun _ h => h) rfl dX12_restore_37 ?_
        refine lv_iload_n hx hb dX12_restore_40 rfl (lv_at hl 0 rfl) ?_
        refine lv_aload_n hx hb dX12_restore_41 rfl (lv_at hl 1 rfl) ?_
        refine w_get (ci := 12) F hK hP fb_X12 0 rfl rfl 23 (by decide) fl_X12_44 (fun _ h => h) rfl dX12_restore_42 ?_
        refine lv_iload_n hx hb dX12_restore_45 rfl (lv_at hl 0 rfl) ?_
        obtain ⟨h4, hf⟩ := o_chk hf
        refine w_iald F hK hP 8 rfl h4 dX12_restore_46 ?_
        refine w_iast (ws' := [ob aM 12 (oM rM v_halls v_bidders v_fall w_v_heard v_asks v_pageLength v_isWhole v_newMany v_seedNow v_isKept v_keptHall v_keptHeard v_h), ia g (rM 7) 5 w_v_choiceOf, ia g (rM 10) 8 w_v_heardBidder, ia g (rM 11) 8 w_v_heardBreath, ia g (rM 26) 8 v_keptBidder, ia g (rM 27) 8 v_keptBreath, ia g (rM 24) 5 v_keptChoice, ia g (rM 25) 5 v_keptTouched, ia g (rM 23) 5 v_keptWind, ia g (rM 8) 5 w_v_touchedBy, ia g (rM 4) 5 (upd w_v_windOf (Int32.toNatClampNeg y1) (v_keptWind (Int32.toNatClampNeg y1)))]) F hK hw 10 rfl h4 rfl dX12_restore_47 (fun H locs hw => ?_)
        have hP := hw.1
        refine lv_aload_n hx hb dX12_restore_48 rfl (lv_at hl 1 rfl) ?_
        refine w_get (ci := 12) F hK hP fb_X12 0 rfl rfl 7 (by decide) fl_X12_22 (fun _ h => h) rfl dX12_restore_49 ?_
        refine lv_iload_n hx hb dX12_restore_52 rfl (lv_at hl 0 rfl) ?_
        refine lv_aload_n hx hb dX12_restore_53 rfl (lv_at hl 1 rfl) ?_
        refine w_get (ci := 12) F hK hP fb_X12 0 rfl rfl 24 (by decide) fl_X12_47 (fun _ h => h) rfl dX12_restore_54 ?_
        refine lv_iload_n hx hb dX12_restore_57 rfl (lv_at hl 0 rfl) ?_
        refine w_iald F hK hP 6 rfl h4 dX12_restore_58 ?_
        refine w_iast (ws' := [ob aM 12 (oM rM v_halls v_bidders v_fall w_v_heard v_asks v_pageLength v_isWhole v_newMany v_seedNow v_isKept v_keptHall v_keptHeard v_h), ia g (rM 7) 5 (upd w_v_choiceOf (Int32.toNatClampNeg y1) (v_keptChoice (Int32.toNatClampNeg y1))), ia g (rM 10) 8 w_v_heardBidder, ia g (rM 11) 8 w_v_heardBreath, ia g (rM 26) 8 v_keptBidder, ia g (rM 27) 8 v_keptBreath, ia g (rM 24) 5 v_keptChoice, ia g (rM 25) 5 v_keptTouched, ia g (rM 23) 5 v_keptWind, ia g (rM 8) 5 w_v_touchedBy, ia g (rM 4) 5 (upd w_v_windOf (Int32.toNatClampNeg y1) (v_keptWind (Int32.toNatClampNeg y1)))]) F hK hw 1 rfl h4 rfl dX12_restore_59 (fun H locs hw => ?_)
        have hP := hw.1
        refine lv_aload_n hx hb dX12_restore_60 rfl (lv_at hl 1 rfl) ?_
        refine w_get (ci := 12) F hK hP fb_X12 0 rfl rfl 8 (by decide) fl_X12_25 (fun _ h => h) rfl dX12_restore_61 ?_
        refine lv_iload_n hx hb dX12_restore_64 rfl (lv_at hl 0 rfl) ?_
        refine lv_aload_n hx hb dX12_restore_65 rfl (lv_at hl 1 rfl) ?_
        refine w_get (ci := 12) F hK hP fb_X12 0 rfl rfl 25 (by decide) fl_X12_50 (fun _ h => h) rfl dX12_restore_66 ?_
        refine lv_iload_n hx hb dX12_restore_69 rfl (lv_at hl 0 rfl) ?_
        refine w_iald F hK hP 7 rfl h4 dX12_restore_70 ?_
        refine w_iast (ws' := [ob aM 12 (oM rM v_halls v_bidders v_fall w_v_heard v_asks v_pageLength v_isWhole v_newMany v_seedNow v_isKept v_keptHall v_keptHeard v_h), ia g (rM 7) 5 (upd w_v_choiceOf (Int32.toNatClampNeg y1) (v_keptChoice (Int32.toNatClampNeg y1))), ia g (rM 10) 8 w_v_heardBidder, ia g (rM 11) 8 w_v_heardBreath, ia g (rM 26) 8 v_keptBidder, ia g (rM 27) 8 v_keptBreath, ia g (rM 24) 5 v_keptChoice, ia g (rM 25) 5 v_keptTouched, ia g (rM 23) 5 v_keptWind, ia g (rM 8) 5 (upd w_v_touchedBy (Int32.toNatClampNeg y1) (v_keptTouched (Int32.toNatClampNeg y1))), ia g (rM 4) 5 (upd w_v_windOf (Int32.toNatClampNeg y1) (v_keptWind (Int32.toNatClampNeg y1)))]) F hK hw 9 rfl h4 rfl dX12_restore_71 (fun H locs hw => ?_)
        have hP := hw.1
        obtain ⟨z5, ez5⟩ : ∃ y : Int32, y = y1 + 1 := ⟨_, rfl⟩
        have hf := o_bnd ez5 hf
        refine lv_iinc (v := z5) (lv' := [(1, .int z5), (0, .ref aM)]) hx hb dX12_restore_72 hl (k := 0) rfl (by rw [ez5]; rfl) (by decide) rfl (fun ls hl => ?_)
        refine lv_goto (tgt := 31) hx hb dX12_restore_75 (by decide) ?_
        exact ih z5 (upd w_v_choiceOf (Int32.toNatClampNeg y1) (v_keptChoice (Int32.toNatClampNeg y1))) w_v_heard w_v_heardBidder w_v_heardBreath (upd w_v_touchedBy (Int32.toNatClampNeg y1) (v_keptTouched (Int32.toNatClampNeg y1))) (upd w_v_windOf (Int32.toNatClampNeg y1) (v_keptWind (Int32.toNatClampNeg y1))) _ hf _ _ ls hw (lv_sub hl [0, 1] rfl) kx
  have L80 : ∀ (k : Nat) (y1 : Int32) (w_v_choiceOf : Nat → Int32) (w_v_heard : Int32) (w_v_heardBidder : Nat → Int32) (w_v_heardBreath : Nat → Int32) (w_v_touchedBy : Nat → Int32) (w_v_windOf : Nat → Int32) (q : Int32 × (Nat → Int32) × Int32 × (Nat → Int32) × (Nat → Int32) × (Nat → Int32) × (Nat → Int32)), f_X12_restore_80 k v_bidders v_halls v_isKept v_keptBidder v_keptBreath v_keptChoice v_keptHall v_keptHeard v_keptTouched v_keptWind y1 w_v_choiceOf w_v_heard w_v_heardBidder w_v_heardBreath w_v_touchedBy w_v_windOf = some q → ∀ (H : Heap) (locs : List Loc) (ls : Array Slot), WD g A s.heap [ob aM 12 (oM rM v_halls v_bidders v_fall w_v_heard v_asks v_pageLength v_isWhole v_newMany v_seedNow v_isKept v_keptHall v_keptHeard v_h), ia g (rM 7) 5 w_v_choiceOf, ia g (rM 10) 8 w_v_heardBidder, ia g (rM 11) 8 w_v_heardBreath, ia g (rM 26) 8 v_keptBidder, ia g (rM 27) 8 v_keptBreath, ia g (rM 24) 5 v_keptChoice, ia g (rM 25) 5 v_keptTouched, ia g (rM 23) 5 v_keptWind, ia g (rM 8) 5 w_v_touchedBy, ia g (rM 4) 5 w_v_windOf] H locs → lv_has ls 2 [(1, .int y1), (0, .ref aM)] → (∀ (H : Heap) (locs : List Loc) (ls : Array Slot), WD g A s.heap [ob aM 12 (oM rM v_halls v_bidders v_fall q.2.2.1 v_asks v_pageLength v_isWhole v_newMany v_seedNow v_isKept v_keptHall v_keptHeard v_h), ia g (rM 7) 5 q.2.1, ia g (rM 10) 8 q.2.2.2.1, ia g (rM 11) 8 q.2.2.2.2.1, ia g (rM 26) 8 v_keptBidder, ia g (rM 27) 8 v_keptBreath, ia g (rM 24) 5 v_keptChoice, ia g (rM 25) 5 v_keptTouched, ia g (rM 23) 5 v_keptWind, ia g (rM 8) 5 q.2.2.2.2.2.1, ia g (rM 4) 5 q.2.2.2.2.2.2] H locs → lv_has ls 2 [(1, .int q.1), (0, .ref aM)] → W p l e (rmc 0 0 0 0) s m args below meth c H locs 0 0 Q (F0 m 116 ls [])) → W p l e (rmc 0 0 0 0) s m args below meth c H locs 0 0 Q (F0 m 80 ls []) := by
    intro k
    induction k with
    | zero => intro y1 w_v_choiceOf w_v_heard w_v_heardBidder w_v_heardBreath w_v_touchedBy w_v_windOf q hf; rw [f_X12_restore_80] at hf; cases hf
    | succ k ih =>
      intro y1 w_v_choiceOf w_v_heard w_v_heardBidder w_v_heardBreath w_v_touchedBy w_v_windOf q hf H locs ls hw hl kx
      rw [f_X12_restore_80] at hf
      have hP := hw.1
      refine lv_iload_n hx hb dX12_restore_80 rfl (lv_at hl 0 rfl) ?_
      refine lv_bipush (v := 8) hx hb dX12_restore_81 (by decide) ?_
      refine lv_icmp_ge (tgt := 116) hx hb dX12_restore_83 (by decide) (fun h7 => ?_) (fun h7 => ?_)
      · have hf := o_t h7 hf
        cases hf
        exact kx _ _ ls hw (lv_sub hl [0, 1] rfl)
      · have hf := o_f h7 hf
        refine lv_aload_n hx hb dX12_restore_86 rfl (lv_at hl 1 rfl) ?_
        refine w_get (ci := 12) F hK hP fb_X12 0 rfl rfl 10 (by decide) fl_X12_28 (fun _ h => h) rfl dX12_restore_87 ?_
        refine lv_iload_n hx hb dX12_restore_90 rfl (lv_at hl 0 rfl) ?_
        refine lv_aload_n hx hb dX12_restore_91 rfl (lv_at hl 1 rfl) ?_
        refine w_get (ci := 12) F hK hP fb_X12 0 rfl rfl 26 (by decide) fl_X12_53 (fun _ h => h) rfl dX12_restore_92 ?_
        refine lv_iload_n hx hb dX12_restore_95 rfl (lv_at hl 0 rfl) ?_
        obtain ⟨h8, hf⟩ := o_chk hf
        refine w_iald F hK hP 4 rfl h8 dX12_restore_96 ?_
        refine w_iast (ws' := [ob aM 12 (oM rM v_halls v_bidders v_fall w_v_heard v_asks v_pageLength v_isWhole v_newMany v_seedNow v_isKept v_keptHall v_keptHeard v_h), ia g (rM 7) 5 w_v_choiceOf, ia g (rM 10) 8 (upd w_v_heardBidder (Int32.toNatClampNeg y1) (v_keptBidder (Int32.toNatClampNeg y1))), ia g (rM 11) 8 w_v_heardBreath, ia g (rM 26) 8 v_keptBidder, ia g (rM 27) 8 v_keptBreath, ia g (rM 24) 5 v_keptChoice, ia g (rM 25) 5 v_keptTouched, ia g (rM 23) 5 v_keptWind, ia g (rM 8) 5 w_v_touchedBy, ia g (rM 4) 5 w_v_windOf]) F hK hw 2 rfl h8 rfl dX12_restore_97 (fun H locs hw => ?_)
        have hP := hw.1
        refine lv_aload_n hx hb dX12_restore_98 rfl (lv_at hl 1 rfl) ?_
        refine w_get (ci := 12) F hK hP fb_X12 0 rfl rfl 11 (by decide) fl_X12_31 (fun _ h => h) rfl dX12_restore_99 ?_
        refine lv_iload_n hx hb dX12_restore_102 rfl (lv_at hl 0 rfl) ?_
        refine lv_aload_n hx hb dX12_restore_103 rfl (lv_at hl 1 rfl) ?_
        refine w_get (ci := 12) F hK hP fb_X12 0 rfl rfl 27 (by decide) fl_X12_56 (fun _ h => h) rfl dX12_restore_104 ?_
        refine lv_iload_n hx hb dX12_restore_107 rfl (lv_at hl 0 rfl) ?_
        refine w_iald F hK hP 5 rfl h8 dX12_restore_108 ?_
        refine w_iast (ws' := [ob aM 12 (oM rM v_halls v_bidders v_fall w_v_heard v_asks v_pageLength v_isWhole v_newMany v_seedNow v_isKept v_keptHall v_keptHeard v_h), ia g (rM 7) 5 w_v_choiceOf, ia g (rM 10) 8 (upd w_v_heardBidder (Int32.toNatClampNeg y1) (v_keptBidder (Int32.toNatClampNeg y1))), ia g (rM 11) 8 (upd w_v_heardBreath (Int32.toNatClampNeg y1) (v_keptBreath (Int32.toNatClampNeg y1))), ia g (rM 26) 8 v_keptBidder, ia g (rM 27) 8 v_keptBreath, ia g (rM 24) 5 v_keptChoice, ia g (rM 25) 5 v_keptTouched, ia g (rM 23) 5 v_keptWind, ia g (rM 8) 5 w_v_touchedBy, ia g (rM 4) 5 w_v_windOf]) F hK hw 3 rfl h8 rfl dX12_restore_109 (fun H locs hw => ?_)
        have hP := hw.1
        obtain ⟨z9, ez9⟩ : ∃ y : Int32, y = y1 + 1 := ⟨_, rfl⟩
        have hf := o_bnd ez9 hf
        refine lv_iinc (v := z9) (lv' := [(1, .int z9), (0, .ref aM)]) hx hb dX12_restore_110 hl (k := 0) rfl (by rw [ez9]; rfl) (by decide) rfl (fun ls hl => ?_)
        refine lv_goto (tgt := 80) hx hb dX12_restore_113 (by decide) ?_
        exact ih z9 w_v_choiceOf w_v_heard (upd w_v_heardBidder (Int32.toNatClampNeg y1) (v_keptBidder (Int32.toNatClampNeg y1))) (upd w_v_heardBreath (Int32.toNatClampNeg y1) (v_keptBreath (Int32.toNatClampNeg y1))) w_v_touchedBy w_v_windOf _ hf _ _ ls hw (lv_sub hl [0, 1] rfl) kx
  unfold f_X12_restore at hf
  refine lv_aload_n hx hb dX12_restore_0 rfl (lv_at hl 0 rfl) ?_
  refine w_get (ci := 12) F hK hP fb_X12 0 rfl rfl 20 (by decide) fl_X12_199 (fun _ h => h) rfl dX12_restore_1 ?_
  refine lv_if_eq (tgt := 18) hx hb dX12_restore_4 (by decide) (fun h1 => ?_) (fun h1 => ?_)
  · have hf := o_t h1 hf
    refine lv_bipush (v := (-103)) hx hb dX12_restore_18 (by decide) ?_
    cases hf
    exact r_ci F hQ ⟨rfl, rfl⟩ hw dX12_restore_20
  · have hf := o_f h1 hf
    refine lv_aload_n hx hb dX12_restore_7 rfl (lv_at hl 0 rfl) ?_
    refine w_get (ci := 12) F hK hP fb_X12 0 rfl rfl 21 (by decide) fl_X12_202 (fun _ h => h) rfl dX12_restore_8 ?_
    refine lv_aload_n hx hb dX12_restore_11 rfl (lv_at hl 0 rfl) ?_
    refine w_get (ci := 12) F hK hP fb_X12 0 rfl rfl 0 (by decide) fl_X12_95 (fun _ h => h) rfl dX12_restore_12 ?_
    refine lv_icmp_eq (tgt := 21) hx hb dX12_restore_15 (by decide) (fun h2 => ?_) (fun h2 => ?_)
    · have hf := o_t h2 hf
      refine lv_aload_n hx hb dX12_restore_21 rfl (lv_at hl 0 rfl) ?_
      refine lv_aload_n hx hb dX12_restore_22 rfl (lv_at hl 0 rfl) ?_
      refine w_get (ci := 12) F hK hP fb_X12 0 rfl rfl 22 (by decide) fl_X12_205 (fun _ h => h) rfl dX12_restore_23 ?_
      refine w_put (ci := 12) (ws' := [ob aM 12 (oM rM v_halls v_bidders v_fall v_keptHeard v_asks v_pageLength v_isWhole v_newMany v_seedNow v_isKept v_keptHall v_keptHeard v_h), ia g (rM 7) 5 v_choiceOf, ia g (rM 10) 8 v_heardBidder, ia g (rM 11) 8 v_heardBreath, ia g (rM 26) 8 v_keptBidder, ia g (rM 27) 8 v_keptBreath, ia g (rM 24) 5 v_keptChoice, ia g (rM 25) 5 v_keptTouched, ia g (rM 23) 5 v_keptWind, ia g (rM 8) 5 v_touchedBy, ia g (rM 4) 5 v_windOf]) F hK hw fb_X12 0 rfl rfl 9 (by decide) fl_X12_98 (fun _ h => h) rfl rfl rfl rfl (Nat.le_of_ble_eq_true rfl) rfl dX12_restore_26 (fun H locs hw => ?_)
      have hP := hw.1
      refine lv_iconst (v := 0) hx hb dX12_restore_29 (by decide) ?_
      refine lv_istore_n (lv' := [(1, .int 0), (0, .ref aM)]) hx hb dX12_restore_30 rfl hl (by decide) rfl (fun ls hl => ?_)
      obtain ⟨q6, hq6, hf⟩ := o_bind hf
      refine L31 _ 0 v_choiceOf v_keptHeard v_heardBidder v_heardBreath v_touchedBy v_windOf _ hq6 _ _ ls hw (lv_sub hl [0, 1] rfl) (fun H locs ls hw hl => ?_)
      have hP := hw.1
      refine lv_iconst (v := 0) hx hb dX12_restore_78 (by decide) ?_
      refine lv_istore_n (lv' := [(1, .int 0), (0, .ref aM)]) hx hb dX12_restore_79 rfl hl (by decide) rfl (fun ls hl => ?_)
      obtain ⟨q10, hq10, hf⟩ := o_bind hf
      refine L80 _ 0 q6.2.1 q6.2.2.1 q6.2.2.2.1 q6.2.2.2.2.1 q6.2.2.2.2.2.1 q6.2.2.2.2.2.2 _ hq10 _ _ ls hw (lv_sub hl [0, 1] rfl) (fun H locs ls hw hl => ?_)
      have hP := hw.1
      refine lv_aload_n hx hb dX12_restore_116 rfl (lv_at hl 1 rfl) ?_
      refine w_get (ci := 12) F hK hP fb_X12 0 rfl rfl 1 (by decide) fl_X12_89 (fun _ h => h) rfl dX12_restore_117 ?_
      cases hf
      exact r_ci F hQ ⟨rfl, rfl⟩ hw dX12_restore_120
    · have hf := o_f h2 hf
      refine lv_bipush (v := (-103)) hx hb dX12_restore_18 (by decide) ?_
      cases hf
      exact r_ci F hQ ⟨rfl, rfl⟩ hw dX12_restore_20
