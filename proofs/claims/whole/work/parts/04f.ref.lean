def f_X12_windsNow_12 (fuel : Nat) (x1 : Int32) (v_bidders : Int32) (v_choiceOf : Nat → Int32) (v_heard : Int32) (v_heardBidder : Nat → Int32) (v_heardBreath : Nat → Int32) (v_kindOf : Nat → Int32) (v_touchedBy : Nat → Int32) (y4 : Int32) (y3 : Int32) (y2 : Int32) (w_v_stopsAt : Nat → Int32) (w_v_windOf : Nat → Int32) : Option (Int32 × Int32 × Int32 × (Nat → Int32) × (Nat → Int32)) := match fuel with
  | 0 => none
  | k + 1 => (if 9 < y4 then (some (y4, y3, y2, w_v_stopsAt, w_v_windOf)) else (if x1 < 0 ∨ 5 ≤ Int32.toNatClampNeg x1 then none else ((f_X12_isHeard x1 v_bidders v_choiceOf v_heard v_heardBidder v_heardBreath v_kindOf w_v_stopsAt v_touchedBy (upd w_v_windOf (Int32.toNatClampNeg x1) y4)).bind fun q5 => (if q5.1 = 0 then (bnd (y3 ||| 0) fun z7 => (bnd (y4 + 1 : Int32) fun z8 => (f_X12_windsNow_12 k x1 v_bidders v_choiceOf v_heard v_heardBidder v_heardBreath v_kindOf v_touchedBy z8 z7 y2 q5.2 (upd w_v_windOf (Int32.toNatClampNeg x1) y4)))) else (bnd (y3 ||| ((1 : Int32) <<< (y4 &&& 31))) fun z9 => (bnd (y4 + 1 : Int32) fun z10 => (f_X12_windsNow_12 k x1 v_bidders v_choiceOf v_heard v_heardBidder v_heardBreath v_kindOf v_touchedBy z10 z9 y2 q5.2 (upd w_v_windOf (Int32.toNatClampNeg x1) y4))))))))
def f_X12_windsNow (x1 : Int32) (v_bidders : Int32) (v_choiceOf : Nat → Int32) (v_heard : Int32) (v_heardBidder : Nat → Int32) (v_heardBreath : Nat → Int32) (v_kindOf : Nat → Int32) (v_stopsAt : Nat → Int32) (v_touchedBy : Nat → Int32) (v_windOf : Nat → Int32) : Option (Int32 × (Nat → Int32) × (Nat → Int32)) := (if x1 < 0 ∨ 5 ≤ Int32.toNatClampNeg x1 then none else (bnd (v_windOf (Int32.toNatClampNeg x1)) fun z2 => ((f_X12_windsNow_12 4096 x1 v_bidders v_choiceOf v_heard v_heardBidder v_heardBreath v_kindOf v_touchedBy 1 0 z2 v_stopsAt v_windOf).bind fun q11 => (if x1 < 0 ∨ 5 ≤ Int32.toNatClampNeg x1 then none else (some (q11.2.1, q11.2.2.2.1, (upd q11.2.2.2.2 (Int32.toNatClampNeg x1) q11.2.2.1)))))))
set_option maxRecDepth 100000 in
set_option maxHeartbeats 4000000 in
theorem c_X12_windsNow (l : Launch) (g : GG) (aM : Nat) (rM : Nat → Nat) (x1 : Int32) (v_halls : Int32) (v_bidders : Int32) (v_fall : Int32) (v_heard : Int32) (v_asks : Int32) (v_pageLength : Int32) (v_isWhole : Int32) (v_newMany : Int32) (v_seedNow : Int64) (v_isKept : Int32) (v_keptHall : Int32) (v_keptHeard : Int32) (v_h : Int64) (v_choiceOf : Nat → Int32) (v_heardBidder : Nat → Int32) (v_heardBreath : Nat → Int32) (v_kindOf : Nat → Int32) (v_stopsAt : Nat → Int32) (v_touchedBy : Nat → Int32) (v_windOf : Nat → Int32) {r0 : Int32} {r1 : Nat → Int32} {r2 : Nat → Int32} (hf : f_X12_windsNow x1 v_bidders v_choiceOf v_heard v_heardBidder v_heardBreath v_kindOf v_stopsAt v_touchedBy v_windOf = some (r0, r1, r2)) : MD l g yX12_windsNow cX12_windsNow 5 (some .int) 3 71 [.ref aM, .int x1] [ob aM 12 (oM rM v_halls v_bidders v_fall v_heard v_asks v_pageLength v_isWhole v_newMany v_seedNow v_isKept v_keptHall v_keptHeard v_h), ia g (rM 7) 5 v_choiceOf, ia g (rM 10) 8 v_heardBidder, ia g (rM 11) 8 v_heardBreath, ia g (rM 3) 5 v_kindOf, ia g (rM 17) 5 v_stopsAt, ia g (rM 8) 5 v_touchedBy, ia g (rM 4) 5 v_windOf] (some (.int r0)) [ob aM 12 (oM rM v_halls v_bidders v_fall v_heard v_asks v_pageLength v_isWhole v_newMany v_seedNow v_isKept v_keptHall v_keptHeard v_h), ia g (rM 7) 5 v_choiceOf, ia g (rM 10) 8 v_heardBidder, ia g (rM 11) 8 v_heardBreath, ia g (rM 3) 5 v_kindOf, ia g (rM 17) 5 r1, ia g (rM 8) 5 v_touchedBy, ia g (rM 4) 5 r2] := by
  refine MC.mk (by decide) (Nat.le_of_ble_eq_true rfl) ?_
  intro p e s m args below meth c ls Q A F hnm hK hw hA hl hQ
  have hP := hw.1
  have hx := F.1
  have hb := F.2.1
  have hml := F.2.2.2.1
  have hown := F.2.2.2.2.1
  have hts := F.2.2.2.2.2.1
  have hl : lv_has ls 5 [(0, .ref aM), (1, .int x1)] := hl
  have L12 : ∀ (k : Nat) (y4 : Int32) (y3 : Int32) (y2 : Int32) (w_v_stopsAt : Nat → Int32) (w_v_windOf : Nat → Int32) (q : Int32 × Int32 × Int32 × (Nat → Int32) × (Nat → Int32)), f_X12_windsNow_12 k x1 v_bidders v_choiceOf v_heard v_heardBidder v_heardBreath v_kindOf v_touchedBy y4 y3 y2 w_v_stopsAt w_v_windOf = some q → ∀ (H : Heap) (locs : List Loc) (ls : Array Slot), WD g A s.heap [ob aM 12 (oM rM v_halls v_bidders v_fall v_heard v_asks v_pageLength v_isWhole v_newMany v_seedNow v_isKept v_keptHall v_keptHeard v_h), ia g (rM 7) 5 v_choiceOf, ia g (rM 10) 8 v_heardBidder, ia g (rM 11) 8 v_heardBreath, ia g (rM 3) 5 v_kindOf, ia g (rM 17) 5 w_v_stopsAt, ia g (rM 8) 5 v_touchedBy, ia g (rM 4) 5 w_v_windOf] H locs → lv_has ls 5 [(4, .int y4), (3, .int y3), (2, .int y2), (0, .ref aM), (1, .int x1)] → (∀ (H : Heap) (locs : List Loc) (ls : Array Slot), WD g A s.heap [ob aM 12 (oM rM v_halls v_bidders v_fall v_heard v_asks v_pageLength v_isWhole v_newMany v_seedNow v_isKept v_keptHall v_keptHeard v_h), ia g (rM 7) 5 v_choiceOf, ia g (rM 10) 8 v_heardBidder, ia g (rM 11) 8 v_heardBreath, ia g (rM 3) 5 v_kindOf, ia g (rM 17) 5 q.2.2.2.1, ia g (rM 8) 5 v_touchedBy, ia g (rM 4) 5 q.2.2.2.2] H locs → lv_has ls 5 [(4, .int q.1), (3, .int q.2.1), (2, .int q.2.2.1), (0, .ref aM), (1, .int x1)] → W p l e (rmc 3 0 0 71) s m args below meth c H locs 0 0 Q (F0 m 52 ls [])) → W p l e (rmc 3 0 0 71) s m args below meth c H locs 0 0 Q (F0 m 12 ls []) := by
    intro k
    induction k with
    | zero => intro y4 y3 y2 w_v_stopsAt w_v_windOf q hf; rw [f_X12_windsNow_12] at hf; cases hf
    | succ k ih =>
      intro y4 y3 y2 w_v_stopsAt w_v_windOf q hf H locs ls hw hl kx
      rw [f_X12_windsNow_12] at hf
      have hP := hw.1
      refine lv_iload hx hb dX12_windsNow_12 (lv_at hl 0 rfl) ?_
      refine lv_bipush (v := 9) hx hb dX12_windsNow_14 (by decide) ?_
      refine lv_icmp_gt (tgt := 52) hx hb dX12_windsNow_16 (by decide) (fun h3 => ?_) (fun h3 => ?_)
      · have hf := o_t h3 hf
        cases hf
        exact kx _ _ ls hw (lv_sub hl [0, 1, 2, 3, 4] rfl)
      · have hf := o_f h3 hf
        refine lv_aload_n hx hb dX12_windsNow_19 rfl (lv_at hl 3 rfl) ?_
        refine w_get (ci := 12) F hK hP fb_X12 0 rfl rfl 4 (by decide) fl_X12_13 (fun _ h => h) rfl dX12_windsNow_20 ?_
        refine lv_iload_n hx hb dX12_windsNow_23 rfl (lv_at hl 4 rfl) ?_
        refine lv_iload hx hb dX12_windsNow_24 (lv_at hl 0 rfl) ?_
        obtain ⟨h4, hf⟩ := o_chk hf
        refine w_iast (ws' := [ob aM 12 (oM rM v_halls v_bidders v_fall v_heard v_asks v_pageLength v_isWhole v_newMany v_seedNow v_isKept v_keptHall v_keptHeard v_h), ia g (rM 7) 5 v_choiceOf, ia g (rM 10) 8 v_heardBidder, ia g (rM 11) 8 v_heardBreath, ia g (rM 3) 5 v_kindOf, ia g (rM 17) 5 w_v_stopsAt, ia g (rM 8) 5 v_touchedBy, ia g (rM 4) 5 (upd w_v_windOf (Int32.toNatClampNeg x1) y4)]) F hK hw 7 rfl h4 rfl dX12_windsNow_26 (fun H locs hw => ?_)
        have hP := hw.1
        refine lv_iload_n hx hb dX12_windsNow_27 rfl (lv_at hl 1 rfl) ?_
        refine lv_aload_n hx hb dX12_windsNow_28 rfl (lv_at hl 3 rfl) ?_
        refine lv_iload_n hx hb dX12_windsNow_29 rfl (lv_at hl 4 rfl) ?_
        obtain ⟨q5, hq5, hf⟩ := o_bind hf
        refine k_dV (wr := []) (ws' := [ob aM 12 (oM rM v_halls v_bidders v_fall v_heard v_asks v_pageLength v_isWhole v_newMany v_seedNow v_isKept v_keptHall v_keptHeard v_h), ia g (rM 7) 5 v_choiceOf, ia g (rM 10) 8 v_heardBidder, ia g (rM 11) 8 v_heardBreath, ia g (rM 3) 5 v_kindOf, ia g (rM 17) 5 q5.2, ia g (rM 8) 5 v_touchedBy, ia g (rM 4) 5 (upd w_v_windOf (Int32.toNatClampNeg x1) y4)]) F (c_X12_isHeard l g aM rM x1 v_halls v_bidders v_fall v_heard v_asks v_pageLength v_isWhole v_newMany v_seedNow v_isKept v_keptHall v_keptHeard v_h v_choiceOf v_heardBidder v_heardBreath v_kindOf w_v_stopsAt v_touchedBy (upd w_v_windOf (Int32.toNatClampNeg x1) y4) hq5) qv_X12_isHeard ml_X12_168 hw hA hK [0, 1, 2, 3, 4, 5, 6, 7] [] [0, 1, 2, 3, 4, 5, 6, 7] rfl rfl rfl rfl rfl (by decide) rfl rfl rfl (va_recv hK.1 hP (ci := 12) (q0 := 0) rfl rfl) rfl hl.1 rfl (Nat.le_of_ble_eq_true rfl) dX12_windsNow_30 ⟨(Nat.le_of_ble_eq_true rfl), (Nat.le_of_ble_eq_true rfl)⟩ ⟨(Nat.le_of_ble_eq_true rfl), (Nat.le_of_ble_eq_true rfl)⟩ (fun H locs hw => ?_)
        have hP := hw.1
        refine W.eq (g2 := F0 m 33 ls (.int q5.1 :: [.int y3])) rfl ?_
        refine lv_if_eq (tgt := 43) hx hb dX12_windsNow_33 (by decide) (fun h6 => ?_) (fun h6 => ?_)
        · have hf := o_t h6 hf
          refine lv_iconst (v := 0) hx hb dX12_windsNow_43 (by decide) ?_
          refine lv_ior hx hb dX12_windsNow_44 ?_
          refine lv_topi (fun z7 ez7 => ?_)
          have hf := o_bnd ez7 hf
          refine lv_istore_n (lv' := [(3, .int z7), (4, .int y4), (2, .int y2), (0, .ref aM), (1, .int x1)]) hx hb dX12_windsNow_45 rfl hl (by decide) rfl (fun ls hl => ?_)
          obtain ⟨z8, ez8⟩ : ∃ y : Int32, y = y4 + 1 := ⟨_, rfl⟩
          have hf := o_bnd ez8 hf
          refine lv_iinc (v := z8) (lv' := [(4, .int z8), (3, .int z7), (2, .int y2), (0, .ref aM), (1, .int x1)]) hx hb dX12_windsNow_46 hl (k := 1) rfl (by rw [ez8]; rfl) (by decide) rfl (fun ls hl => ?_)
          refine lv_goto (tgt := 12) hx hb dX12_windsNow_49 (by decide) ?_
          exact ih z8 z7 y2 q5.2 (upd w_v_windOf (Int32.toNatClampNeg x1) y4) _ hf _ _ ls hw (lv_sub hl [0, 1, 2, 3, 4] rfl) kx
        · have hf := o_f h6 hf
          refine lv_iconst (v := 1) hx hb dX12_windsNow_36 (by decide) ?_
          refine lv_iload hx hb dX12_windsNow_37 (lv_at hl 0 rfl) ?_
          refine lv_ishl hx hb dX12_windsNow_39 ?_
          refine lv_goto (tgt := 44) hx hb dX12_windsNow_40 (by decide) ?_
          refine lv_ior hx hb dX12_windsNow_44 ?_
          refine lv_topi (fun z9 ez9 => ?_)
          have hf := o_bnd ez9 hf
          refine lv_istore_n (lv' := [(3, .int z9), (4, .int y4), (2, .int y2), (0, .ref aM), (1, .int x1)]) hx hb dX12_windsNow_45 rfl hl (by decide) rfl (fun ls hl => ?_)
          obtain ⟨z10, ez10⟩ : ∃ y : Int32, y = y4 + 1 := ⟨_, rfl⟩
          have hf := o_bnd ez10 hf
          refine lv_iinc (v := z10) (lv' := [(4, .int z10), (3, .int z9), (2, .int y2), (0, .ref aM), (1, .int x1)]) hx hb dX12_windsNow_46 hl (k := 1) rfl (by rw [ez10]; rfl) (by decide) rfl (fun ls hl => ?_)
          refine lv_goto (tgt := 12) hx hb dX12_windsNow_49 (by decide) ?_
          exact ih z10 z9 y2 q5.2 (upd w_v_windOf (Int32.toNatClampNeg x1) y4) _ hf _ _ ls hw (lv_sub hl [0, 1, 2, 3, 4] rfl) kx
  unfold f_X12_windsNow at hf
  refine lv_aload_n hx hb dX12_windsNow_0 rfl (lv_at hl 0 rfl) ?_
  refine w_get (ci := 12) F hK hP fb_X12 0 rfl rfl 4 (by decide) fl_X12_13 (fun _ h => h) rfl dX12_windsNow_1 ?_
  refine lv_iload_n hx hb dX12_windsNow_4 rfl (lv_at hl 1 rfl) ?_
  obtain ⟨h1, hf⟩ := o_chk hf
  refine w_iald F hK hP 7 rfl h1 dX12_windsNow_5 ?_
  refine lv_topi (fun z2 ez2 => ?_)
  have hf := o_bnd ez2 hf
  refine lv_istore_n (lv' := [(2, .int z2), (0, .ref aM), (1, .int x1)]) hx hb dX12_windsNow_6 rfl hl (by decide) rfl (fun ls hl => ?_)
  refine lv_iconst (v := 0) hx hb dX12_windsNow_7 (by decide) ?_
  refine lv_istore_n (lv' := [(3, .int 0), (2, .int z2), (0, .ref aM), (1, .int x1)]) hx hb dX12_windsNow_8 rfl hl (by decide) rfl (fun ls hl => ?_)
  refine lv_iconst (v := 1) hx hb dX12_windsNow_9 (by decide) ?_
  refine lv_istore (lv' := [(4, .int 1), (3, .int 0), (2, .int z2), (0, .ref aM), (1, .int x1)]) hx hb dX12_windsNow_10 hl (by decide) rfl (fun ls hl => ?_)
  obtain ⟨q11, hq11, hf⟩ := o_bind hf
  refine L12 _ 1 0 z2 v_stopsAt v_windOf _ hq11 _ _ ls hw (lv_sub hl [0, 1, 2, 3, 4] rfl) (fun H locs ls hw hl => ?_)
  have hP := hw.1
  refine lv_aload_n hx hb dX12_windsNow_52 rfl (lv_at hl 3 rfl) ?_
  refine w_get (ci := 12) F hK hP fb_X12 0 rfl rfl 4 (by decide) fl_X12_13 (fun _ h => h) rfl dX12_windsNow_53 ?_
  refine lv_iload_n hx hb dX12_windsNow_56 rfl (lv_at hl 4 rfl) ?_
  refine lv_iload_n hx hb dX12_windsNow_57 rfl (lv_at hl 2 rfl) ?_
  obtain ⟨h12, hf⟩ := o_chk hf
  refine w_iast (ws' := [ob aM 12 (oM rM v_halls v_bidders v_fall v_heard v_asks v_pageLength v_isWhole v_newMany v_seedNow v_isKept v_keptHall v_keptHeard v_h), ia g (rM 7) 5 v_choiceOf, ia g (rM 10) 8 v_heardBidder, ia g (rM 11) 8 v_heardBreath, ia g (rM 3) 5 v_kindOf, ia g (rM 17) 5 q11.2.2.2.1, ia g (rM 8) 5 v_touchedBy, ia g (rM 4) 5 (upd q11.2.2.2.2 (Int32.toNatClampNeg x1) q11.2.2.1)]) F hK hw 7 rfl h12 rfl dX12_windsNow_58 (fun H locs hw => ?_)
  have hP := hw.1
  refine lv_iload_n hx hb dX12_windsNow_59 rfl (lv_at hl 1 rfl) ?_
  cases hf
  exact r_ci F hQ ⟨rfl, rfl⟩ hw dX12_windsNow_60
def f_X12_winds (x1 : Int32) (v_bidders : Int32) (v_choiceOf : Nat → Int32) (v_heard : Int32) (v_heardBidder : Nat → Int32) (v_heardBreath : Nat → Int32) (v_kindOf : Nat → Int32) (v_stopsAt : Nat → Int32) (v_touchedBy : Nat → Int32) (v_windOf : Nat → Int32) : Option (Int32 × (Nat → Int32) × (Nat → Int32)) := ((f_X12_isBidder x1 v_bidders).bind fun q1 => (if q1 = 0 then (some ((-101), v_stopsAt, v_windOf)) else ((f_X12_windsNow x1 v_bidders v_choiceOf v_heard v_heardBidder v_heardBreath v_kindOf v_stopsAt v_touchedBy v_windOf).bind fun q3 => (some (q3.1, q3.2.1, q3.2.2)))))
set_option maxRecDepth 100000 in
set_option maxHeartbeats 4000000 in
theorem c_X12_winds (l : Launch) (g : GG) (aM : Nat) (rM : Nat → Nat) (x1 : Int32) (v_halls : Int32) (v_bidders : Int32) (v_fall : Int32) (v_heard : Int32) (v_asks : Int32) (v_pageLength : Int32) (v_isWhole : Int32) (v_newMany : Int32) (v_seedNow : Int64) (v_isKept : Int32) (v_keptHall : Int32) (v_keptHeard : Int32) (v_h : Int64) (v_choiceOf : Nat → Int32) (v_heardBidder : Nat → Int32) (v_heardBreath : Nat → Int32) (v_kindOf : Nat → Int32) (v_stopsAt : Nat → Int32) (v_touchedBy : Nat → Int32) (v_windOf : Nat → Int32) {r0 : Int32} {r1 : Nat → Int32} {r2 : Nat → Int32} (hf : f_X12_winds x1 v_bidders v_choiceOf v_heard v_heardBidder v_heardBreath v_kindOf v_stopsAt v_touchedBy v_windOf = some (r0, r1, r2)) : MD l g yX12_winds cX12_winds 2 (some .int) 4 95 [.ref aM, .int x1] [ob aM 12 (oM rM v_halls v_bidders v_fall v_heard v_asks v_pageLength v_isWhole v_newMany v_seedNow v_isKept v_keptHall v_keptHeard v_h), ia g (rM 7) 5 v_choiceOf, ia g (rM 10) 8 v_heardBidder, ia g (rM 11) 8 v_heardBreath, ia g (rM 3) 5 v_kindOf, ia g (rM 17) 5 v_stopsAt, ia g (rM 8) 5 v_touchedBy, ia g (rM 4) 5 v_windOf] (some (.int r0)) [ob aM 12 (oM rM v_halls v_bidders v_fall v_heard v_asks v_pageLength v_isWhole v_newMany v_seedNow v_isKept v_keptHall v_keptHeard v_h), ia g (rM 7) 5 v_choiceOf, ia g (rM 10) 8 v_heardBidder, ia g (rM 11) 8 v_heardBreath, ia g (rM 3) 5 v_kindOf, ia g (rM 17) 5 r1, ia g (rM 8) 5 v_touchedBy, ia g (rM 4) 5 r2] := by
  refine MC.mk (by decide) (Nat.le_of_ble_eq_true rfl) ?_
  intro p e s m args below meth c ls Q A F hnm hK hw hA hl hQ
  have hP := hw.1
  have hx := F.1
  have hb := F.2.1
  have hml := F.2.2.2.1
  have hown := F.2.2.2.2.1
  have hts := F.2.2.2.2.2.1
  have hl : lv_has ls 2 [(0, .ref aM), (1, .int x1)] := hl
  unfold f_X12_winds at hf
  refine lv_aload_n hx hb dX12_winds_0 rfl (lv_at hl 0 rfl) ?_
  refine lv_iload_n hx hb dX12_winds_1 rfl (lv_at hl 1 rfl) ?_
  obtain ⟨q1, hq1, hf⟩ := o_bind hf
  refine k_rV F (c_X12_isBidder l g aM rM x1 v_halls v_bidders v_fall v_heard v_asks v_pageLength v_isWhole v_newMany v_seedNow v_isKept v_keptHall v_keptHeard v_h hq1) qv_X12_isBidder ml_X12_129 (hP.sub [0] rfl) hK (va_recv hK.1 hP (ci := 12) (q0 := 0) rfl rfl) rfl hl.1 rfl (Nat.le_of_ble_eq_true rfl) dX12_winds_2 ⟨(Nat.le_of_ble_eq_true rfl), (Nat.le_of_ble_eq_true rfl)⟩ ⟨(Nat.le_of_ble_eq_true rfl), (Nat.le_of_ble_eq_true rfl)⟩ ?_
  refine W.eq (g2 := F0 m 5 ls (.int q1 :: [])) rfl ?_
  refine lv_if_eq (tgt := 16) hx hb dX12_winds_5 (by decide) (fun h2 => ?_) (fun h2 => ?_)
  · have hf := o_t h2 hf
    refine lv_bipush (v := (-101)) hx hb dX12_winds_16 (by decide) ?_
    cases hf
    exact r_ci F hQ ⟨rfl, rfl⟩ hw dX12_winds_18
  · have hf := o_f h2 hf
    refine lv_aload_n hx hb dX12_winds_8 rfl (lv_at hl 0 rfl) ?_
    refine lv_iload_n hx hb dX12_winds_9 rfl (lv_at hl 1 rfl) ?_
    obtain ⟨q3, hq3, hf⟩ := o_bind hf
    refine k_dV (wr := []) (ws' := [ob aM 12 (oM rM v_halls v_bidders v_fall v_heard v_asks v_pageLength v_isWhole v_newMany v_seedNow v_isKept v_keptHall v_keptHeard v_h), ia g (rM 7) 5 v_choiceOf, ia g (rM 10) 8 v_heardBidder, ia g (rM 11) 8 v_heardBreath, ia g (rM 3) 5 v_kindOf, ia g (rM 17) 5 q3.2.1, ia g (rM 8) 5 v_touchedBy, ia g (rM 4) 5 q3.2.2]) F (c_X12_windsNow l g aM rM x1 v_halls v_bidders v_fall v_heard v_asks v_pageLength v_isWhole v_newMany v_seedNow v_isKept v_keptHall v_keptHeard v_h v_choiceOf v_heardBidder v_heardBreath v_kindOf v_stopsAt v_touchedBy v_windOf hq3) qv_X12_windsNow ml_X12_171 hw hA hK [0, 1, 2, 3, 4, 5, 6, 7] [] [0, 1, 2, 3, 4, 5, 6, 7] rfl rfl rfl rfl rfl (by decide) rfl rfl rfl (va_recv hK.1 hP (ci := 12) (q0 := 0) rfl rfl) rfl hl.1 rfl (Nat.le_of_ble_eq_true rfl) dX12_winds_10 ⟨(Nat.le_of_ble_eq_true rfl), (Nat.le_of_ble_eq_true rfl)⟩ ⟨(Nat.le_of_ble_eq_true rfl), (Nat.le_of_ble_eq_true rfl)⟩ (fun H locs hw => ?_)
    have hP := hw.1
    refine W.eq (g2 := F0 m 13 ls (.int q3.1 :: [])) rfl ?_
    refine lv_goto (tgt := 18) hx hb dX12_winds_13 (by decide) ?_
    cases hf
    exact r_ci F hQ ⟨rfl, rfl⟩ hw dX12_winds_18
def f_X12_isTouch (x1 : Int32) (x2 : Int32) (v_bidders : Int32) (v_choiceOf : Nat → Int32) (v_heard : Int32) (v_heardBidder : Nat → Int32) (v_heardBreath : Nat → Int32) (v_kindOf : Nat → Int32) (v_stopsAt : Nat → Int32) (v_touchedBy : Nat → Int32) (v_windOf : Nat → Int32) : Option (Int32 × (Nat → Int32) × (Nat → Int32)) := (if x2 < 0 ∨ 5 ≤ Int32.toNatClampNeg x2 then none else (bnd (v_touchedBy (Int32.toNatClampNeg x2)) fun z2 => ((f_X12_isHeard (-1) v_bidders v_choiceOf v_heard v_heardBidder v_heardBreath v_kindOf v_stopsAt (upd v_touchedBy (Int32.toNatClampNeg x2) ((v_touchedBy (Int32.toNatClampNeg x2)) ||| ((1 : Int32) <<< (x1 &&& 31)))) v_windOf).bind fun q3 => (if ¬ (q3.1 = 0 ∨ q3.1 = 1) then none else (some (q3.1, q3.2, (upd (upd v_touchedBy (Int32.toNatClampNeg x2) ((v_touchedBy (Int32.toNatClampNeg x2)) ||| ((1 : Int32) <<< (x1 &&& 31)))) (Int32.toNatClampNeg x2) z2)))))))
set_option maxRecDepth 100000 in
set_option maxHeartbeats 4000000 in
theorem c_X12_isTouch (l : Launch) (g : GG) (aM : Nat) (rM : Nat → Nat) (x1 : Int32) (x2 : Int32) (v_halls : Int32) (v_bidders : Int32) (v_fall : Int32) (v_heard : Int32) (v_asks : Int32) (v_pageLength : Int32) (v_isWhole : Int32) (v_newMany : Int32) (v_seedNow : Int64) (v_isKept : Int32) (v_keptHall : Int32) (v_keptHeard : Int32) (v_h : Int64) (v_choiceOf : Nat → Int32) (v_heardBidder : Nat → Int32) (v_heardBreath : Nat → Int32) (v_kindOf : Nat → Int32) (v_stopsAt : Nat → Int32) (v_touchedBy : Nat → Int32) (v_windOf : Nat → Int32) {r0 : Int32} {r1 : Nat → Int32} {r2 : Nat → Int32} (hf : f_X12_isTouch x1 x2 v_bidders v_choiceOf v_heard v_heardBidder v_heardBreath v_kindOf v_stopsAt v_touchedBy v_windOf = some (r0, r1, r2)) : MD l g yX12_isTouch cX12_isTouch 5 (some .boolean) 3 71 [.ref aM, .int x1, .int x2] [ob aM 12 (oM rM v_halls v_bidders v_fall v_heard v_asks v_pageLength v_isWhole v_newMany v_seedNow v_isKept v_keptHall v_keptHeard v_h), ia g (rM 7) 5 v_choiceOf, ia g (rM 10) 8 v_heardBidder, ia g (rM 11) 8 v_heardBreath, ia g (rM 3) 5 v_kindOf, ia g (rM 17) 5 v_stopsAt, ia g (rM 8) 5 v_touchedBy, ia g (rM 4) 5 v_windOf] (some (.int r0)) [ob aM 12 (oM rM v_halls v_bidders v_fall v_heard v_asks v_pageLength v_isWhole v_newMany v_seedNow v_isKept v_keptHall v_keptHeard v_h), ia g (rM 7) 5 v_choiceOf, ia g (rM 10) 8 v_heardBidder, ia g (rM 11) 8 v_heardBreath, ia g (rM 3) 5 v_kindOf, ia g (rM 17) 5 r1, ia g (rM 8) 5 r2, ia g (rM 4) 5 v_windOf] := by
  refine MC.mk (by decide) (Nat.le_of_ble_eq_true rfl) ?_
  intro p e s m args below meth c ls Q A F hnm hK hw hA hl hQ
  have hP := hw.1
  have hx := F.1
  have hb := F.2.1
  have hml := F.2.2.2.1
  have hown := F.2.2.2.2.1
  have hts := F.2.2.2.2.2.1
  have hl : lv_has ls 5 [(0, .ref aM), (1, .int x1), (2, .int x2)] := hl
  unfold f_X12_isTouch at hf
  refine lv_aload_n hx hb dX12_isTouch_0 rfl (lv_at hl 0 rfl) ?_
  refine w_get (ci := 12) F hK hP fb_X12 0 rfl rfl 8 (by decide) fl_X12_25 (fun _ h => h) rfl dX12_isTouch_1 ?_
  refine lv_iload_n hx hb dX12_isTouch_4 rfl (lv_at hl 2 rfl) ?_
  obtain ⟨h1, hf⟩ := o_chk hf
  refine w_iald F hK hP 6 rfl h1 dX12_isTouch_5 ?_
  refine lv_topi (fun z2 ez2 => ?_)
  have hf := o_bnd ez2 hf
  refine lv_istore_n (lv' := [(3, .int z2), (0, .ref aM), (1, .int x1), (2, .int x2)]) hx hb dX12_isTouch_6 rfl hl (by decide) rfl (fun ls hl => ?_)
  refine lv_aload_n hx hb dX12_isTouch_7 rfl (lv_at hl 1 rfl) ?_
  refine w_get (ci := 12) F hK hP fb_X12 0 rfl rfl 8 (by decide) fl_X12_25 (fun _ h => h) rfl dX12_isTouch_8 ?_
  refine lv_iload_n hx hb dX12_isTouch_11 rfl (lv_at hl 3 rfl) ?_
  refine lv_dup2_11 hx hb dX12_isTouch_12 rfl rfl ?_
  refine w_iald F hK hP 6 rfl h1 dX12_isTouch_13 ?_
  refine lv_iconst (v := 1) hx hb dX12_isTouch_14 (by decide) ?_
  refine lv_iload_n hx hb dX12_isTouch_15 rfl (lv_at hl 2 rfl) ?_
  refine lv_ishl hx hb dX12_isTouch_16 ?_
  refine lv_ior hx hb dX12_isTouch_17 ?_
  refine w_iast (ws' := [ob aM 12 (oM rM v_halls v_bidders v_fall v_heard v_asks v_pageLength v_isWhole v_newMany v_seedNow v_isKept v_keptHall v_keptHeard v_h), ia g (rM 7) 5 v_choiceOf, ia g (rM 10) 8 v_heardBidder, ia g (rM 11) 8 v_heardBreath, ia g (rM 3) 5 v_kindOf, ia g (rM 17) 5 v_stopsAt, ia g (rM 8) 5 (upd v_touchedBy (Int32.toNatClampNeg x2) ((v_touchedBy (Int32.toNatClampNeg x2)) ||| ((1 : Int32) <<< (x1 &&& 31)))), ia g (rM 4) 5 v_windOf]) F hK hw 6 rfl h1 rfl dX12_isTouch_18 (fun H locs hw => ?_)
  have hP := hw.1
  refine lv_aload_n hx hb dX12_isTouch_19 rfl (lv_at hl 1 rfl) ?_
  refine lv_iconst (v := (-1)) hx hb dX12_isTouch_20 (by decide) ?_
  obtain ⟨q3, hq3, hf⟩ := o_bind hf
  refine k_dV (wr := []) (ws' := [ob aM 12 (oM rM v_halls v_bidders v_fall v_heard v_asks v_pageLength v_isWhole v_newMany v_seedNow v_isKept v_keptHall v_keptHeard v_h), ia g (rM 7) 5 v_choiceOf, ia g (rM 10) 8 v_heardBidder, ia g (rM 11) 8 v_heardBreath, ia g (rM 3) 5 v_kindOf, ia g (rM 17) 5 q3.2, ia g (rM 8) 5 (upd v_touchedBy (Int32.toNatClampNeg x2) ((v_touchedBy (Int32.toNatClampNeg x2)) ||| ((1 : Int32) <<< (x1 &&& 31)))), ia g (rM 4) 5 v_windOf]) F (c_X12_isHeard l g aM rM (-1) v_halls v_bidders v_fall v_heard v_asks v_pageLength v_isWhole v_newMany v_seedNow v_isKept v_keptHall v_keptHeard v_h v_choiceOf v_heardBidder v_heardBreath v_kindOf v_stopsAt (upd v_touchedBy (Int32.toNatClampNeg x2) ((v_touchedBy (Int32.toNatClampNeg x2)) ||| ((1 : Int32) <<< (x1 &&& 31)))) v_windOf hq3) qv_X12_isHeard ml_X12_168 hw hA hK [0, 1, 2, 3, 4, 5, 6, 7] [] [0, 1, 2, 3, 4, 5, 6, 7] rfl rfl rfl rfl rfl (by decide) rfl rfl rfl (va_recv hK.1 hP (ci := 12) (q0 := 0) rfl rfl) rfl hl.1 rfl (Nat.le_of_ble_eq_true rfl) dX12_isTouch_21 ⟨(Nat.le_of_ble_eq_true rfl), (Nat.le_of_ble_eq_true rfl)⟩ ⟨(Nat.le_of_ble_eq_true rfl), (Nat.le_of_ble_eq_true rfl)⟩ (fun H locs hw => ?_)
  have hP := hw.1
  refine W.eq (g2 := F0 m 24 ls (.int q3.1 :: [])) rfl ?_
  refine lv_istore (lv' := [(4, .int q3.1), (3, .int z2), (0, .ref aM), (1, .int x1), (2, .int x2)]) hx hb dX12_isTouch_24 hl (by decide) rfl (fun ls hl => ?_)
  refine lv_aload_n hx hb dX12_isTouch_26 rfl (lv_at hl 2 rfl) ?_
  refine w_get (ci := 12) F hK hP fb_X12 0 rfl rfl 8 (by decide) fl_X12_25 (fun _ h => h) rfl dX12_isTouch_27 ?_
  refine lv_iload_n hx hb dX12_isTouch_30 rfl (lv_at hl 4 rfl) ?_
  refine lv_iload_n hx hb dX12_isTouch_31 rfl (lv_at hl 1 rfl) ?_
  refine w_iast (ws' := [ob aM 12 (oM rM v_halls v_bidders v_fall v_heard v_asks v_pageLength v_isWhole v_newMany v_seedNow v_isKept v_keptHall v_keptHeard v_h), ia g (rM 7) 5 v_choiceOf, ia g (rM 10) 8 v_heardBidder, ia g (rM 11) 8 v_heardBreath, ia g (rM 3) 5 v_kindOf, ia g (rM 17) 5 q3.2, ia g (rM 8) 5 (upd (upd v_touchedBy (Int32.toNatClampNeg x2) ((v_touchedBy (Int32.toNatClampNeg x2)) ||| ((1 : Int32) <<< (x1 &&& 31)))) (Int32.toNatClampNeg x2) z2), ia g (rM 4) 5 v_windOf]) F hK hw 6 rfl h1 rfl dX12_isTouch_32 (fun H locs hw => ?_)
  have hP := hw.1
  refine lv_iload hx hb dX12_isTouch_33 (lv_at hl 0 rfl) ?_
  obtain ⟨h4, hf⟩ := o_chk hf
  cases hf
  exact r_cz F hQ (Decidable.not_not.mp h4) ⟨rfl, rfl⟩ hw dX12_isTouch_35
def f_X12_touchedNow_9 (fuel : Nat) (x1 : Int32) (v_bidders : Int32) (v_choiceOf : Nat → Int32) (v_heard : Int32) (v_heardBidder : Nat → Int32) (v_heardBreath : Nat → Int32) (v_kindOf : Nat → Int32) (v_windOf : Nat → Int32) (y4 : Int32) (y3 : Int32) (y2 : Int32) (w_v_stopsAt : Nat → Int32) (w_v_touchedBy : Nat → Int32) : Option (Int32 × Int32 × Int32 × (Nat → Int32) × (Nat → Int32)) := match fuel with
  | 0 => none
  | k + 1 => (if y4 < 0 then (some (y4, y3, y2, w_v_stopsAt, w_v_touchedBy)) else (bnd (y4 / 5) fun z2 => (bnd (y4 - y4 / 5 * 5) fun z3 => ((f_X12_isBidder z2 v_bidders).bind fun q4 => (if q4 = 0 then (bnd (y2 + 0) fun z6 => (bnd (y4 + (-1) : Int32) fun z7 => (f_X12_touchedNow_9 k x1 v_bidders v_choiceOf v_heard v_heardBidder v_heardBreath v_kindOf v_windOf z7 y3 z6 w_v_stopsAt w_v_touchedBy))) else ((f_X12_isBidder z3 v_bidders).bind fun q8 => (if q8 = 0 then (bnd (y2 + 0) fun z10 => (bnd (y4 + (-1) : Int32) fun z11 => (f_X12_touchedNow_9 k x1 v_bidders v_choiceOf v_heard v_heardBidder v_heardBreath v_kindOf v_windOf z11 y3 z10 w_v_stopsAt w_v_touchedBy))) else (if z2 = z3 then (bnd (y2 + 0) fun z13 => (bnd (y4 + (-1) : Int32) fun z14 => (f_X12_touchedNow_9 k x1 v_bidders v_choiceOf v_heard v_heardBidder v_heardBreath v_kindOf v_windOf z14 y3 z13 w_v_stopsAt w_v_touchedBy))) else (if z3 < 0 ∨ 5 ≤ Int32.toNatClampNeg z3 then none else ((f_X12_has (w_v_touchedBy (Int32.toNatClampNeg z3)) z2).bind fun q16 => (if q16 = 0 then ((f_X12_isTouch z2 z3 v_bidders v_choiceOf v_heard v_heardBidder v_heardBreath v_kindOf w_v_stopsAt w_v_touchedBy v_windOf).bind fun q20 => (if q20.1 = 0 then (bnd (y2 + 0) fun z22 => (bnd (y4 + (-1) : Int32) fun z23 => (f_X12_touchedNow_9 k x1 v_bidders v_choiceOf v_heard v_heardBidder v_heardBreath v_kindOf v_windOf z23 y3 z22 q20.2.1 q20.2.2))) else (bnd (y2 + 1) fun z24 => (bnd (y4 + (-1) : Int32) fun z25 => (f_X12_touchedNow_9 k x1 v_bidders v_choiceOf v_heard v_heardBidder v_heardBreath v_kindOf v_windOf z25 y4 z24 q20.2.1 q20.2.2))))) else (bnd (y2 + 0) fun z18 => (bnd (y4 + (-1) : Int32) fun z19 => (f_X12_touchedNow_9 k x1 v_bidders v_choiceOf v_heard v_heardBidder v_heardBreath v_kindOf v_windOf z19 y3 z18 w_v_stopsAt w_v_touchedBy))))))))))))))
def f_X12_touchedNow (x1 : Int32) (v_bidders : Int32) (v_choiceOf : Nat → Int32) (v_heard : Int32) (v_heardBidder : Nat → Int32) (v_heardBreath : Nat → Int32) (v_kindOf : Nat → Int32) (v_stopsAt : Nat → Int32) (v_touchedBy : Nat → Int32) (v_windOf : Nat → Int32) : Option (Int32 × (Nat → Int32) × (Nat → Int32)) := ((f_X12_touchedNow_9 4096 x1 v_bidders v_choiceOf v_heard v_heardBidder v_heardBreath v_kindOf v_windOf 24 (-2) 0 v_stopsAt v_touchedBy).bind fun q26 => ((f_X12_isHeard (-1) v_bidders v_choiceOf v_heard v_heardBidder v_heardBreath v_kindOf q26.2.2.2.1 q26.2.2.2.2 v_windOf).bind fun q27 => (if x1 = 0 then (if q27.1 = 0 then (some ((q26.2.2.1 + 0), q27.2, q26.2.2.2.2)) else (some ((q26.2.2.1 + 1), q27.2, q26.2.2.2.2))) else (if q27.1 = 0 then (some (q26.2.1, q27.2, q26.2.2.2.2)) else (some ((-1), q27.2, q26.2.2.2.2))))))
set_option maxRecDepth 100000 in
set_option maxHeartbeats 4000000 in
theorem c_X12_touchedNow (l : Launch) (g : GG) (aM : Nat) (rM : Nat → Nat) (x1 : Int32) (v_halls : Int32) (v_bidders : Int32) (v_fall : Int32) (v_heard : Int32) (v_asks : Int32) (v_pageLength : Int32) (v_isWhole : Int32) (v_newMany : Int32) (v_seedNow : Int64) (v_isKept : Int32) (v_keptHall : Int32) (v_keptHeard : Int32) (v_h : Int64) (v_choiceOf : Nat → Int32) (v_heardBidder : Nat → Int32) (v_heardBreath : Nat → Int32) (v_kindOf : Nat → Int32) (v_stopsAt : Nat → Int32) (v_touchedBy : Nat → Int32) (v_windOf : Nat → Int32) {r0 : Int32} {r1 : Nat → Int32} {r2 : Nat → Int32} (hf : f_X12_touchedNow x1 v_bidders v_choiceOf v_heard v_heardBidder v_heardBreath v_kindOf v_stopsAt v_touchedBy v_windOf = some (r0, r1, r2)) : MD l g yX12_touchedNow cX12_touchedNow 8 (some .int) 4 95 [.ref aM, .int x1] [ob aM 12 (oM rM v_halls v_bidders v_fall v_heard v_asks v_pageLength v_isWhole v_newMany v_seedNow v_isKept v_keptHall v_keptHeard v_h), ia g (rM 7) 5 v_choiceOf, ia g (rM 10) 8 v_heardBidder, ia g (rM 11) 8 v_heardBreath, ia g (rM 3) 5 v_kindOf, ia g (rM 17) 5 v_stopsAt, ia g (rM 8) 5 v_touchedBy, ia g (rM 4) 5 v_windOf] (some (.int r0)) [ob aM 12 (oM rM v_halls v_bidders v_fall v_heard v_asks v_pageLength v_isWhole v_newMany v_seedNow v_isKept v_keptHall v_keptHeard v_h), ia g (rM 7) 5 v_choiceOf, ia g (rM 10) 8 v_heardBidder, ia g (rM 11) 8 v_heardBreath, ia g (rM 3) 5 v_kindOf, ia g (rM 17) 5 r1, ia g (rM 8) 5 r2, ia g (rM 4) 5 v_windOf] := by
  refine MC.mk (by decide) (Nat.le_of_ble_eq_true rfl) ?_
  intro p e s m args below meth c ls Q A F hnm hK hw hA hl hQ
  have hP := hw.1
  have hx := F.1
  have hb := F.2.1
  have hml := F.2.2.2.1
  have hown := F.2.2.2.2.1
  have hts := F.2.2.2.2.2.1
  have hl : lv_has ls 8 [(0, .ref aM), (1, .int x1)] := hl
  have L9 : ∀ (k : Nat) (y4 : Int32) (y3 : Int32) (y2 : Int32) (w_v_stopsAt : Nat → Int32) (w_v_touchedBy : Nat → Int32) (q : Int32 × Int32 × Int32 × (Nat → Int32) × (Nat → Int32)), f_X12_touchedNow_9 k x1 v_bidders v_choiceOf v_heard v_heardBidder v_heardBreath v_kindOf v_windOf y4 y3 y2 w_v_stopsAt w_v_touchedBy = some q → ∀ (H : Heap) (locs : List Loc) (ls : Array Slot), WD g A s.heap [ob aM 12 (oM rM v_halls v_bidders v_fall v_heard v_asks v_pageLength v_isWhole v_newMany v_seedNow v_isKept v_keptHall v_keptHeard v_h), ia g (rM 7) 5 v_choiceOf, ia g (rM 10) 8 v_heardBidder, ia g (rM 11) 8 v_heardBreath, ia g (rM 3) 5 v_kindOf, ia g (rM 17) 5 w_v_stopsAt, ia g (rM 8) 5 w_v_touchedBy, ia g (rM 4) 5 v_windOf] H locs → lv_has ls 8 [(4, .int y4), (3, .int y3), (2, .int y2), (0, .ref aM), (1, .int x1)] → (∀ (H : Heap) (locs : List Loc) (ls : Array Slot), WD g A s.heap [ob aM 12 (oM rM v_halls v_bidders v_fall v_heard v_asks v_pageLength v_isWhole v_newMany v_seedNow v_isKept v_keptHall v_keptHeard v_h), ia g (rM 7) 5 v_choiceOf, ia g (rM 10) 8 v_heardBidder, ia g (rM 11) 8 v_heardBreath, ia g (rM 3) 5 v_kindOf, ia g (rM 17) 5 q.2.2.2.1, ia g (rM 8) 5 q.2.2.2.2, ia g (rM 4) 5 v_windOf] H locs → lv_has ls 8 [(4, .int q.1), (3, .int q.2.1), (2, .int q.2.2.1), (0, .ref aM), (1, .int x1)] → W p l e (rmc 4 0 0 95) s m args below meth c H locs 0 0 Q (F0 m 115 ls [])) → W p l e (rmc 4 0 0 95) s m args below meth c H locs 0 0 Q (F0 m 9 ls []) := by
    intro k
    induction k with
    | zero => intro y4 y3 y2 w_v_stopsAt w_v_touchedBy q hf; rw [f_X12_touchedNow_9] at hf; cases hf
    | succ k ih =>
      intro y4 y3 y2 w_v_stopsAt w_v_touchedBy q hf H locs ls hw hl kx
      rw [f_X12_touchedNow_9] at hf
      have hP := hw.1
      refine lv_iload hx hb dX12_touchedNow_9 (lv_at hl 0 rfl) ?_
      refine lv_if_lt (tgt := 115) hx hb dX12_touchedNow_11 (by decide) (fun h1 => ?_) (fun h1 => ?_)
      · have hf := o_t h1 hf
        cases hf
        exact kx _ _ ls hw (lv_sub hl [0, 1, 2, 3, 4] rfl)
      · have hf := o_f h1 hf
        refine lv_iload hx hb dX12_touchedNow_14 (lv_at hl 0 rfl) ?_
        refine lv_iconst (v := 5) hx hb dX12_touchedNow_16 (by decide) ?_
        refine lv_idiv hx hb dX12_touchedNow_17 (by decide) ?_
        refine lv_topi (fun z2 ez2 => ?_)
        have hf := o_bnd ez2 hf
        refine lv_istore (lv' := [(5, .int z2), (4, .int y4), (3, .int y3), (2, .int y2), (0, .ref aM), (1, .int x1)]) hx hb dX12_touchedNow_18 hl (by decide) rfl (fun ls hl => ?_)
        refine lv_iload hx hb dX12_touchedNow_20 (lv_at hl 1 rfl) ?_
        refine lv_iconst (v := 5) hx hb dX12_touchedNow_22 (by decide) ?_
        refine lv_irem hx hb dX12_touchedNow_23 (by decide) ?_
        refine lv_topi (fun z3 ez3 => ?_)
        have hf := o_bnd ez3 hf
        refine lv_istore (lv' := [(6, .int z3), (5, .int z2), (4, .int y4), (3, .int y3), (2, .int y2), (0, .ref aM), (1, .int x1)]) hx hb dX12_touchedNow_24 hl (by decide) rfl (fun ls hl => ?_)
        refine lv_aload_n hx hb dX12_touchedNow_26 rfl (lv_at hl 5 rfl) ?_
        refine lv_iload hx hb dX12_touchedNow_27 (lv_at hl 1 rfl) ?_
        obtain ⟨q4, hq4, hf⟩ := o_bind hf
        refine k_rV F (c_X12_isBidder l g aM rM z2 v_halls v_bidders v_fall v_heard v_asks v_pageLength v_isWhole v_newMany v_seedNow v_isKept v_keptHall v_keptHeard v_h hq4) qv_X12_isBidder ml_X12_129 (hP.sub [0] rfl) hK (va_recv hK.1 hP (ci := 12) (q0 := 0) rfl rfl) rfl hl.1 rfl (Nat.le_of_ble_eq_true rfl) dX12_touchedNow_29 ⟨(Nat.le_of_ble_eq_true rfl), (Nat.le_of_ble_eq_true rfl)⟩ ⟨(Nat.le_of_ble_eq_true rfl), (Nat.le_of_ble_eq_true rfl)⟩ ?_
        refine W.eq (g2 := F0 m 32 ls (.int q4 :: [])) rfl ?_
        refine lv_if_eq (tgt := 81) hx hb dX12_touchedNow_32 (by decide) (fun h5 => ?_) (fun h5 => ?_)
        · have hf := o_t h5 hf
          refine lv_iconst (v := 0) hx hb dX12_touchedNow_81 (by decide) ?_
          refine lv_istore (lv' := [(7, .int 0), (6, .int z3), (5, .int z2), (4, .int y4), (3, .int y3), (2, .int y2), (0, .ref aM), (1, .int x1)]) hx hb dX12_touchedNow_82 hl (by decide) rfl (fun ls hl => ?_)
          refine lv_iload_n hx hb dX12_touchedNow_84 rfl (lv_at hl 5 rfl) ?_
          refine lv_iload hx hb dX12_touchedNow_85 (lv_at hl 0 rfl) ?_
          refine lv_if_eq (tgt := 94) hx hb dX12_touchedNow_87 (by decide) (fun _ => ?_) (fun h => absurd h (by decide))
          refine lv_iconst (v := 0) hx hb dX12_touchedNow_94 (by decide) ?_
          refine lv_iadd hx hb dX12_touchedNow_95 ?_
          refine lv_topi (fun z6 ez6 => ?_)
          have hf := o_bnd ez6 hf
          refine lv_istore_n (lv' := [(2, .int z6), (7, .int 0), (6, .int z3), (5, .int z2), (4, .int y4), (3, .int y3), (0, .ref aM), (1, .int x1)]) hx hb dX12_touchedNow_96 rfl hl (by decide) rfl (fun ls hl => ?_)
          refine lv_iload hx hb dX12_touchedNow_97 (lv_at hl 1 rfl) ?_
          refine lv_if_eq (tgt := 107) hx hb dX12_touchedNow_99 (by decide) (fun _ => ?_) (fun h => absurd h (by decide))
          refine lv_iload_n hx hb dX12_touchedNow_107 rfl (lv_at hl 5 rfl) ?_
          refine lv_istore_n (lv' := [(3, .int y3), (2, .int z6), (7, .int 0), (6, .int z3), (5, .int z2), (4, .int y4), (0, .ref aM), (1, .int x1)]) hx hb dX12_touchedNow_108 rfl hl (by decide) rfl (fun ls hl => ?_)
          obtain ⟨z7, ez7⟩ : ∃ y : Int32, y = y4 + (-1) := ⟨_, rfl⟩
          have hf := o_bnd ez7 hf
          refine lv_iinc (v := z7) (lv' := [(4, .int z7), (3, .int y3), (2, .int z6), (7, .int 0), (6, .int z3), (5, .int z2), (0, .ref aM), (1, .int x1)]) hx hb dX12_touchedNow_109 hl (k := 5) rfl (by rw [ez7]; rfl) (by decide) rfl (fun ls hl => ?_)
          refine lv_goto (tgt := 9) hx hb dX12_touchedNow_112 (by decide) ?_
          exact ih z7 y3 z6 w_v_stopsAt w_v_touchedBy _ hf _ _ ls hw (lv_sub hl [0, 1, 2, 6, 7] rfl) kx
        · have hf := o_f h5 hf
          refine lv_aload_n hx hb dX12_touchedNow_35 rfl (lv_at hl 5 rfl) ?_
          refine lv_iload hx hb dX12_touchedNow_36 (lv_at hl 0 rfl) ?_
          obtain ⟨q8, hq8, hf⟩ := o_bind hf
          refine k_rV F (c_X12_isBidder l g aM rM z3 v_halls v_bidders v_fall v_heard v_asks v_pageLength v_isWhole v_newMany v_seedNow v_isKept v_keptHall v_keptHeard v_h hq8) qv_X12_isBidder ml_X12_129 (hP.sub [0] rfl) hK (va_recv hK.1 hP (ci := 12) (q0 := 0) rfl rfl) rfl hl.1 rfl (Nat.le_of_ble_eq_true rfl) dX12_touchedNow_38 ⟨(Nat.le_of_ble_eq_true rfl), (Nat.le_of_ble_eq_true rfl)⟩ ⟨(Nat.le_of_ble_eq_true rfl), (Nat.le_of_ble_eq_true rfl)⟩ ?_
          refine W.eq (g2 := F0 m 41 ls (.int q8 :: [])) rfl ?_
          refine lv_if_eq (tgt := 81) hx hb dX12_touchedNow_41 (by decide) (fun h9 => ?_) (fun h9 => ?_)
          · have hf := o_t h9 hf
            refine lv_iconst (v := 0) hx hb dX12_touchedNow_81 (by decide) ?_
            refine lv_istore (lv' := [(7, .int 0), (6, .int z3), (5, .int z2), (4, .int y4), (3, .int y3), (2, .int y2), (0, .ref aM), (1, .int x1)]) hx hb dX12_touchedNow_82 hl (by decide) rfl (fun ls hl => ?_)
            refine lv_iload_n hx hb dX12_touchedNow_84 rfl (lv_at hl 5 rfl) ?_
            refine lv_iload hx hb dX12_touchedNow_85 (lv_at hl 0 rfl) ?_
            refine lv_if_eq (tgt := 94) hx hb dX12_touchedNow_87 (by decide) (fun _ => ?_) (fun h => absurd h (by decide))
            refine lv_iconst (v := 0) hx hb dX12_touchedNow_94 (by decide) ?_
            refine lv_iadd hx hb dX12_touchedNow_95 ?_
            refine lv_topi (fun z10 ez10 => ?_)
            have hf := o_bnd ez10 hf
            refine lv_istore_n (lv' := [(2, .int z10), (7, .int 0), (6, .int z3), (5, .int z2), (4, .int y4), (3, .int y3), (0, .ref aM), (1, .int x1)]) hx hb dX12_touchedNow_96 rfl hl (by decide) rfl (fun ls hl => ?_)
            refine lv_iload hx hb dX12_touchedNow_97 (lv_at hl 1 rfl) ?_
            refine lv_if_eq (tgt := 107) hx hb dX12_touchedNow_99 (by decide) (fun _ => ?_) (fun h => absurd h (by decide))
            refine lv_iload_n hx hb dX12_touchedNow_107 rfl (lv_at hl 5 rfl) ?_
            refine lv_istore_n (lv' := [(3, .int y3), (2, .int z10), (7, .int 0), (6, .int z3), (5, .int z2), (4, .int y4), (0, .ref aM), (1, .int x1)]) hx hb dX12_touchedNow_108 rfl hl (by decide) rfl (fun ls hl => ?_)
            obtain ⟨z11, ez11⟩ : ∃ y : Int32, y = y4 + (-1) := ⟨_, rfl⟩
            have hf := o_bnd ez11 hf
            refine lv_iinc (v := z11) (lv' := [(4, .int z11), (3, .int y3), (2, .int z10), (7, .int 0), (6, .int z3), (5, .int z2), (0, .ref aM), (1, .int x1)]) hx hb dX12_touchedNow_109 hl (k := 5) rfl (by rw [ez11]; rfl) (by decide) rfl (fun ls hl => ?_)
            refine lv_goto (tgt := 9) hx hb dX12_touchedNow_112 (by decide) ?_
            exact ih z11 y3 z10 w_v_stopsAt w_v_touchedBy _ hf _ _ ls hw (lv_sub hl [0, 1, 2, 6, 7] rfl) kx
          · have hf := o_f h9 hf
            refine lv_iload hx hb dX12_touchedNow_44 (lv_at hl 1 rfl) ?_
            refine lv_iload hx hb dX12_touchedNow_46 (lv_at hl 0 rfl) ?_
            refine lv_icmp_eq (tgt := 81) hx hb dX12_touchedNow_48 (by decide) (fun h12 => ?_) (fun h12 => ?_)
            · have hf := o_t h12 hf
              refine lv_iconst (v := 0) hx hb dX12_touchedNow_81 (by decide) ?_
              refine lv_istore (lv' := [(7, .int 0), (6, .int z3), (5, .int z2), (4, .int y4), (3, .int y3), (2, .int y2), (0, .ref aM), (1, .int x1)]) hx hb dX12_touchedNow_82 hl (by decide) rfl (fun ls hl => ?_)
              refine lv_iload_n hx hb dX12_touchedNow_84 rfl (lv_at hl 5 rfl) ?_
              refine lv_iload hx hb dX12_touchedNow_85 (lv_at hl 0 rfl) ?_
              refine lv_if_eq (tgt := 94) hx hb dX12_touchedNow_87 (by decide) (fun _ => ?_) (fun h => absurd h (by decide))
              refine lv_iconst (v := 0) hx hb dX12_touchedNow_94 (by decide) ?_
              refine lv_iadd hx hb dX12_touchedNow_95 ?_
              refine lv_topi (fun z13 ez13 => ?_)
              have hf := o_bnd ez13 hf
              refine lv_istore_n (lv' := [(2, .int z13), (7, .int 0), (6, .int z3), (5, .int z2), (4, .int y4), (3, .int y3), (0, .ref aM), (1, .int x1)]) hx hb dX12_touchedNow_96 rfl hl (by decide) rfl (fun ls hl => ?_)
              refine lv_iload hx hb dX12_touchedNow_97 (lv_at hl 1 rfl) ?_
              refine lv_if_eq (tgt := 107) hx hb dX12_touchedNow_99 (by decide) (fun _ => ?_) (fun h => absurd h (by decide))
              refine lv_iload_n hx hb dX12_touchedNow_107 rfl (lv_at hl 5 rfl) ?_
              refine lv_istore_n (lv' := [(3, .int y3), (2, .int z13), (7, .int 0), (6, .int z3), (5, .int z2), (4, .int y4), (0, .ref aM), (1, .int x1)]) hx hb dX12_touchedNow_108 rfl hl (by decide) rfl (fun ls hl => ?_)
              obtain ⟨z14, ez14⟩ : ∃ y : Int32, y = y4 + (-1) := ⟨_, rfl⟩
              have hf := o_bnd ez14 hf
              refine lv_iinc (v := z14) (lv' := [(4, .int z14), (3, .int y3), (2, .int z13), (7, .int 0), (6, .int z3), (5, .int z2), (0, .ref aM), (1, .int x1)]) hx hb dX12_touchedNow_109 hl (k := 5) rfl (by rw [ez14]; rfl) (by decide) rfl (fun ls hl => ?_)
              refine lv_goto (tgt := 9) hx hb dX12_touchedNow_112 (by decide) ?_
              exact ih z14 y3 z13 w_v_stopsAt w_v_touchedBy _ hf _ _ ls hw (lv_sub hl [0, 1, 2, 6, 7] rfl) kx
            · have hf := o_f h12 hf
              refine lv_aload_n hx hb dX12_touchedNow_51 rfl (lv_at hl 5 rfl) ?_
              refine w_get (ci := 12) F hK hP fb_X12 0 rfl rfl 8 (by decide) fl_X12_25 (fun _ h => h) rfl dX12_touchedNow_52 ?_
              refine lv_iload hx hb dX12_touchedNow_55 (lv_at hl 0 rfl) ?_
              obtain ⟨h15, hf⟩ := o_chk hf
              refine w_iald F hK hP 6 rfl h15 dX12_touchedNow_57 ?_
              refine lv_iload hx hb dX12_touchedNow_58 (lv_at hl 1 rfl) ?_
              obtain ⟨q16, hq16, hf⟩ := o_bind hf
              refine k_rS F (c_X12_has l g (w_v_touchedBy (Int32.toNatClampNeg z3)) z2 hq16) qs_X12_has ml_X12_104 (hP.sub [] rfl) hK rfl hl.1 rfl (Nat.le_of_ble_eq_true rfl) dX12_touchedNow_60 ⟨(Nat.le_of_ble_eq_true rfl), (Nat.le_of_ble_eq_true rfl)⟩ ⟨(Nat.le_of_ble_eq_true rfl), (Nat.le_of_ble_eq_true rfl)⟩ ?_
              refine W.eq (g2 := F0 m 63 ls (.int q16 :: [])) rfl ?_
              refine lv_if_ne (tgt := 81) hx hb dX12_touchedNow_63 (by decide) (fun h17 => ?_) (fun h17 => ?_)
              · have hf := o_f h17 hf
                refine lv_iconst (v := 0) hx hb dX12_touchedNow_81 (by decide) ?_
                refine lv_istore (lv' := [(7, .int 0), (6, .int z3), (5, .int z2), (4, .int y4), (3, .int y3), (2, .int y2), (0, .ref aM), (1, .int x1)]) hx hb dX12_touchedNow_82 hl (by decide) rfl (fun ls hl => ?_)
                refine lv_iload_n hx hb dX12_touchedNow_84 rfl (lv_at hl 5 rfl) ?_
                refine lv_iload hx hb dX12_touchedNow_85 (lv_at hl 0 rfl) ?_
                refine lv_if_eq (tgt := 94) hx hb dX12_touchedNow_87 (by decide) (fun _ => ?_) (fun h => absurd h (by decide))
                refine lv_iconst (v := 0) hx hb dX12_touchedNow_94 (by decide) ?_
                refine lv_iadd hx hb dX12_touchedNow_95 ?_
                refine lv_topi (fun z18 ez18 => ?_)
                have hf := o_bnd ez18 hf
                refine lv_istore_n (lv' := [(2, .int z18), (7, .int 0), (6, .int z3), (5, .int z2), (4, .int y4), (3, .int y3), (0, .ref aM), (1, .int x1)]) hx hb dX12_touchedNow_96 rfl hl (by decide) rfl (fun ls hl => ?_)
                refine lv_iload hx hb dX12_touchedNow_97 (lv_at hl 1 rfl) ?_
                refine lv_if_eq (tgt := 107) hx hb dX12_touchedNow_99 (by decide) (fun _ => ?_) (fun h => absurd h (by decide))
                refine lv_iload_n hx hb dX12_touchedNow_107 rfl (lv_at hl 5 rfl) ?_
                refine lv_istore_n (lv' := [(3, .int y3), (2, .int z18), (7, .int 0), (6, .int z3), (5, .int z2), (4, .int y4), (0, .ref aM), (1, .int x1)]) hx hb dX12_touchedNow_108 rfl hl (by decide) rfl (fun ls hl => ?_)
                obtain ⟨z19, ez19⟩ : ∃ y : Int32, y = y4 + (-1) := ⟨_, rfl⟩
                have hf := o_bnd ez19 hf
                refine lv_iinc (v := z19) (lv' := [(4, .int z19), (3, .int y3), (2, .int z18), (7, .int 0), (6, .int z3), (5, .int z2), (0, .ref aM), (1, .int x1)]) hx hb dX12_touchedNow_109 hl (k := 5) rfl (by rw [ez19]; rfl) (by decide) rfl (fun ls hl => ?_)
                refine lv_goto (tgt := 9) hx hb dX12_touchedNow_112 (by decide) ?_
                exact ih z19 y3 z18 w_v_stopsAt w_v_touchedBy _ hf _ _ ls hw (lv_sub hl [0, 1, 2, 6, 7] rfl) kx
              · have hf := o_t h17 hf
                refine lv_aload_n hx hb dX12_touchedNow_66 rfl (lv_at hl 5 rfl) ?_
                refine lv_iload hx hb dX12_touchedNow_67 (lv_at hl 1 rfl) ?_
                refine lv_iload hx hb dX12_touchedNow_69 (lv_at hl 0 rfl) ?_
                obtain ⟨q20, hq20, hf⟩ := o_bind hf
                refine k_dV (wr := []) (ws' := [ob aM 12 (oM rM v_halls v_bidders v_fall v_heard v_asks v_pageLength v_isWhole v_newMany v_seedNow v_isKept v_keptHall v_keptHeard v_h), ia g (rM 7) 5 v_choiceOf, ia g (rM 10) 8 v_heardBidder, ia g (rM 11) 8 v_heardBreath, ia g (rM 3) 5 v_kindOf, ia g (rM 17) 5 q20.2.1, ia g (rM 8) 5 q20.2.2, ia g (rM 4) 5 v_windOf]) F (c_X12_isTouch l g aM rM z2 z3 v_halls v_bidders v_fall v_heard v_asks v_pageLength v_isWhole v_newMany v_seedNow v_isKept v_keptHall v_keptHeard v_h v_choiceOf v_heardBidder v_heardBreath v_kindOf w_v_stopsAt w_v_touchedBy v_windOf hq20) qv_X12_isTouch ml_X12_174 hw hA hK [0, 1, 2, 3, 4, 5, 6, 7] [] [0, 1, 2, 3, 4, 5, 6, 7] rfl rfl rfl rfl rfl (by decide) rfl rfl rfl (va_recv hK.1 hP (ci := 12) (q0 := 0) rfl rfl) rfl hl.1 rfl (Nat.le_of_ble_eq_true rfl) dX12_touchedNow_71 ⟨(Nat.le_of_ble_eq_true rfl), (Nat.le_of_ble_eq_true rfl)⟩ ⟨(Nat.le_of_ble_eq_true rfl), (Nat.le_of_ble_eq_true rfl)⟩ (fun H locs hw => ?_)
                have hP := hw.1
                refine W.eq (g2 := F0 m 74 ls (.int q20.1 :: [])) rfl ?_
                refine lv_if_eq (tgt := 81) hx hb dX12_touchedNow_74 (by decide) (fun h21 => ?_) (fun h21 => ?_)
                · have hf := o_t h21 hf
                  refine lv_iconst (v := 0) hx hb dX12_touchedNow_81 (by decide) ?_
                  refine lv_istore (lv' := [(7, .int 0), (6, .int z3), (5, .int z2), (4, .int y4), (3, .int y3), (2, .int y2), (0, .ref aM), (1, .int x1)]) hx hb dX12_touchedNow_82 hl (by decide) rfl (fun ls hl => ?_)
                  refine lv_iload_n hx hb dX12_touchedNow_84 rfl (lv_at hl 5 rfl) ?_
                  refine lv_iload hx hb dX12_touchedNow_85 (lv_at hl 0 rfl) ?_
                  refine lv_if_eq (tgt := 94) hx hb dX12_touchedNow_87 (by decide) (fun _ => ?_) (fun h => absurd h (by decide))
                  refine lv_iconst (v := 0) hx hb dX12_touchedNow_94 (by decide) ?_
                  refine lv_iadd hx hb dX12_touchedNow_95 ?_
                  refine lv_topi (fun z22 ez22 => ?_)
                  have hf := o_bnd ez22 hf
                  refine lv_istore_n (lv' := [(2, .int z22), (7, .int 0), (6, .int z3), (5, .int z2), (4, .int y4), (3, .int y3), (0, .ref aM), (1, .int x1)]) hx hb dX12_touchedNow_96 rfl hl (by decide) rfl (fun ls hl => ?_)
                  refine lv_iload hx hb dX12_touchedNow_97 (lv_at hl 1 rfl) ?_
                  refine lv_if_eq (tgt := 107) hx hb dX12_touchedNow_99 (by decide) (fun _ => ?_) (fun h => absurd h (by decide))
                  refine lv_iload_n hx hb dX12_touchedNow_107 rfl (lv_at hl 5 rfl) ?_
                  refine lv_istore_n (lv' := [(3, .int y3), (2, .int z22), (7, .int 0), (6, .int z3), (5, .int z2), (4, .int y4), (0, .ref aM), (1, .int x1)]) hx hb dX12_touchedNow_108 rfl hl (by decide) rfl (fun ls hl => ?_)
                  obtain ⟨z23, ez23⟩ : ∃ y : Int32, y = y4 + (-1) := ⟨_, rfl⟩
                  have hf := o_bnd ez23 hf
                  refine lv_iinc (v := z23) (lv' := [(4, .int z23), (3, .int y3), (2, .int z22), (7, .int 0), (6, .int z3), (5, .int z2), (0, .ref aM), (1, .int x1)]) hx hb dX12_touchedNow_109 hl (k := 5) rfl (by rw [ez23]; rfl) (by decide) rfl (fun ls hl => ?_)
                  refine lv_goto (tgt := 9) hx hb dX12_touchedNow_112 (by decide) ?_
                  exact ih z23 y3 z22 q20.2.1 q20.2.2 _ hf _ _ ls hw (lv_sub hl [0, 1, 2, 6, 7] rfl) kx
                · have hf := o_f h21 hf
                  refine lv_iconst (v := 1) hx hb dX12_touchedNow_77 (by decide) ?_
                  refine lv_goto (tgt := 82) hx hb dX12_touchedNow_78 (by decide) ?_
                  refine lv_istore (lv' := [(7, .int 1), (6, .int z3), (5, .int z2), (4, .int y4), (3, .int y3), (2, .int y2), (0, .ref aM), (1, .int x1)]) hx hb dX12_touchedNow_82 hl (by decide) rfl (fun ls hl => ?_)
                  refine lv_iload_n hx hb dX12_touchedNow_84 rfl (lv_at hl 5 rfl) ?_
                  refine lv_iload hx hb dX12_touchedNow_85 (lv_at hl 0 rfl) ?_
                  refine lv_if_eq (tgt := 94) hx hb dX12_touchedNow_87 (by decide) (fun h => absurd h (by decide)) (fun _ => ?_)
                  refine lv_iconst (v := 1) hx hb dX12_touchedNow_90 (by decide) ?_
                  refine lv_goto (tgt := 95) hx hb dX12_touchedNow_91 (by decide) ?_
                  refine lv_iadd hx hb dX12_touchedNow_95 ?_
                  refine lv_topi (fun z24 ez24 => ?_)
                  have hf := o_bnd ez24 hf
                  refine lv_istore_n (lv' := [(2, .int z24), (7, .int 1), (6, .int z3), (5, .int z2), (4, .int y4), (3, .int y3), (0, .ref aM), (1, .int x1)]) hx hb dX12_touchedNow_96 rfl hl (by decide) rfl (fun ls hl => ?_)
                  refine lv_iload hx hb dX12_touchedNow_97 (lv_at hl 1 rfl) ?_
                  refine lv_if_eq (tgt := 107) hx hb dX12_touchedNow_99 (by decide) (fun h => absurd h (by decide)) (fun _ => ?_)
                  refine lv_iload hx hb dX12_touchedNow_102 (lv_at hl 4 rfl) ?_
                  refine lv_goto (tgt := 108) hx hb dX12_touchedNow_104 (by decide) ?_
                  refine lv_istore_n (lv' := [(3, .int y4), (2, .int z24), (7, .int 1), (6, .int z3), (5, .int z2), (4, .int y4), (0, .ref aM), (1, .int x1)]) hx hb dX12_touchedNow_108 rfl hl (by decide) rfl (fun ls hl => ?_)
                  obtain ⟨z25, ez25⟩ : ∃ y : Int32, y = y4 + (-1) := ⟨_, rfl⟩
                  have hf := o_bnd ez25 hf
                  refine lv_iinc (v := z25) (lv' := [(4, .int z25), (3, .int y4), (2, .int z24), (7, .int 1), (6, .int z3), (5, .int z2), (0, .ref aM), (1, .int x1)]) hx hb dX12_touchedNow_109 hl (k := 5) rfl (by rw [ez25]; rfl) (by decide) rfl (fun ls hl => ?_)
                  refine lv_goto (tgt := 9) hx hb dX12_touchedNow_112 (by decide) ?_
                  exact ih z25 y4 z24 q20.2.1 q20.2.2 _ hf _ _ ls hw (lv_sub hl [0, 1, 2, 6, 7] rfl) kx
  unfold f_X12_touchedNow at hf
  refine lv_iconst (v := 0) hx hb dX12_touchedNow_0 (by decide) ?_
  refine lv_istore_n (lv' := [(2, .int 0), (0, .ref aM), (1, .int x1)]) hx hb dX12_touchedNow_1 rfl hl (by decide) rfl (fun ls hl => ?_)
  refine lv_bipush (v := (-2)) hx hb dX12_touchedNow_2 (by decide) ?_
  refine lv_istore_n (lv' := [(3, .int (-2)), (2, .int 0), (0, .ref aM), (1, .int x1)]) hx hb dX12_touchedNow_4 rfl hl (by decide) rfl (fun ls hl => ?_)
  refine lv_bipush (v := 24) hx hb dX12_touchedNow_5 (by decide) ?_
  refine lv_istore (lv' := [(4, .int 24), (3, .int (-2)), (2, .int 0), (0, .ref aM), (1, .int x1)]) hx hb dX12_touchedNow_7 hl (by decide) rfl (fun ls hl => ?_)
  obtain ⟨q26, hq26, hf⟩ := o_bind hf
  refine L9 _ 24 (-2) 0 v_stopsAt v_touchedBy _ hq26 _ _ ls hw (lv_sub hl [0, 1, 2, 3, 4] rfl) (fun H locs ls hw hl => ?_)
  have hP := hw.1
  refine lv_aload_n hx hb dX12_touchedNow_115 rfl (lv_at hl 3 rfl) ?_
  refine lv_iconst (v := (-1)) hx hb dX12_touchedNow_116 (by decide) ?_
  obtain ⟨q27, hq27, hf⟩ := o_bind hf
  refine k_dV (wr := []) (ws' := [ob aM 12 (oM rM v_halls v_bidders v_fall v_heard v_asks v_pageLength v_isWhole v_newMany v_seedNow v_isKept v_keptHall v_keptHeard v_h), ia g (rM 7) 5 v_choiceOf, ia g (rM 10) 8 v_heardBidder, ia g (rM 11) 8 v_heardBreath, ia g (rM 3) 5 v_kindOf, ia g (rM 17) 5 q27.2, ia g (rM 8) 5 q26.2.2.2.2, ia g (rM 4) 5 v_windOf]) F (c_X12_isHeard l g aM rM (-1) v_halls v_bidders v_fall v_heard v_asks v_pageLength v_isWhole v_newMany v_seedNow v_isKept v_keptHall v_keptHeard v_h v_choiceOf v_heardBidder v_heardBreath v_kindOf q26.2.2.2.1 q26.2.2.2.2 v_windOf hq27) qv_X12_isHeard ml_X12_168 hw hA hK [0, 1, 2, 3, 4, 5, 6, 7] [] [0, 1, 2, 3, 4, 5, 6, 7] rfl rfl rfl rfl rfl (by decide) rfl rfl rfl (va_recv hK.1 hP (ci := 12) (q0 := 0) rfl rfl) rfl hl.1 rfl (Nat.le_of_ble_eq_true rfl) dX12_touchedNow_117 ⟨(Nat.le_of_ble_eq_true rfl), (Nat.le_of_ble_eq_true rfl)⟩ ⟨(Nat.le_of_ble_eq_true rfl), (Nat.le_of_ble_eq_true rfl)⟩ (fun H locs hw => ?_)
  have hP := hw.1
  refine W.eq (g2 := F0 m 120 ls (.int q27.1 :: [])) rfl ?_
  refine lv_istore (lv' := [(4, .int q27.1), (3, .int q26.2.1), (2, .int q26.2.2.1), (0, .ref aM), (1, .int x1)]) hx hb dX12_touchedNow_120 hl (by decide) rfl (fun ls hl => ?_)
  refine lv_iload_n hx hb dX12_touchedNow_122 rfl (lv_at hl 4 rfl) ?_
  refine lv_if_ne (tgt := 141) hx hb dX12_touchedNow_123 (by decide) (fun h28 => ?_) (fun h28 => ?_)
  · have hf := o_f h28 hf
    refine lv_iload hx hb dX12_touchedNow_141 (lv_at hl 0 rfl) ?_
    refine lv_if_eq (tgt := 150) hx hb dX12_touchedNow_143 (by decide) (fun h29 => ?_) (fun h29 => ?_)
    · have hf := o_t h29 hf
      refine lv_iload_n hx hb dX12_touchedNow_150 rfl (lv_at hl 1 rfl) ?_
      cases hf
      exact r_ci F hQ ⟨rfl, rfl⟩ hw dX12_touchedNow_151
    · have hf := o_f h29 hf
      refine lv_iconst (v := (-1)) hx hb dX12_touchedNow_146 (by decide) ?_
      refine lv_goto (tgt := 151) hx hb dX12_touchedNow_147 (by decide) ?_
      cases hf
      exact r_ci F hQ ⟨rfl, rfl⟩ hw dX12_touchedNow_151
  · have hf := o_t h28 hf
    refine lv_iload_n hx hb dX12_touchedNow_126 rfl (lv_at hl 2 rfl) ?_
    refine lv_iload hx hb dX12_touchedNow_127 (lv_at hl 0 rfl) ?_
    refine lv_if_eq (tgt := 136) hx hb dX12_touchedNow_129 (by decide) (fun h30 => ?_) (fun h30 => ?_)
    · have hf := o_t h30 hf
      refine lv_iconst (v := 0) hx hb dX12_touchedNow_136 (by decide) ?_
      refine lv_iadd hx hb dX12_touchedNow_137 ?_
      refine lv_goto (tgt := 151) hx hb dX12_touchedNow_138 (by decide) ?_
      cases hf
      exact r_ci F hQ ⟨rfl, rfl⟩ hw dX12_touchedNow_151
    · have hf := o_f h30 hf
      refine lv_iconst (v := 1) hx hb dX12_touchedNow_132 (by decide) ?_
      refine lv_goto (tgt := 137) hx hb dX12_touchedNow_133 (by decide) ?_
      refine lv_iadd hx hb dX12_touchedNow_137 ?_
      refine lv_goto (tgt := 151) hx hb dX12_touchedNow_138 (by decide) ?_
      cases hf
      exact r_ci F hQ ⟨rfl, rfl⟩ hw dX12_touchedNow_151
def f_X12_touched (x1 : Int32) (v_bidders : Int32) (v_choiceOf : Nat → Int32) (v_heard : Int32) (v_heardBidder : Nat → Int32) (v_heardBreath : Nat → Int32) (v_kindOf : Nat → Int32) (v_stopsAt : Nat → Int32) (v_touchedBy : Nat → Int32) (v_windOf : Nat → Int32) : Option (Int32 × (Nat → Int32) × (Nat → Int32)) := ((f_X12_within x1 0 1).bind fun q1 => (if q1 = 0 then (some ((-102), v_stopsAt, v_touchedBy)) else (if v_bidders = 0 then (some ((-103), v_stopsAt, v_touchedBy)) else ((f_X12_touchedNow x1 v_bidders v_choiceOf v_heard v_heardBidder v_heardBreath v_kindOf v_stopsAt v_touchedBy v_windOf).bind fun q4 => (some (q4.1, q4.2.1, q4.2.2))))))
set_option maxRecDepth 100000 in
set_option maxHeartbeats 4000000 in
theorem c_X12_touched (l : Launch) (g : GG) (aM : Nat) (rM : Nat → Nat) (x1 : Int32) (v_halls : Int32) (v_bidders : Int32) (v_fall : Int32) (v_heard : Int32) (v_asks : Int32) (v_pageLength : Int32) (v_isWhole : Int32) (v_newMany : Int32) (v_seedNow : Int64) (v_isKept : Int32) (v_keptHall : Int32) (v_keptHeard : Int32) (v_h : Int64) (v_choiceOf : Nat → Int32) (v_heardBidder : Nat → Int32) (v_heardBreath : Nat → Int32) (v_kindOf : Nat → Int32) (v_stopsAt : Nat → Int32) (v_touchedBy : Nat → Int32) (v_windOf : Nat → Int32) {r0 : Int32} {r1 : Nat → Int32} {r2 : Nat → Int32} (hf : f_X12_touched x1 v_bidders v_choiceOf v_heard v_heardBidder v_heardBreath v_kindOf v_stopsAt v_touchedBy v_windOf = some (r0, r1, r2)) : MD l g yX12_touched cX12_touched 2 (some .int) 5 122 [.ref aM, .int x1] [ob aM 12 (oM rM v_halls v_bidders v_fall v_heard v_asks v_pageLength v_isWhole v_newMany v_seedNow v_isKept v_keptHall v_keptHeard v_h), ia g (rM 7) 5 v_choiceOf, ia g (rM 10) 8 v_heardBidder, ia g (rM 11) 8 v_heardBreath, ia g (rM 3) 5 v_kindOf, ia g (rM 17) 5 v_stopsAt, ia g (rM 8) 5 v_touchedBy, ia g (rM 4) 5 v_windOf] (some (.int r0)) [ob aM 12 (oM rM v_halls v_bidders v_fall v_heard v_asks v_pageLength v_isWhole v_newMany v_seedNow v_isKept v_keptHall v_keptHeard v_h), ia g (rM 7) 5 v_choiceOf, ia g (rM 10) 8 v_heardBidder, ia g (rM 11) 8 v_heardBreath, ia g (rM 3) 5 v_kindOf, ia g (rM 17) 5 r1, ia g (rM 8) 5 r2, ia g (rM 4) 5 v_windOf] := by
  refine MC.mk (by decide) (Nat.le_of_ble_eq_true rfl) ?_
  intro p e s m args below meth c ls Q A F hnm hK hw hA hl hQ
  have hP := hw.1
  have hx := F.1
  have hb := F.2.1
  have hml := F.2.2.2.1
  have hown := F.2.2.2.2.1
  have hts := F.2.2.2.2.2.1
  have hl : lv_has ls 2 [(0, .ref aM), (1, .int x1)] := hl
  unfold f_X12_touched at hf
  refine lv_iload_n hx hb dX12_touched_0 rfl (lv_at hl 1 rfl) ?_
  refine lv_iconst (v := 0) hx hb dX12_touched_1 (by decide) ?_
  refine lv_iconst (v := 1) hx hb dX12_touched_2 (by decide) ?_
  obtain ⟨q1, hq1, hf⟩ := o_bind hf
  refine k_rS F (c_X12_within l g x1 0 1 hq1) qs_X12_within ml_X12_59 (hP.sub [] rfl) hK rfl hl.1 rfl (Nat.le_of_ble_eq_true rfl) dX12_touched_3 ⟨(Nat.le_of_ble_eq_true rfl), (Nat.le_of_ble_eq_true rfl)⟩ ⟨(Nat.le_of_ble_eq_true rfl), (Nat.le_of_ble_eq_true rfl)⟩ ?_
  refine W.eq (g2 := F0 m 6 ls (.int q1 :: [])) rfl ?_
  refine lv_if_ne (tgt := 12) hx hb dX12_touched_6 (by decide) (fun h2 => ?_) (fun h2 => ?_)
  · have hf := o_f h2 hf
    refine lv_aload_n hx hb dX12_touched_12 rfl (lv_at hl 0 rfl) ?_
    refine w_get (ci := 12) F hK hP fb_X12 0 rfl rfl 1 (by decide) fl_X12_89 (fun _ h => h) rfl dX12_touched_13 ?_
    refine lv_if_ne (tgt := 24) hx hb dX12_touched_16 (by decide) (fun h3 => ?_) (fun h3 => ?_)
    · have hf := o_f h3 hf
      refine lv_aload_n hx hb dX12_touched_24 rfl (lv_at hl 0 rfl) ?_
      refine lv_iload_n hx hb dX12_touched_25 rfl (lv_at hl 1 rfl) ?_
      obtain ⟨q4, hq4, hf⟩ := o_bind hf
      refine k_dV (wr := []) (ws' := [ob aM 12 (oM rM v_halls v_bidders v_fall v_heard v_asks v_pageLength v_isWhole v_newMany v_seedNow v_isKept v_keptHall v_keptHeard v_h), ia g (rM 7) 5 v_choiceOf, ia g (rM 10) 8 v_heardBidder, ia g (rM 11) 8 v_heardBreath, ia g (rM 3) 5 v_kindOf, ia g (rM 17) 5 q4.2.1, ia g (rM 8) 5 q4.2.2, ia g (rM 4) 5 v_windOf]) F (c_X12_touchedNow l g aM rM x1 v_halls v_bidders v_fall v_heard v_asks v_pageLength v_isWhole v_newMany v_seedNow v_isKept v_keptHall v_keptHeard v_h v_choiceOf v_heardBidder v_heardBreath v_kindOf v_stopsAt v_touchedBy v_windOf hq4) qv_X12_touchedNow ml_X12_177 hw hA hK [0, 1, 2, 3, 4, 5, 6, 7] [] [0, 1, 2, 3, 4, 5, 6, 7] rfl rfl rfl rfl rfl (by decide) rfl rfl rfl (va_recv hK.1 hP (ci := 12) (q0 := 0) rfl rfl) rfl hl.1 rfl (Nat.le_of_ble_eq_true rfl) dX12_touched_26 ⟨(Nat.le_of_ble_eq_true rfl), (Nat.le_of_ble_eq_true rfl)⟩ ⟨(Nat.le_of_ble_eq_true rfl), (Nat.le_of_ble_eq_true rfl)⟩ (fun H locs hw => ?_)
      have hP := hw.1
      refine W.eq (g2 := F0 m 29 ls (.int q4.1 :: [])) rfl ?_
      cases hf
      exact r_ci F hQ ⟨rfl, rfl⟩ hw dX12_touched_29
    · have hf := o_t h3 hf
      refine lv_bipush (v := (-103)) hx hb dX12_touched_19 (by decide) ?_
      refine lv_goto (tgt := 29) hx hb dX12_touched_21 (by decide) ?_
      cases hf
      exact r_ci F hQ ⟨rfl, rfl⟩ hw dX12_touched_29
  · have hf := o_t h2 hf
    refine lv_bipush (v := (-102)) hx hb dX12_touched_9 (by decide) ?_
    cases hf
    exact r_ci F hQ ⟨rfl, rfl⟩ hw dX12_touched_11
def f_X12_draw (x1 : Int32) (v_seedNow : Int64) : Option (Int32 × Int64) := (bnd (((1103515245 * v_seedNow) + 12345) &&& 2147483647) fun z1 => (if (Int32.toInt64 x1) = 0 then none else (some ((Int64.toInt32 ((z1 / 65536) - (z1 / 65536) / (Int32.toInt64 x1) * (Int32.toInt64 x1))), z1))))
set_option maxRecDepth 100000 in
set_option maxHeartbeats 4000000 in
theorem c_X12_draw (l : Launch) (g : GG) (aM : Nat) (rM : Nat → Nat) (x1 : Int32) (v_halls : Int32) (v_bidders : Int32) (v_fall : Int32) (v_heard : Int32) (v_asks : Int32) (v_pageLength : Int32) (v_isWhole : Int32) (v_newMany : Int32) (v_seedNow : Int64) (v_isKept : Int32) (v_keptHall : Int32) (v_keptHeard : Int32) (v_h : Int64) {r0 : Int32} {r1 : Int64} (hf : f_X12_draw x1 v_seedNow = some (r0, r1)) : MD l g yX12_draw cX12_draw 2 (some .int) 0 0 [.ref aM, .int x1] [ob aM 12 (oM rM v_halls v_bidders v_fall v_heard v_asks v_pageLength v_isWhole v_newMany v_seedNow v_isKept v_keptHall v_keptHeard v_h)] (some (.int r0)) [ob aM 12 (oM rM v_halls v_bidders v_fall v_heard v_asks v_pageLength v_isWhole v_newMany r1 v_isKept v_keptHall v_keptHeard v_h)] := by
  refine MC.mk (by decide) (Nat.le_of_ble_eq_true rfl) ?_
  intro p e s m args below meth c ls Q A F hnm hK hw hA hl hQ
  have hP := hw.1
  have hx := F.1
  have hb := F.2.1
  have hml := F.2.2.2.1
  have hown := F.2.2.2.2.1
  have hts := F.2.2.2.2.2.1
  have hl : lv_has ls 2 [(0, .ref aM), (1, .int x1)] := hl
  unfold f_X12_draw at hf
  refine lv_aload_n hx hb dX12_draw_0 rfl (lv_at hl 0 rfl) ?_
  refine lv_ldc2 (v := 1103515245) hx hb hown (hts _ kc_X12_180) dX12_draw_1 ?_
  refine lv_aload_n hx hb dX12_draw_4 rfl (lv_at hl 0 rfl) ?_
  refine w_get (ci := 12) F hK hP fb_X12 0 rfl rfl 19 (by decide) fl_X12_182 (fun _ h => h) rfl dX12_draw_5 ?_
  refine lv_lmul hx hb dX12_draw_8 ?_
  refine lv_ldc2 (v := 12345) hx hb hown (hts _ kc_X12_186) dX12_draw_9 ?_
  refine lv_ladd hx hb dX12_draw_12 ?_
  refine lv_ldc2 (v := 2147483647) hx hb hown (hts _ kc_X12_188) dX12_draw_13 ?_
  refine lv_land hx hb dX12_draw_16 ?_
  refine lv_topl (fun z1 ez1 => ?_)
  have hf := o_bnd ez1 hf
  refine w_put (ci := 12) (ws' := [ob aM 12 (oM rM v_halls v_bidders v_fall v_heard v_asks v_pageLength v_isWhole v_newMany z1 v_isKept v_keptHall v_keptHeard v_h)]) F hK hw fb_X12 0 rfl rfl 19 (by decide) fl_X12_182 (fun _ h => h) rfl rfl rfl rfl (Nat.le_of_ble_eq_true rfl) rfl dX12_draw_17 (fun H locs hw => ?_)
  have hP := hw.1
  refine lv_aload_n hx hb dX12_draw_20 rfl (lv_at hl 0 rfl) ?_
  refine w_get (ci := 12) F hK hP fb_X12 0 rfl rfl 19 (by decide) fl_X12_182 (fun _ h => h) rfl dX12_draw_21 ?_
  refine lv_ldc2 (v := 65536) hx hb hown (hts _ kc_X12_190) dX12_draw_24 ?_
  refine lv_ldiv hx hb dX12_draw_27 (by decide) ?_
  refine lv_iload_n hx hb dX12_draw_28 rfl (lv_at hl 1 rfl) ?_
  refine lv_i2l hx hb dX12_draw_29 rfl ?_
  obtain ⟨h2, hf⟩ := o_chk hf
  refine lv_lrem hx hb dX12_draw_30 h2 ?_
  refine lv_l2i hx hb dX12_draw_31 rfl ?_
  cases hf
  exact r_ci F hQ ⟨rfl, rfl⟩ hw dX12_draw_32
