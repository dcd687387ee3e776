theorem w_aast {p : Program} {l : Launch} {e : Env} {R : Room} {s : State} {m : MethodId} {args : Array Value} {below : List Frame} {meth : Method} {c : Code} {H H0 : Heap} {locs : List Loc} {cells slots pc nL : Nat} {Q : State → Prop} {ls : Array Slot} {rest : List Value} {cc : ByteArray} {A : Nat → Prop} {ws ws' : va_W} {a v : Nat} {g : GG} {own : String} {rt : Option FieldType} {fs : List Value} (F : CX p s m args meth c cc rt nL own) (hK : KK g s) (hw : WD g A H0 ws H locs) (q0 qk : Nat) {n : Nat} {f : Nat → Option Nat} (ha : ws[q0]? = some (a, .inl (g.2.2.2, n, .inr (.inr (.inr (.inr f)))))) (hv : ws[qk]? = some (v, .inr (0, fs))) {i : Int32} (hin : ¬ (i < 0 ∨ n ≤ i.toNatClampNeg)) (hws : ws.set q0 (a, .inl (g.2.2.2, n, .inr (.inr (.inr (.inr (va_up f i.toNatClampNeg (some v))))))) = ws') (hd : decode cc pc = .ok (.aastore, 1))
    (kk : ∀ (H1 : Heap) (locs1 : List Loc), WD g A H0 ws' H1 locs1 → W p l e R s m args below meth c H1 locs1 cells slots Q (F0 m (pc + 1) ls rest)) : W p l e R s m args below meth c H locs cells slots Q (F0 m pc ls (.ref v :: .int i :: .ref a :: rest)) := by
  subst hws
  exact va_astq (r := (RX0, TX0, 5)) F.1 F.2.1 hK.1 hw.1 hw.2.1 hw.2.2 q0 2 qk 0 ha rfl hv rfl hin hd (fun H1 locs1 a1 a2 a3 => kk H1 locs1 ⟨a1, a2, a3⟩)
theorem qi_X0_init : QI yX0_init cX0_init 4 3 := ⟨(by decide +kernel), im_X0_init, in_X0, co_X0_init, rfl⟩
set_option maxRecDepth 100000 in
set_option maxHeartbeats 4000000 in
theorem c_X0_init (l : Launch) (g : GG) (a : Nat) (kd : Nat) (x1 : Int32) (x2 : Int32) (x3 : Int32) (h5 : kd < 5) : MC l g yX0_init cX0_init 4 none 1 12 0 0 [.ref a, .int x1, .int x2, .int x3] [ob a kd [.int 0, .int 0, .int 0, .int 0, .int 0]] (fun v w1 => v = none ∧ w1 = [ob a kd [.int x2, .int x3, .int x1, .int (-1), .int 0]]) := by
  refine MC.mk (by decide) (Nat.le_of_ble_eq_true rfl) ?_
  intro p e s m args below meth c ls Q A F hnm hK hw hA hl hQ
  have hx := F.1
  have hb := F.2.1
  have hml := F.2.2.2.1
  have hown := F.2.2.2.2.1
  have hts := F.2.2.2.2.2.1
  have hl : lv_has ls 4 [(0, .ref a), (1, .int x1), (2, .int x2), (3, .int x3)] := hl
  obtain ⟨C, hc, fb⟩ := kd_fb h5
  refine lv_aload_n hx hb dX0_init_0 rfl (lv_at hl 0 rfl) ?_
  refine w_obj F ml_X0_3 hl.1 dX0_init_1 (Nat.le_of_ble_eq_true rfl) (Nat.le_of_ble_eq_true rfl) ?_
  refine lv_aload_n hx hb dX0_init_4 rfl (lv_at hl 0 rfl) ?_
  refine lv_iconst (v := (-1)) hx hb dX0_init_5 (by decide) ?_
  refine w_put (ci := kd) (ws' := [ob a kd [.int 0, .int 0, .int 0, .int (-1), .int 0]]) F hK hw fb 0 rfl hc 3 (by decide) fl_X0_9 (fun _ h => h) rfl rfl rfl rfl (Nat.le_of_ble_eq_true rfl) rfl dX0_init_6 (fun H locs hw => ?_)
  refine lv_aload_n hx hb dX0_init_9 rfl (lv_at hl 0 rfl) ?_
  refine lv_iload_n hx hb dX0_init_10 rfl (lv_at hl 1 rfl) ?_
  refine w_put (ci := kd) (ws' := [ob a kd [.int 0, .int 0, .int x1, .int (-1), .int 0]]) F hK hw fb 0 rfl hc 2 (by decide) fl_X0_15 (fun _ h => h) rfl rfl rfl rfl (Nat.le_of_ble_eq_true rfl) rfl dX0_init_11 (fun H locs hw => ?_)
  refine lv_aload_n hx hb dX0_init_14 rfl (lv_at hl 0 rfl) ?_
  refine lv_iload_n hx hb dX0_init_15 rfl (lv_at hl 2 rfl) ?_
  refine w_putF (ci := kd) (ws' := [ob a kd [.int x2, .int 0, .int x1, .int (-1), .int 0]]) F hnm hK hw fb 0 rfl hc 0 (by decide) fl_X0_18 (fun _ h => h) rfl rfl rfl rfl rfl (Nat.le_of_ble_eq_true rfl) rfl dX0_init_16 (fun H locs hw => ?_)
  refine lv_aload_n hx hb dX0_init_19 rfl (lv_at hl 0 rfl) ?_
  refine lv_iload_n hx hb dX0_init_20 rfl (lv_at hl 3 rfl) ?_
  refine w_putF (ci := kd) (ws' := [ob a kd [.int x2, .int x3, .int x1, .int (-1), .int 0]]) F hnm hK hw fb 0 rfl hc 1 (by decide) fl_X0_21 (fun _ h => h) rfl rfl rfl rfl rfl (Nat.le_of_ble_eq_true rfl) rfl dX0_init_21 (fun H locs hw => ?_)
  have hw := hw
  refine W.widen (k := 0) (n := 0) (Nat.le_of_ble_eq_true rfl) (Nat.le_of_ble_eq_true rfl) ?_
  exact r_cv F hQ ⟨rfl, rfl⟩ hw dX0_init_24
theorem qi_X10_init : QI yX10_init cX10_init 4 3 := ⟨(by decide +kernel), im_X10_init, in_X10, co_X10_init, rfl⟩
set_option maxRecDepth 100000 in
set_option maxHeartbeats 4000000 in
theorem c_X10_init (l : Launch) (g : GG) (a : Nat) (kd : Nat) (x1 : Int32) (x2 : Int32) (x3 : Int32) (h5 : kd < 5) : MC l g yX10_init cX10_init 4 none 2 35 0 0 [.ref a, .int x1, .int x2, .int x3] [ob a kd [.int 0, .int 0, .int 0, .int 0, .int 0]] (fun v w1 => v = none ∧ w1 = [ob a kd [.int x2, .int x3, .int x1, .int (-1), .int 0]]) := by
  refine MC.mk (by decide) (Nat.le_of_ble_eq_true rfl) ?_
  intro p e s m args below meth c ls Q A F hnm hK hw hA hl hQ
  have hx := F.1
  have hb := F.2.1
  have hml := F.2.2.2.1
  have hown := F.2.2.2.2.1
  have hts := F.2.2.2.2.2.1
  have hl : lv_has ls 4 [(0, .ref a), (1, .int x1), (2, .int x2), (3, .int x3)] := hl
  obtain ⟨C, hc, fb⟩ := kd_fb h5
  refine lv_aload_n hx hb dX10_init_0 rfl (lv_at hl 0 rfl) ?_
  refine lv_iload_n hx hb dX10_init_1 rfl (lv_at hl 1 rfl) ?_
  refine lv_iload_n hx hb dX10_init_2 rfl (lv_at hl 2 rfl) ?_
  refine lv_iload_n hx hb dX10_init_3 rfl (lv_at hl 3 rfl) ?_
  refine k_cI (wr := []) F (c_X0_init l g a kd x1 x2 x3 h5) qi_X0_init ml_X10_1 hw hA hK [0] [] rfl rfl rfl rfl rfl (by decide) rfl hl.1 rfl (Nat.le_of_ble_eq_true rfl) dX10_init_4 ⟨(Nat.le_of_ble_eq_true rfl), (Nat.le_of_ble_eq_true rfl)⟩ ⟨(Nat.le_of_ble_eq_true rfl), (Nat.le_of_ble_eq_true rfl)⟩ (fun v w1 H locs hpo hw => ?_)
  obtain ⟨rfl, rfl⟩ := hpo
  have hw : WD g A s.heap [ob a kd [.int x2, .int x3, .int x1, .int (-1), .int 0]] H locs := hw
  refine W.eq (g2 := F0 m 7 ls []) rfl ?_
  have hw := hw
  refine W.widen (k := 0) (n := 0) (Nat.le_of_ble_eq_true rfl) (Nat.le_of_ble_eq_true rfl) ?_
  exact r_cv F hQ ⟨rfl, rfl⟩ hw dX10_init_7
theorem qi_X9_init : QI yX9_init cX9_init 4 3 := ⟨(by decide +kernel), im_X9_init, in_X9, co_X9_init, rfl⟩
set_option maxRecDepth 100000 in
set_option maxHeartbeats 4000000 in
theorem c_X9_init (l : Launch) (g : GG) (a : Nat) (kd : Nat) (x1 : Int32) (x2 : Int32) (x3 : Int32) (h5 : kd < 5) : MC l g yX9_init cX9_init 4 none 2 35 0 0 [.ref a, .int x1, .int x2, .int x3] [ob a kd [.int 0, .int 0, .int 0, .int 0, .int 0]] (fun v w1 => v = none ∧ w1 = [ob a kd [.int x2, .int x3, .int x1, .int (-1), .int 0]]) := by
  refine MC.mk (by decide) (Nat.le_of_ble_eq_true rfl) ?_
  intro p e s m args below meth c ls Q A F hnm hK hw hA hl hQ
  have hx := F.1
  have hb := F.2.1
  have hml := F.2.2.2.1
  have hown := F.2.2.2.2.1
  have hts := F.2.2.2.2.2.1
  have hl : lv_has ls 4 [(0, .ref a), (1, .int x1), (2, .int x2), (3, .int x3)] := hl
  obtain ⟨C, hc, fb⟩ := kd_fb h5
  refine lv_aload_n hx hb dX9_init_0 rfl (lv_at hl 0 rfl) ?_
  refine lv_iload_n hx hb dX9_init_1 rfl (lv_at hl 1 rfl) ?_
  refine lv_iload_n hx hb dX9_init_2 rfl (lv_at hl 2 rfl) ?_
  refine lv_iload_n hx hb dX9_init_3 rfl (lv_at hl 3 rfl) ?_
  refine k_cI (wr := []) F (c_X0_init l g a kd x1 x2 x3 h5) qi_X0_init ml_X9_1 hw hA hK [0] [] rfl rfl rfl rfl rfl (by decide) rfl hl.1 rfl (Nat.le_of_ble_eq_true rfl) dX9_init_4 ⟨(Nat.le_of_ble_eq_true rfl), (Nat.le_of_ble_eq_true rfl)⟩ ⟨(Nat.le_of_ble_eq_true rfl), (Nat.le_of_ble_eq_true rfl)⟩ (fun v w1 H locs hpo hw => ?_)
  obtain ⟨rfl, rfl⟩ := hpo
  have hw : WD g A s.heap [ob a kd [.int x2, .int x3, .int x1, .int (-1), .int 0]] H locs := hw
  refine W.eq (g2 := F0 m 7 ls []) rfl ?_
  have hw := hw
  refine W.widen (k := 0) (n := 0) (Nat.le_of_ble_eq_true rfl) (Nat.le_of_ble_eq_true rfl) ?_
  exact r_cv F hQ ⟨rfl, rfl⟩ hw dX9_init_7
theorem qi_X3_init : QI yX3_init cX3_init 4 3 := ⟨(by decide +kernel), im_X3_init, in_X3, co_X3_init, rfl⟩
set_option maxRecDepth 100000 in
set_option maxHeartbeats 4000000 in
theorem c_X3_init (l : Launch) (g : GG) (a : Nat) (kd : Nat) (x1 : Int32) (x2 : Int32) (x3 : Int32) (h5 : kd < 5) : MC l g yX3_init cX3_init 4 none 2 35 0 0 [.ref a, .int x1, .int x2, .int x3] [ob a kd [.int 0, .int 0, .int 0, .int 0, .int 0]] (fun v w1 => v = none ∧ w1 = [ob a kd [.int x2, .int x3, .int x1, .int (-1), .int 0]]) := by
  refine MC.mk (by decide) (Nat.le_of_ble_eq_true rfl) ?_
  intro p e s m args below meth c ls Q A F hnm hK hw hA hl hQ
  have hx := F.1
  have hb := F.2.1
  have hml := F.2.2.2.1
  have hown := F.2.2.2.2.1
  have hts := F.2.2.2.2.2.1
  have hl : lv_has ls 4 [(0, .ref a), (1, .int x1), (2, .int x2), (3, .int x3)] := hl
  obtain ⟨C, hc, fb⟩ := kd_fb h5
  refine lv_aload_n hx hb dX3_init_0 rfl (lv_at hl 0 rfl) ?_
  refine lv_iload_n hx hb dX3_init_1 rfl (lv_at hl 1 rfl) ?_
  refine lv_iload_n hx hb dX3_init_2 rfl (lv_at hl 2 rfl) ?_
  refine lv_iload_n hx hb dX3_init_3 rfl (lv_at hl 3 rfl) ?_
  refine k_cI (wr := []) F (c_X0_init l g a kd x1 x2 x3 h5) qi_X0_init ml_X3_1 hw hA hK [0] [] rfl rfl rfl rfl rfl (by decide) rfl hl.1 rfl (Nat.le_of_ble_eq_true rfl) dX3_init_4 ⟨(Nat.le_of_ble_eq_true rfl), (Nat.le_of_ble_eq_true rfl)⟩ ⟨(Nat.le_of_ble_eq_true rfl), (Nat.le_of_ble_eq_true rfl)⟩ (fun v w1 H locs hpo hw => ?_)
  obtain ⟨rfl, rfl⟩ := hpo
  have hw : WD g A s.heap [ob a kd [.int x2, .int x3, .int x1, .int (-1), .int 0]] H locs := hw
  refine W.eq (g2 := F0 m 7 ls []) rfl ?_
  have hw := hw
  refine W.widen (k := 0) (n := 0) (Nat.le_of_ble_eq_true rfl) (Nat.le_of_ble_eq_true rfl) ?_
  exact r_cv F hQ ⟨rfl, rfl⟩ hw dX3_init_7
theorem qi_X1_init : QI yX1_init cX1_init 4 3 := ⟨(by decide +kernel), im_X1_init, in_X1, co_X1_init, rfl⟩
set_option maxRecDepth 100000 in
set_option maxHeartbeats 4000000 in
theorem c_X1_init (l : Launch) (g : GG) (a : Nat) (kd : Nat) (x1 : Int32) (x2 : Int32) (x3 : Int32) (h5 : kd < 5) : MC l g yX1_init cX1_init 4 none 3 58 0 0 [.ref a, .int x1, .int x2, .int x3] [ob a kd [.int 0, .int 0, .int 0, .int 0, .int 0]] (fun v w1 => v = none ∧ w1 = [ob a kd [.int x2, .int x3, .int x1, .int (-1), .int 0]]) := by
  refine MC.mk (by decide) (Nat.le_of_ble_eq_true rfl) ?_
  intro p e s m args below meth c ls Q A F hnm hK hw hA hl hQ
  have hx := F.1
  have hb := F.2.1
  have hml := F.2.2.2.1
  have hown := F.2.2.2.2.1
  have hts := F.2.2.2.2.2.1
  have hl : lv_has ls 4 [(0, .ref a), (1, .int x1), (2, .int x2), (3, .int x3)] := hl
  obtain ⟨C, hc, fb⟩ := kd_fb h5
  refine lv_aload_n hx hb dX1_init_0 rfl (lv_at hl 0 rfl) ?_
  refine lv_iload_n hx hb dX1_init_1 rfl (lv_at hl 1 rfl) ?_
  refine lv_iload_n hx hb dX1_init_2 rfl (lv_at hl 2 rfl) ?_
  refine lv_iload_n hx hb dX1_init_3 rfl (lv_at hl 3 rfl) ?_
  refine k_cI (wr := []) F (c_X10_init l g a kd x1 x2 x3 h5) qi_X10_init ml_X1_1 hw hA hK [0] [] rfl rfl rfl rfl rfl (by decide) rfl hl.1 rfl (Nat.le_of_ble_eq_true rfl) dX1_init_4 ⟨(Nat.le_of_ble_eq_true rfl), (Nat.le_of_ble_eq_true rfl)⟩ ⟨(Nat.le_of_ble_eq_true rfl), (Nat.le_of_ble_eq_true rfl)⟩ (fun v w1 H locs hpo hw => ?_)
  obtain ⟨rfl, rfl⟩ := hpo
  have hw : WD g A s.heap [ob a kd [.int x2, .int x3, .int x1, .int (-1), .int 0]] H locs := hw
  refine W.eq (g2 := F0 m 7 ls []) rfl ?_
  have hw := hw
  refine W.widen (k := 0) (n := 0) (Nat.le_of_ble_eq_true rfl) (Nat.le_of_ble_eq_true rfl) ?_
  exact r_cv F hQ ⟨rfl, rfl⟩ hw dX1_init_7
theorem qi_X7_init : QI yX7_init cX7_init 1 0 := ⟨(by decide +kernel), im_X7_init, in_X7, co_X7_init, rfl⟩
set_option maxRecDepth 100000 in
set_option maxHeartbeats 4000000 in
theorem c_X7_init (l : Launch) (g : GG) (a : Nat)  : MC l g yX7_init cX7_init 1 none 1 12 1 28 [.ref a] [ob a 5 [.null, .int 0]] (fun v w1 => v = none ∧ ∃ q1 : Nat, w1 = [ob a 5 [.ref q1, .int 0], ia g q1 28 (fun _ => 0)]) := by
  refine MC.mk (by decide) (Nat.le_of_ble_eq_true rfl) ?_
  intro p e s m args below meth c ls Q A F hnm hK hw hA hl hQ
  have hx := F.1
  have hb := F.2.1
  have hml := F.2.2.2.1
  have hown := F.2.2.2.2.1
  have hts := F.2.2.2.2.2.1
  have hl : lv_has ls 1 [(0, .ref a)] := hl
  refine lv_aload_n hx hb dX7_init_0 rfl (lv_at hl 0 rfl) ?_
  refine w_obj F ml_X7_3 hl.1 dX7_init_1 (Nat.le_of_ble_eq_true rfl) (Nat.le_of_ble_eq_true rfl) ?_
  refine lv_aload_n hx hb dX7_init_4 rfl (lv_at hl 0 rfl) ?_
  refine lv_bipush (v := 28) hx hb dX7_init_5 (by decide) ?_
  refine w_newi (N := 28) F hK hw hA (by decide) (by decide) (by decide) (Nat.le_of_ble_eq_true rfl) (Nat.le_of_ble_eq_true rfl) dX7_init_7 (fun q1 H hw => ?_)
  have hw : WD g A s.heap [ob a 5 [.null, .int 0], ia g q1 28 (fun _ => 0)] H _ := hw
  refine w_putF (ci := 5) (ws' := [ob a 5 [.ref q1, .int 0], ia g q1 28 (fun _ => 0)]) F hnm hK hw fb_X7 0 rfl rfl 0 (by decide) fl_X7_11 (fun _ h => h) rfl rfl rfl rfl rfl (Nat.le_of_ble_eq_true rfl) rfl dX7_init_9 (fun H locs hw => ?_)
  have hw := hw
  refine W.widen (k := 1) (n := 28) (Nat.le_of_ble_eq_true rfl) (Nat.le_of_ble_eq_true rfl) ?_
  exact r_cv F hQ ⟨rfl, q1, rfl⟩ hw dX7_init_12
theorem qi_X5_init : QI yX5_init cX5_init 1 0 := ⟨(by decide +kernel), im_X5_init, in_X5, co_X5_init, rfl⟩
set_option maxRecDepth 100000 in
set_option maxHeartbeats 4000000 in
theorem c_X5_init (l : Launch) (g : GG) (a : Nat)  : MC l g yX5_init cX5_init 1 none 1 12 2 16 [.ref a] [ob a 8 [.null, .null, .int 0]] (fun v w1 => v = none ∧ ∃ q1 q2 : Nat, w1 = [ob a 8 [.ref q1, .ref q2, .int 0], ia g q1 8 (fun _ => 0), ia g q2 8 (fun _ => 0)]) := by
  refine MC.mk (by decide) (Nat.le_of_ble_eq_true rfl) ?_
  intro p e s m args below meth c ls Q A F hnm hK hw hA hl hQ
  have hx := F.1
  have hb := F.2.1
  have hml := F.2.2.2.1
  have hown := F.2.2.2.2.1
  have hts := F.2.2.2.2.2.1
  have hl : lv_has ls 1 [(0, .ref a)] := hl
  refine lv_aload_n hx hb dX5_init_0 rfl (lv_at hl 0 rfl) ?_
  refine w_obj F ml_X5_1 hl.1 dX5_init_1 (Nat.le_of_ble_eq_true rfl) (Nat.le_of_ble_eq_true rfl) ?_
  refine lv_aload_n hx hb dX5_init_4 rfl (lv_at hl 0 rfl) ?_
  refine lv_bipush (v := 8) hx hb dX5_init_5 (by decide) ?_
  refine w_newi (N := 8) F hK hw hA (by decide) (by decide) (by decide) (Nat.le_of_ble_eq_true rfl) (Nat.le_of_ble_eq_true rfl) dX5_init_7 (fun q1 H hw => ?_)
  have hw : WD g A s.heap [ob a 8 [.null, .null, .int 0], ia g q1 8 (fun _ => 0)] H _ := hw
  refine w_putF (ci := 8) (ws' := [ob a 8 [.ref q1, .null, .int 0], ia g q1 8 (fun _ => 0)]) F hnm hK hw fb_X5 0 rfl rfl 0 (by decide) fl_X5_9 (fun _ h => h) rfl rfl rfl rfl rfl (Nat.le_of_ble_eq_true rfl) rfl dX5_init_9 (fun H locs hw => ?_)
  refine lv_aload_n hx hb dX5_init_12 rfl (lv_at hl 0 rfl) ?_
  refine lv_bipush (v := 8) hx hb dX5_init_13 (by decide) ?_
  refine w_newi (N := 8) F hK hw hA (by decide) (by decide) (by decide) (Nat.le_of_ble_eq_true rfl) (Nat.le_of_ble_eq_true rfl) dX5_init_15 (fun q2 H hw => ?_)
  have hw : WD g A s.heap [ob a 8 [.ref q1, .null, .int 0], ia g q1 8 (fun _ => 0), ia g q2 8 (fun _ => 0)] H _ := hw
  refine w_putF (ci := 8) (ws' := [ob a 8 [.ref q1, .ref q2, .int 0], ia g q1 8 (fun _ => 0), ia g q2 8 (fun _ => 0)]) F hnm hK hw fb_X5 0 rfl rfl 1 (by decide) fl_X5_13 (fun _ h => h) rfl rfl rfl rfl rfl (Nat.le_of_ble_eq_true rfl) rfl dX5_init_17 (fun H locs hw => ?_)
  have hw := hw
  refine W.widen (k := 2) (n := 16) (Nat.le_of_ble_eq_true rfl) (Nat.le_of_ble_eq_true rfl) ?_
  exact r_cv F hQ ⟨rfl, q1, q2, rfl⟩ hw dX5_init_20
theorem qi_X4_init : QI yX4_init cX4_init 2 0 := ⟨(by decide +kernel), im_X4_init, in_X4, co_X4_init, rfl⟩
set_option maxRecDepth 100000 in
set_option maxHeartbeats 4000000 in
theorem c_X4_init (l : Launch) (g : GG) (a : Nat)  : MC l g yX4_init cX4_init 2 none 2 35 6 30 [.ref a] [ob a 6 [.null, .int 0, .int 0]] (fun v w1 => v = none ∧ ∃ q1 q2 q3 q4 q5 q6 : Nat, w1 = [ob a 6 [.ref q1, .int 0, .int 0], ra g q1 5 (va_up (va_up (va_up (va_up (va_up (fun _ => none) 0 (some q2)) 1 (some q3)) 2 (some q4)) 3 (some q5)) 4 (some q6)), ob q2 0 [.int 0, .int 0, .int 1, .int (-1), .int 0], ob q3 0 [.int 0, .int 0, .int 1, .int (-1), .int 0], ob q4 0 [.int 0, .int 0, .int 1, .int (-1), .int 0], ob q5 0 [.int 0, .int 0, .int 1, .int (-1), .int 0], ob q6 0 [.int 0, .int 0, .int 1, .int (-1), .int 0]]) := by
  refine MC.mk (by decide) (Nat.le_of_ble_eq_true rfl) ?_
  intro p e s m args below meth c ls Q A F hnm hK hw hA hl hQ
  have hx := F.1
  have hb := F.2.1
  have hml := F.2.2.2.1
  have hown := F.2.2.2.2.1
  have hts := F.2.2.2.2.2.1
  have hl : lv_has ls 2 [(0, .ref a)] := hl
  refine lv_aload_n hx hb dX4_init_0 rfl (lv_at hl 0 rfl) ?_
  refine w_obj F ml_X4_3 hl.1 dX4_init_1 (Nat.le_of_ble_eq_true rfl) (Nat.le_of_ble_eq_true rfl) ?_
  refine lv_aload_n hx hb dX4_init_4 rfl (lv_at hl 0 rfl) ?_
  refine lv_iconst (v := 5) hx hb dX4_init_5 (by decide) ?_
  refine w_newq (N := 5) F hK hw hA cl_X4_9 (by decide) (by decide) (by decide) (Nat.le_of_ble_eq_true rfl) (Nat.le_of_ble_eq_true rfl) dX4_init_6 (fun q1 H hw => ?_)
  have hw : WD g A s.heap [ob a 6 [.null, .int 0, .int 0], ra g q1 5 (fun _ => none)] H _ := hw
  refine w_putF (ci := 6) (ws' := [ob a 6 [.ref q1, .int 0, .int 0], ra g q1 5 (fun _ => none)]) F hnm hK hw fb_X4 0 rfl rfl 0 (by decide) fl_X4_11 (fun _ h => h) rfl rfl rfl rfl rfl (Nat.le_of_ble_eq_true rfl) rfl dX4_init_9 (fun H locs hw => ?_)
  refine lv_iconst (v := 0) hx hb dX4_init_12 (by decide) ?_
  refine lv_istore_n (lv' := [(1, .int 0), (0, .ref a)]) hx hb dX4_init_13 rfl hl (by decide) rfl (fun ls hl => ?_)
  refine lv_iload_n hx hb dX4_init_14 rfl (lv_at hl 0 rfl) ?_
  refine lv_iconst (v := 5) hx hb dX4_init_15 (by decide) ?_
  refine lv_icmp_ge (tgt := 41) hx hb dX4_init_16 (by decide) (fun h => absurd h (by decide)) (fun _ => ?_)
  refine lv_aload_n hx hb dX4_init_19 rfl (lv_at hl 1 rfl) ?_
  refine w_get (ci := 6) F hK hw.1 fb_X4 0 rfl rfl 0 (by decide) fl_X4_11 (fun _ h => h) rfl dX4_init_20 ?_
  refine lv_iload_n hx hb dX4_init_23 rfl (lv_at hl 0 rfl) ?_
  refine w_new (ci := 0) (fs := [.int 0, .int 0, .int 0, .int 0, .int 0]) F hK hw hA fb_X0 rfl cl_X4_9 ist_X0 in_X0 (fun j hj => by rcases (show j = 0 ∨ j = 1 ∨ j = 2 ∨ j = 3 ∨ j = 4 by omega) with rfl | rfl | rfl | rfl | rfl <;> rfl) (Nat.le_of_ble_eq_true rfl) (Nat.le_of_ble_eq_true rfl) dX4_init_24 (fun q2 H hw => ?_)
  have hw : WD g A s.heap [ob a 6 [.ref q1, .int 0, .int 0], ra g q1 5 (fun _ => none), ob q2 0 [.int 0, .int 0, .int 0, .int 0, .int 0]] H _ := hw
  refine lv_dup hx hb dX4_init_27 rfl ?_
  refine lv_iconst (v := 1) hx hb dX4_init_28 (by decide) ?_
  refine lv_iconst (v := 0) hx hb dX4_init_29 (by decide) ?_
  refine lv_iconst (v := 0) hx hb dX4_init_30 (by decide) ?_
  refine k_cI (wr := [ob a 6 [.ref q1, .int 0, .int 0], ra g q1 5 (fun _ => none)]) F (c_X0_init l g q2 0 1 0 0 (by decide)) qi_X0_init ml_X4_17 hw hA hK [2] [0, 1] rfl rfl rfl rfl rfl (by decide) rfl hl.1 rfl (Nat.le_of_ble_eq_true rfl) dX4_init_31 ⟨(Nat.le_of_ble_eq_true rfl), (Nat.le_of_ble_eq_true rfl)⟩ ⟨(Nat.le_of_ble_eq_true rfl), (Nat.le_of_ble_eq_true rfl)⟩ (fun v w1 H locs hpo hw => ?_)
  obtain ⟨rfl, rfl⟩ := hpo
  have hw : WD g A s.heap [ob a 6 [.ref q1, .int 0, .int 0], ra g q1 5 (fun _ => none), ob q2 0 [.int 0, .int 0, .int 1, .int (-1), .int 0]] H locs := hw
  refine W.eq (g2 := F0 m 34 ls [.ref q2, .int 0, .ref q1]) rfl ?_
  refine w_aast (ws' := [ob a 6 [.ref q1, .int 0, .int 0], ra g q1 5 (va_up (fun _ => none) 0 (some q2)), ob q2 0 [.int 0, .int 0, .int 1, .int (-1), .int 0]]) F hK hw 1 2 rfl rfl (by decide) rfl dX4_init_34 (fun H locs hw => ?_)
  refine lv_iinc (v := 1) (lv' := [(1, .int 1), (0, .ref a)]) hx hb dX4_init_35 hl (k := 0) rfl (by decide) (by decide) rfl (fun ls hl => ?_)
  refine lv_goto (tgt := 14) hx hb dX4_init_38 (by decide) ?_
  refine lv_iload_n hx hb dX4_init_14 rfl (lv_at hl 0 rfl) ?_
  refine lv_iconst (v := 5) hx hb dX4_init_15 (by decide) ?_
  refine lv_icmp_ge (tgt := 41) hx hb dX4_init_16 (by decide) (fun h => absurd h (by decide)) (fun _ => ?_)
  refine lv_aload_n hx hb dX4_init_19 rfl (lv_at hl 1 rfl) ?_
  refine w_get (ci := 6) F hK hw.1 fb_X4 0 rfl rfl 0 (by decide) fl_X4_11 (fun _ h => h) rfl dX4_init_20 ?_
  refine lv_iload_n hx hb dX4_init_23 rfl (lv_at hl 0 rfl) ?_
  refine w_new (ci := 0) (fs := [.int 0, .int 0, .int 0, .int 0, .int 0]) F hK hw hA fb_X0 rfl cl_X4_9 ist_X0 in_X0 (fun j hj => by rcases (show j = 0 ∨ j = 1 ∨ j = 2 ∨ j = 3 ∨ j = 4 by omega) with rfl | rfl | rfl | rfl | rfl <;> rfl) (Nat.le_of_ble_eq_true rfl) (Nat.le_of_ble_eq_true rfl) dX4_init_24 (fun q3 H hw => ?_)
  have hw : WD g A s.heap [ob a 6 [.ref q1, .int 0, .int 0], ra g q1 5 (va_up (fun _ => none) 0 (some q2)), ob q2 0 [.int 0, .int 0, .int 1, .int (-1), .int 0], ob q3 0 [.int 0, .int 0, .int 0, .int 0, .int 0]] H _ := hw
  refine lv_dup hx hb dX4_init_27 rfl ?_
  refine lv_iconst (v := 1) hx hb dX4_init_28 (by decide) ?_
  refine lv_iconst (v := 0) hx hb dX4_init_29 (by decide) ?_
  refine lv_iconst (v := 0) hx hb dX4_init_30 (by decide) ?_
  refine k_cI (wr := [ob a 6 [.ref q1, .int 0, .int 0], ra g q1 5 (va_up (fun _ => none) 0 (some q2)), ob q2 0 [.int 0, .int 0, .int 1, .int (-1), .int 0]]) F (c_X0_init l g q3 0 1 0 0 (by decide)) qi_X0_init ml_X4_17 hw hA hK [3] [0, 1, 2] rfl rfl rfl rfl rfl (by decide) rfl hl.1 rfl (Nat.le_of_ble_eq_true rfl) dX4_init_31 ⟨(Nat.le_of_ble_eq_true rfl), (Nat.le_of_ble_eq_true rfl)⟩ ⟨(Nat.le_of_ble_eq_true rfl), (Nat.le_of_ble_eq_true rfl)⟩ (fun v w1 H locs hpo hw => ?_)
  obtain ⟨rfl, rfl⟩ := hpo
  have hw : WD g A s.heap [ob a 6 [.ref q1, .int 0, .int 0], ra g q1 5 (va_up (fun _ => none) 0 (some q2)), ob q2 0 [.int 0, .int 0, .int 1, .int (-1), .int 0], ob q3 0 [.int 0, .int 0, .int 1, .int (-1), .int 0]] H locs := hw
  refine W.eq (g2 := F0 m 34 ls [.ref q3, .int 1, .ref q1]) rfl ?_
  refine w_aast (ws' := [ob a 6 [.ref q1, .int 0, .int 0], ra g q1 5 (va_up (va_up (fun _ => none) 0 (some q2)) 1 (some q3)), ob q2 0 [.int 0, .int 0, .int 1, .int (-1), .int 0], ob q3 0 [.int 0, .int 0, .int 1, .int (-1), .int 0]]) F hK hw 1 3 rfl rfl (by decide) rfl dX4_init_34 (fun H locs hw => ?_)
  refine lv_iinc (v := 2) (lv' := [(1, .int 2), (0, .ref a)]) hx hb dX4_init_35 hl (k := 0) rfl (by decide) (by decide) rfl (fun ls hl => ?_)
  refine lv_goto (tgt := 14) hx hb dX4_init_38 (by decide) ?_
  refine lv_iload_n hx hb dX4_init_14 rfl (lv_at hl 0 rfl) ?_
  refine lv_iconst (v := 5) hx hb dX4_init_15 (by decide) ?_
  refine lv_icmp_ge (tgt := 41) hx hb dX4_init_16 (by decide) (fun h => absurd h (by decide)) (fun _ => ?_)
  refine lv_aload_n hx hb dX4_init_19 rfl (lv_at hl 1 rfl) ?_
  refine w_get (ci := 6) F hK hw.1 fb_X4 0 rfl rfl 0 (by decide) fl_X4_11 (fun _ h => h) rfl dX4_init_20 ?_
  refine lv_iload_n hx hb dX4_init_23 rfl (lv_at hl 0 rfl) ?_
  refine w_new (ci := 0) (fs := [.int 0, .int 0, .int 0, .int 0, .int 0]) F hK hw hA fb_X0 rfl cl_X4_9 ist_X0 in_X0 (fun j hj => by rcases (show j = 0 ∨ j = 1 ∨ j = 2 ∨ j = 3 ∨ j = 4 by omega) with rfl | rfl | rfl | rfl | rfl <;> rfl) (Nat.le_of_ble_eq_true rfl) (Nat.le_of_ble_eq_true rfl) dX4_init_24 (fun q4 H hw => ?_)
  have hw : WD g A s.heap [ob a 6 [.ref q1, .int 0, .int 0], ra g q1 5 (va_up (va_up (fun _ => none) 0 (some q2)) 1 (some q3)), ob q2 0 [.int 0, .int 0, .int 1, .int (-1), .int 0], ob q3 0 [.int 0, .int 0, .int 1, .int (-1), .int 0], ob q4 0 [.int 0, .int 0, .int 0, .int 0, .int 0]] H _ := hw
  refine lv_dup hx hb dX4_init_27 rfl ?_
  refine lv_iconst (v := 1) hx hb dX4_init_28 (by decide) ?_
  refine lv_iconst (v := 0) hx hb dX4_init_29 (by decide) ?_
  refine lv_iconst (v := 0) hx hb dX4_init_30 (by decide) ?_
  refine k_cI (wr := [ob a 6 [.ref q1, .int 0, .int 0], ra g q1 5 (va_up (va_up (fun _ => none) 0 (some q2)) 1 (some q3)), ob q2 0 [.int 0, .int 0, .int 1, .int (-1), .int 0], ob q3 0 [.int 0, .int 0, .int 1, .int (-1), .int 0]]) F (c_X0_init l g q4 0 1 0 0 (by decide)) qi_X0_init ml_X4_17 hw hA hK [4] [0, 1, 2, 3] rfl rfl rfl rfl rfl (by decide) rfl hl.1 rfl (Nat.le_of_ble_eq_true rfl) dX4_init_31 ⟨(Nat.le_of_ble_eq_true rfl), (Nat.le_of_ble_eq_true rfl)⟩ ⟨(Nat.le_of_ble_eq_true rfl), (Nat.le_of_ble_eq_true rfl)⟩ (fun v w1 H locs hpo hw => ?_)
  obtain ⟨rfl, rfl⟩ := hpo
  have hw : WD g A s.heap [ob a 6 [.ref q1, .int 0, .int 0], ra g q1 5 (va_up (va_up (fun _ => none) 0 (some q2)) 1 (some q3)), ob q2 0 [.int 0, .int 0, .int 1, .int (-1), .int 0], ob q3 0 [.int 0, .int 0, .int 1, .int (-1), .int 0], ob q4 0 [.int 0, .int 0, .int 1, .int (-1), .int 0]] H locs := hw
  refine W.eq (g2 := F0 m 34 ls [.ref q4, .int 2, .ref q1]) rfl ?_
  refine w_aast (ws' := [ob a 6 [.ref q1, .int 0, .int 0], ra g q1 5 (va_up (va_up (va_up (fun _ => none) 0 (some q2)) 1 (some q3)) 2 (some q4)), ob q2 0 [.int 0, .int 0, .int 1, .int (-1), .int 0], ob q3 0 [.int 0, .int 0, .int 1, .int (-1), .int 0], ob q4 0 [.int 0, .int 0, .int 1, .int (-1), .int 0]]) F hK hw 1 4 rfl rfl (by decide) rfl dX4_init_34 (fun H locs hw => ?_)
  refine lv_iinc (v := 3) (lv' := [(1, .int 3), (0, .ref a)]) hx hb dX4_init_35 hl (k := 0) rfl (by decide) (by decide) rfl (fun ls hl => ?_)
  refine lv_goto (tgt := 14) hx hb dX4_init_38 (by decide) ?_
  refine lv_iload_n hx hb dX4_init_14 rfl (lv_at hl 0 rfl) ?_
  refine lv_iconst (v := 5) hx hb dX4_init_15 (by decide) ?_
  refine lv_icmp_ge (tgt := 41) hx hb dX4_init_16 (by decide) (fun h => absurd h (by decide)) (fun _ => ?_)
  refine lv_aload_n hx hb dX4_init_19 rfl (lv_at hl 1 rfl) ?_
  refine w_get (ci := 6) F hK hw.1 fb_X4 0 rfl rfl 0 (by decide) fl_X4_11 (fun _ h => h) rfl dX4_init_20 ?_
  refine lv_iload_n hx hb dX4_init_23 rfl (lv_at hl 0 rfl) ?_
  refine w_new (ci := 0) (fs := [.int 0, .int 0, .int 0, .int 0, .int 0]) F hK hw hA fb_X0 rfl cl_X4_9 ist_X0 in_X0 (fun j hj => by rcases (show j = 0 ∨ j = 1 ∨ j = 2 ∨ j = 3 ∨ j = 4 by omega) with rfl | rfl | rfl | rfl | rfl <;> rfl) (Nat.le_of_ble_eq_true rfl) (Nat.le_of_ble_eq_true rfl) dX4_init_24 (fun q5 H hw => ?_)
  have hw : WD g A s.heap [ob a 6 [.ref q1, .int 0, .int 0], ra g q1 5 (va_up (va_up (va_up (fun _ => none) 0 (some q2)) 1 (some q3)) 2 (some q4)), ob q2 0 [.int 0, .int 0, .int 1, .int (-1), .int 0], ob q3 0 [.int 0, .int 0, .int 1, .int (-1), .int 0], ob q4 0 [.int 0, .int 0, .int 1, .int (-1), .int 0], ob q5 0 [.int 0, .int 0, .int 0, .int 0, .int 0]] H _ := hw
  refine lv_dup hx hb dX4_init_27 rfl ?_
  refine lv_iconst (v := 1) hx hb dX4_init_28 (by decide) ?_
  refine lv_iconst (v := 0) hx hb dX4_init_29 (by decide) ?_
  refine lv_iconst (v := 0) hx hb dX4_init_30 (by decide) ?_
  refine k_cI (wr := [ob a 6 [.ref q1, .int 0, .int 0], ra g q1 5 (va_up (va_up (va_up (fun _ => none) 0 (some q2)) 1 (some q3)) 2 (some q4)), ob q2 0 [.int 0, .int 0, .int 1, .int (-1), .int 0], ob q3 0 [.int 0, .int 0, .int 1, .int (-1), .int 0], ob q4 0 [.int 0, .int 0, .int 1, .int (-1), .int 0]]) F (c_X0_init l g q5 0 1 0 0 (by decide)) qi_X0_init ml_X4_17 hw hA hK [5] [0, 1, 2, 3, 4] rfl rfl rfl rfl rfl (by decide) rfl hl.1 rfl (Nat.le_of_ble_eq_true rfl) dX4_init_31 ⟨(Nat.le_of_ble_eq_true rfl), (Nat.le_of_ble_eq_true rfl)⟩ ⟨(Nat.le_of_ble_eq_true rfl), (Nat.le_of_ble_eq_true rfl)⟩ (fun v w1 H locs hpo hw => ?_)
  obtain ⟨rfl, rfl⟩ := hpo
  have hw : WD g A s.heap [ob a 6 [.ref q1, .int 0, .int 0], ra g q1 5 (va_up (va_up (va_up (fun _ => none) 0 (some q2)) 1 (some q3)) 2 (some q4)), ob q2 0 [.int 0, .int 0, .int 1, .int (-1), .int 0], ob q3 0 [.int 0, .int 0, .int 1, .int (-1), .int 0], ob q4 0 [.int 0, .int 0, .int 1, .int (-1), .int 0], ob q5 0 [.int 0, .int 0, .int 1, .int (-1), .int 0]] H locs := hw
  refine W.eq (g2 := F0 m 34 ls [.ref q5, .int 3, .ref q1]) rfl ?_
  refine w_aast (ws' := [ob a 6 [.ref q1, .int 0, .int 0], ra g q1 5 (va_up (va_up (va_up (va_up (fun _ => none) 0 (some q2)) 1 (some q3)) 2 (some q4)) 3 (some q5)), ob q2 0 [.int 0, .int 0, .int 1, .int (-1), .int 0], ob q3 0 [.int 0, .int 0, .int 1, .int (-1), .int 0], ob q4 0 [.int 0, .int 0, .int 1, .int (-1), .int 0], ob q5 0 [.int 0, .int 0, .int 1, .int (-1), .int 0]]) F hK hw 1 5 rfl rfl (by decide) rfl dX4_init_34 (fun H locs hw => ?_)
  refine lv_iinc (v := 4) (lv' := [(1, .int 4), (0, .ref a)]) hx hb dX4_init_35 hl (k := 0) rfl (by decide) (by decide) rfl (fun ls hl => ?_)
  refine lv_goto (tgt := 14) hx hb dX4_init_38 (by decide) ?_
  refine lv_iload_n hx hb dX4_init_14 rfl (lv_at hl 0 rfl) ?_
  refine lv_iconst (v := 5) hx hb dX4_init_15 (by decide) ?_
  refine lv_icmp_ge (tgt := 41) hx hb dX4_init_16 (by decide) (fun h => absurd h (by decide)) (fun _ => ?_)
  refine lv_aload_n hx hb dX4_init_19 rfl (lv_at hl 1 rfl) ?_
  refine w_get (ci := 6) F hK hw.1 fb_X4 0 rfl rfl 0 (by decide) fl_X4_11 (fun _ h => h) rfl dX4_init_20 ?_
  refine lv_iload_n hx hb dX4_init_23 rfl (lv_at hl 0 rfl) ?_
  refine w_new (ci := 0) (fs := [.int 0, .int 0, .int 0, .int 0, .int 0]) F hK hw hA fb_X0 rfl cl_X4_9 ist_X0 in_X0 (fun j hj => by rcases (show j = 0 ∨ j = 1 ∨ j = 2 ∨ j = 3 ∨ j = 4 by omega) with rfl | rfl | rfl | rfl | rfl <;> rfl) (Nat.le_of_ble_eq_true rfl) (Nat.le_of_ble_eq_true rfl) dX4_init_24 (fun q6 H hw => ?_)
  have hw : WD g A s.heap [ob a 6 [.ref q1, .int 0, .int 0], ra g q1 5 (va_up (va_up (va_up (va_up (fun _ => none) 0 (some q2)) 1 (some q3)) 2 (some q4)) 3 (some q5)), ob q2 0 [.int 0, .int 0, .int 1, .int (-1), .int 0], ob q3 0 [.int 0, .int 0, .int 1, .int (-1), .int 0], ob q4 0 [.int 0, .int 0, .int 1, .int (-1), .int 0], ob q5 0 [.int 0, .int 0, .int 1, .int (-1), .int 0], ob q6 0 [.int 0, .int 0, .int 0, .int 0, .int 0]] H _ := hw
  refine lv_dup hx hb dX4_init_27 rfl ?_
  refine lv_iconst (v := 1) hx hb dX4_init_28 (by decide) ?_
  refine lv_iconst (v := 0) hx hb dX4_init_29 (by decide) ?_
  refine lv_iconst (v := 0) hx hb dX4_init_30 (by decide) ?_
  refine k_cI (wr := [ob a 6 [.ref q1, .int 0, .int 0], ra g q1 5 (va_up (va_up (va_up (va_up (fun _ => none) 0 (some q2)) 1 (some q3)) 2 (some q4)) 3 (some q5)), ob q2 0 [.int 0, .int 0, .int 1, .int (-1), .int 0], ob q3 0 [.int 0, .int 0, .int 1, .int (-1), .int 0], ob q4 0 [.int 0, .int 0, .int 1, .int (-1), .int 0], ob q5 0 [.int 0, .int 0, .int 1, .int (-1), .int 0]]) F (c_X0_init l g q6 0 1 0 0 (by decide)) qi_X0_init ml_X4_17 hw hA hK [6] [0, 1, 2, 3, 4, 5] rfl rfl rfl rfl rfl (by decide) rfl hl.1 rfl (Nat.le_of_ble_eq_true rfl) dX4_init_31 ⟨(Nat.le_of_ble_eq_true rfl), (Nat.le_of_ble_eq_true rfl)⟩ ⟨(Nat.le_of_ble_eq_true rfl), (Nat.le_of_ble_eq_true rfl)⟩ (fun v w1 H locs hpo hw => ?_)
  obtain ⟨rfl, rfl⟩ := hpo
  have hw : WD g A s.heap [ob a 6 [.ref q1, .int 0, .int 0], ra g q1 5 (va_up (va_up (va_up (va_up (fun _ => none) 0 (some q2)) 1 (some q3)) 2 (some q4)) 3 (some q5)), ob q2 0 [.int 0, .int 0, .int 1, .int (-1), .int 0], ob q3 0 [.int 0, .int 0, .int 1, .int (-1), .int 0], ob q4 0 [.int 0, .int 0, .int 1, .int (-1), .int 0], ob q5 0 [.int 0, .int 0, .int 1, .int (-1), .int 0], ob q6 0 [.int 0, .int 0, .int 1, .int (-1), .int 0]] H locs := hw
  refine W.eq (g2 := F0 m 34 ls [.ref q6, .int 4, .ref q1]) rfl ?_
  refine w_aast (ws' := [ob a 6 [.ref q1, .int 0, .int 0], ra g q1 5 (va_up (va_up (va_up (va_up (va_up (fun _ => none) 0 (some q2)) 1 (some q3)) 2 (some q4)) 3 (some q5)) 4 (some q6)), ob q2 0 [.int 0, .int 0, .int 1, .int (-1), .int 0], ob q3 0 [.int 0, .int 0, .int 1, .int (-1), .int 0], ob q4 0 [.int 0, .int 0, .int 1, .int (-1), .int 0], ob q5 0 [.int 0, .int 0, .int 1, .int (-1), .int 0], ob q6 0 [.int 0, .int 0, .int 1, .int (-1), .int 0]]) F hK hw 1 6 rfl rfl (by decide) rfl dX4_init_34 (fun H locs hw => ?_)
  refine lv_iinc (v := 5) (lv' := [(1, .int 5), (0, .ref a)]) hx hb dX4_init_35 hl (k := 0) rfl (by decide) (by decide) rfl (fun ls hl => ?_)
  refine lv_goto (tgt := 14) hx hb dX4_init_38 (by decide) ?_
  refine lv_iload_n hx hb dX4_init_14 rfl (lv_at hl 0 rfl) ?_
  refine lv_iconst (v := 5) hx hb dX4_init_15 (by decide) ?_
  refine lv_icmp_ge (tgt := 41) hx hb dX4_init_16 (by decide) (fun _ => ?_) (fun h => absurd (by decide) h)
  have hw := hw
  refine W.widen (k := 6) (n := 30) (Nat.le_of_ble_eq_true rfl) (Nat.le_of_ble_eq_true rfl) ?_
  exact r_cv F hQ ⟨rfl, q1, q2, q3, q4, q5, q6, rfl⟩ hw dX4_init_41
theorem qi_X2_init : QI yX2_init cX2_init 1 0 := ⟨(by decide +kernel), im_X2_init, in_X2, co_X2_init, rfl⟩
set_option maxRecDepth 100000 in
set_option maxHeartbeats 4000000 in
theorem c_X2_init (l : Launch) (g : GG) (a : Nat)  : MC l g yX2_init cX2_init 1 none 3 56 11 53 [.ref a] [ob a 7 [.null, .null, .null, .null, .null, .int 0]] (fun v w1 => v = none ∧ ∃ q1 q2 q3 q4 q5 q6 q7 q8 q9 q10 q11 : Nat, w1 = [ob a 7 [.ref q1, .ref q8, .ref q9, .ref q10, .ref q11, .int (-1)], ob q1 6 [.ref q2, .int 0, .int 0], ra g q2 5 (va_up (va_up (va_up (va_up (va_up (fun _ => none) 0 (some q3)) 1 (some q4)) 2 (some q5)) 3 (some q6)) 4 (some q7)), ob q3 0 [.int 0, .int 0, .int 1, .int (-1), .int 0], ob q4 0 [.int 0, .int 0, .int 1, .int (-1), .int 0], ob q5 0 [.int 0, .int 0, .int 1, .int (-1), .int 0], ob q6 0 [.int 0, .int 0, .int 1, .int (-1), .int 0], ob q7 0 [.int 0, .int 0, .int 1, .int (-1), .int 0], ia g q8 5 (fun _ => 0), ia g q9 5 (fun _ => 0), ia g q10 5 (fun _ => 0), ia g q11 5 (fun _ => 0)]) := by
  refine MC.mk (by decide) (Nat.le_of_ble_eq_true rfl) ?_
  intro p e s m args below meth c ls Q A F hnm hK hw hA hl hQ
  have hx := F.1
  have hb := F.2.1
  have hml := F.2.2.2.1
  have hown := F.2.2.2.2.1
  have hts := F.2.2.2.2.2.1
  have hl : lv_has ls 1 [(0, .ref a)] := hl
  refine lv_aload_n hx hb dX2_init_0 rfl (lv_at hl 0 rfl) ?_
  refine w_obj F ml_X2_3 hl.1 dX2_init_1 (Nat.le_of_ble_eq_true rfl) (Nat.le_of_ble_eq_true rfl) ?_
  refine lv_aload_n hx hb dX2_init_4 rfl (lv_at hl 0 rfl) ?_
  refine w_new (ci := 6) (fs := [.null, .int 0, .int 0]) F hK hw hA fb_X4 rfl cl_X2_9 ist_X4 in_X4 (fun j hj => by rcases (show j = 0 ∨ j = 1 ∨ j = 2 by omega) with rfl | rfl | rfl <;> rfl) (Nat.le_of_ble_eq_true rfl) (Nat.le_of_ble_eq_true rfl) dX2_init_5 (fun q1 H hw => ?_)
  have hw : WD g A s.heap [ob a 7 [.null, .null, .null, .null, .null, .int 0], ob q1 6 [.null, .int 0, .int 0]] H _ := hw
  refine lv_dup hx hb dX2_init_8 rfl ?_
  refine k_cI (wr := [ob a 7 [.null, .null, .null, .null, .null, .int 0]]) F (c_X4_init l g q1) qi_X4_init ml_X2_11 hw hA hK [1] [0] rfl rfl rfl rfl rfl (by decide) rfl hl.1 rfl (Nat.le_of_ble_eq_true rfl) dX2_init_9 ⟨(Nat.le_of_ble_eq_true rfl), (Nat.le_of_ble_eq_true rfl)⟩ ⟨(Nat.le_of_ble_eq_true rfl), (Nat.le_of_ble_eq_true rfl)⟩ (fun v w1 H locs hpo hw => ?_)
  obtain ⟨rfl, n6_q1, n6_q2, n6_q3, n6_q4, n6_q5, n6_q6, rfl⟩ := hpo
  have hw : WD g A s.heap [ob a 7 [.null, .null, .null, .null, .null, .int 0], ob q1 6 [.ref n6_q1, .int 0, .int 0], ra g n6_q1 5 (va_up (va_up (va_up (va_up (va_up (fun _ => none) 0 (some n6_q2)) 1 (some n6_q3)) 2 (some n6_q4)) 3 (some n6_q5)) 4 (some n6_q6)), ob n6_q2 0 [.int 0, .int 0, .int 1, .int (-1), .int 0], ob n6_q3 0 [.int 0, .int 0, .int 1, .int (-1), .int 0], ob n6_q4 0 [.int 0, .int 0, .int 1, .int (-1), .int 0], ob n6_q5 0 [.int 0, .int 0, .int 1, .int (-1), .int 0], ob n6_q6 0 [.int 0, .int 0, .int 1, .int (-1), .int 0]] H locs := hw
  refine W.eq (g2 := F0 m 12 ls [.ref q1, .ref a]) rfl ?_
  refine w_putF (ci := 7) (ws' := [ob a 7 [.ref q1, .null, .null, .null, .null, .int 0], ob q1 6 [.ref n6_q1, .int 0, .int 0], ra g n6_q1 5 (va_up (va_up (va_up (va_up (va_up (fun _ => none) 0 (some n6_q2)) 1 (some n6_q3)) 2 (some n6_q4)) 3 (some n6_q5)) 4 (some n6_q6)), ob n6_q2 0 [.int 0, .int 0, .int 1, .int (-1), .int 0], ob n6_q3 0 [.int 0, .int 0, .int 1, .int (-1), .int 0], ob n6_q4 0 [.int 0, .int 0, .int 1, .int (-1), .int 0], ob n6_q5 0 [.int 0, .int 0, .int 1, .int (-1), .int 0], ob n6_q6 0 [.int 0, .int 0, .int 1, .int (-1), .int 0]]) F hnm hK hw fb_X2 0 rfl rfl 0 (by decide) fl_X2_12 (fun _ h => h) rfl rfl rfl rfl rfl (Nat.le_of_ble_eq_true rfl) rfl dX2_init_12 (fun H locs hw => ?_)
  refine lv_aload_n hx hb dX2_init_15 rfl (lv_at hl 0 rfl) ?_
  refine lv_iconst (v := 5) hx hb dX2_init_16 (by decide) ?_
  refine w_newi (N := 5) F hK hw hA (by decide) (by decide) (by decide) (Nat.le_of_ble_eq_true rfl) (Nat.le_of_ble_eq_true rfl) dX2_init_17 (fun q2 H hw => ?_)
  have hw : WD g A s.heap [ob a 7 [.ref q1, .null, .null, .null, .null, .int 0], ob q1 6 [.ref n6_q1, .int 0, .int 0], ra g n6_q1 5 (va_up (va_up (va_up (va_up (va_up (fun _ => none) 0 (some n6_q2)) 1 (some n6_q3)) 2 (some n6_q4)) 3 (some n6_q5)) 4 (some n6_q6)), ob n6_q2 0 [.int 0, .int 0, .int 1, .int (-1), .int 0], ob n6_q3 0 [.int 0, .int 0, .int 1, .int (-1), .int 0], ob n6_q4 0 [.int 0, .int 0, .int 1, .int (-1), .int 0], ob n6_q5 0 [.int 0, .int 0, .int 1, .int (-1), .int 0], ob n6_q6 0 [.int 0, .int 0, .int 1, .int (-1), .int 0], ia g q2 5 (fun _ => 0)] H _ := hw
  refine w_putF (ci := 7) (ws' := [ob a 7 [.ref q1, .ref q2, .null, .null, .null, .int 0], ob q1 6 [.ref n6_q1, .int 0, .int 0], ra g n6_q1 5 (va_up (va_up (va_up (va_up (va_up (fun _ => none) 0 (some n6_q2)) 1 (some n6_q3)) 2 (some n6_q4)) 3 (some n6_q5)) 4 (some n6_q6)), ob n6_q2 0 [.int 0, .int 0, .int 1, .int (-1), .int 0], ob n6_q3 0 [.int 0, .int 0, .int 1, .int (-1), .int 0], ob n6_q4 0 [.int 0, .int 0, .int 1, .int (-1), .int 0], ob n6_q5 0 [.int 0, .int 0, .int 1, .int (-1), .int 0], ob n6_q6 0 [.int 0, .int 0, .int 1, .int (-1), .int 0], ia g q2 5 (fun _ => 0)]) F hnm hK hw fb_X2 0 rfl rfl 1 (by decide) fl_X2_18 (fun _ h => h) rfl rfl rfl rfl rfl (Nat.le_of_ble_eq_true rfl) rfl dX2_init_19 (fun H locs hw => ?_)
  refine lv_aload_n hx hb dX2_init_22 rfl (lv_at hl 0 rfl) ?_
  refine lv_iconst (v := 5) hx hb dX2_init_23 (by decide) ?_
  refine w_newi (N := 5) F hK hw hA (by decide) (by decide) (by decide) (Nat.le_of_ble_eq_true rfl) (Nat.le_of_ble_eq_true rfl) dX2_init_24 (fun q3 H hw => ?_)
  have hw : WD g A s.heap [ob a 7 [.ref q1, .ref q2, .null, .null, .null, .int 0], ob q1 6 [.ref n6_q1, .int 0, .int 0], ra g n6_q1 5 (va_up (va_up (va_up (va_up (va_up (fun _ => none) 0 (some n6_q2)) 1 (some n6_q3)) 2 (some n6_q4)) 3 (some n6_q5)) 4 (some n6_q6)), ob n6_q2 0 [.int 0, .int 0, .int 1, .int (-1), .int 0], ob n6_q3 0 [.int 0, .int 0, .int 1, .int (-1), .int 0], ob n6_q4 0 [.int 0, .int 0, .int 1, .int (-1), .int 0], ob n6_q5 0 [.int 0, .int 0, .int 1, .int (-1), .int 0], ob n6_q6 0 [.int 0, .int 0, .int 1, .int (-1), .int 0], ia g q2 5 (fun _ => 0), ia g q3 5 (fun _ => 0)] H _ := hw
  refine w_putF (ci := 7) (ws' := [ob a 7 [.ref q1, .ref q2, .ref q3, .null, .null, .int 0], ob q1 6 [.ref n6_q1, .int 0, .int 0], ra g n6_q1 5 (va_up (va_up (va_up (va_up (va_up (fun _ => none) 0 (some n6_q2)) 1 (some n6_q3)) 2 (some n6_q4)) 3 (some n6_q5)) 4 (some n6_q6)), ob n6_q2 0 [.int 0, .int 0, .int 1, .int (-1), .int 0], ob n6_q3 0 [.int 0, .int 0, .int 1, .int (-1), .int 0], ob n6_q4 0 [.int 0, .int 0, .int 1, .int (-1), .int 0], ob n6_q5 0 [.int 0, .int 0, .int 1, .int (-1), .int 0], ob n6_q6 0 [.int 0, .int 0, .int 1, .int (-1), .int 0], ia g q2 5 (fun _ => 0), ia g q3 5 (fun _ => 0)]) F hnm hK hw fb_X2 0 rfl rfl 2 (by decide) fl_X2_22 (fun _ h => h) rfl rfl rfl rfl rfl (Nat.le_of_ble_eq_true rfl) rfl dX2_init_26 (fun H locs hw => ?_)
  refine lv_aload_n hx hb dX2_init_29 rfl (lv_at hl 0 rfl) ?_
  refine lv_iconst (v := 5) hx hb dX2_init_30 (by decide) ?_
  refine w_newi (N := 5) F hK hw hA (by decide) (by decide) (by decide) (Nat.le_of_ble_eq_true rfl) (Nat.le_of_ble_eq_true rfl) dX2_init_31 (fun q4 H hw => ?_)
  have hw : WD g A s.heap [ob a 7 [.ref q1, .ref q2, .ref q3, .null, .null, .int 0], ob q1 6 [.ref n6_q1, .int 0, .int 0], ra g n6_q1 5 (va_up (va_up (va_up (va_up (va_up (fun _ => none) 0 (some n6_q2)) 1 (some n6_q3)) 2 (some n6_q4)) 3 (some n6_q5)) 4 (some n6_q6)), ob n6_q2 0 [.int 0, .int 0, .int 1, .int (-1), .int 0], ob n6_q3 0 [.int 0, .int 0, .int 1, .int (-1), .int 0], ob n6_q4 0 [.int 0, .int 0, .int 1, .int (-1), .int 0], ob n6_q5 0 [.int 0, .int 0, .int 1, .int (-1), .int 0], ob n6_q6 0 [.int 0, .int 0, .int 1, .int (-1), .int 0], ia g q2 5 (fun _ => 0), ia g q3 5 (fun _ => 0), ia g q4 5 (fun _ => 0)] H _ := hw
  refine w_putF (ci := 7) (ws' := [ob a 7 [.ref q1, .ref q2, .ref q3, .ref q4, .null, .int 0], ob q1 6 [.ref n6_q1, .int 0, .int 0], ra g n6_q1 5 (va_up (va_up (va_up (va_up (va_up (fun _ => none) 0 (some n6_q2)) 1 (some n6_q3)) 2 (some n6_q4)) 3 (some n6_q5)) 4 (some n6_q6)), ob n6_q2 0 [.int 0, .int 0, .int 1, .int (-1), .int 0], ob n6_q3 0 [.int 0, .int 0, .int 1, .int (-1), .int 0], ob n6_q4 0 [.int 0, .int 0, .int 1, .int (-1), .int 0], ob n6_q5 0 [.int 0, .int 0, .int 1, .int (-1), .int 0], ob n6_q6 0 [.int 0, .int 0, .int 1, .int (-1), .int 0], ia g q2 5 (fun _ => 0), ia g q3 5 (fun _ => 0), ia g q4 5 (fun _ => 0)]) F hnm hK hw fb_X2 0 rfl rfl 3 (by decide) fl_X2_25 (fun _ h => h) rfl rfl rfl rfl rfl (Nat.le_of_ble_eq_true rfl) rfl dX2_init_33 (fun H locs hw => ?_)
  refine lv_aload_n hx hb dX2_init_36 rfl (lv_at hl 0 rfl) ?_
  refine lv_iconst (v := 5) hx hb dX2_init_37 (by decide) ?_
  refine w_newi (N := 5) F hK hw hA (by decide) (by decide) (by decide) (Nat.le_of_ble_eq_true rfl) (Nat.le_of_ble_eq_true rfl) dX2_init_38 (fun q5 H hw => ?_)
  have hw : WD g A s.heap [ob a 7 [.ref q1, .ref q2, .ref q3, .ref q4, .null, .int 0], ob q1 6 [.ref n6_q1, .int 0, .int 0], ra g n6_q1 5 (va_up (va_up (va_up (va_up (va_up (fun _ => none) 0 (some n6_q2)) 1 (some n6_q3)) 2 (some n6_q4)) 3 (some n6_q5)) 4 (some n6_q6)), ob n6_q2 0 [.int 0, .int 0, .int 1, .int (-1), .int 0], ob n6_q3 0 [.int 0, .int 0, .int 1, .int (-1), .int 0], ob n6_q4 0 [.int 0, .int 0, .int 1, .int (-1), .int 0], ob n6_q5 0 [.int 0, .int 0, .int 1, .int (-1), .int 0], ob n6_q6 0 [.int 0, .int 0, .int 1, .int (-1), .int 0], ia g q2 5 (fun _ => 0), ia g q3 5 (fun _ => 0), ia g q4 5 (fun _ => 0), ia g q5 5 (fun _ => 0)] H _ := hw
  refine w_putF (ci := 7) (ws' := [ob a 7 [.ref q1, .ref q2, .ref q3, .ref q4, .ref q5, .int 0], ob q1 6 [.ref n6_q1, .int 0, .int 0], ra g n6_q1 5 (va_up (va_up (va_up (va_up (va_up (fun _ => none) 0 (some n6_q2)) 1 (some n6_q3)) 2 (some n6_q4)) 3 (some n6_q5)) 4 (some n6_q6)), ob n6_q2 0 [.int 0, .int 0, .int 1, .int (-1), .int 0], ob n6_q3 0 [.int 0, .int 0, .int 1, .int (-1), .int 0], ob n6_q4 0 [.int 0, .int 0, .int 1, .int (-1), .int 0], ob n6_q5 0 [.int 0, .int 0, .int 1, .int (-1), .int 0], ob n6_q6 0 [.int 0, .int 0, .int 1, .int (-1), .int 0], ia g q2 5 (fun _ => 0), ia g q3 5 (fun _ => 0), ia g q4 5 (fun _ => 0), ia g q5 5 (fun _ => 0)]) F hnm hK hw fb_X2 0 rfl rfl 4 (by decide) fl_X2_28 (fun _ h => h) rfl rfl rfl rfl rfl (Nat.le_of_ble_eq_true rfl) rfl dX2_init_40 (fun H locs hw => ?_)
  refine lv_aload_n hx hb dX2_init_43 rfl (lv_at hl 0 rfl) ?_
  refine lv_iconst (v := (-1)) hx hb dX2_init_44 (by decide) ?_
  refine w_put (ci := 7) (ws' := [ob a 7 [.ref q1, .ref q2, .ref q3, .ref q4, .ref q5, .int (-1)], ob q1 6 [.ref n6_q1, .int 0, .int 0], ra g n6_q1 5 (va_up (va_up (va_up (va_up (va_up (fun _ => none) 0 (some n6_q2)) 1 (some n6_q3)) 2 (some n6_q4)) 3 (some n6_q5)) 4 (some n6_q6)), ob n6_q2 0 [.int 0, .int 0, .int 1, .int (-1), .int 0], ob n6_q3 0 [.int 0, .int 0, .int 1, .int (-1), .int 0], ob n6_q4 0 [.int 0, .int 0, .int 1, .int (-1), .int 0], ob n6_q5 0 [.int 0, .int 0, .int 1, .int (-1), .int 0], ob n6_q6 0 [.int 0, .int 0, .int 1, .int (-1), .int 0], ia g q2 5 (fun _ => 0), ia g q3 5 (fun _ => 0), ia g q4 5 (fun _ => 0), ia g q5 5 (fun _ => 0)]) F hK hw fb_X2 0 rfl rfl 5 (by decide) fl_X2_31 (fun _ h => h) rfl rfl rfl rfl (Nat.le_of_ble_eq_true rfl) rfl dX2_init_45 (fun H locs hw => ?_)
  have hw := hw
  refine W.widen (k := 11) (n := 53) (Nat.le_of_ble_eq_true rfl) (Nat.le_of_ble_eq_true rfl) ?_
  exact r_cv F hQ ⟨rfl, q1, n6_q1, n6_q2, n6_q3, n6_q4, n6_q5, n6_q6, q2, q3, q4, q5, rfl⟩ hw dX2_init_48
theorem qi_X6_init : QI yX6_init cX6_init 1 0 := ⟨(by decide +kernel), im_X6_init, in_X6, co_X6_init, rfl⟩
set_option maxRecDepth 100000 in
set_option maxHeartbeats 4000000 in
theorem c_X6_init (l : Launch) (g : GG) (a : Nat)  : MC l g yX6_init cX6_init 1 none 2 32 6 34 [.ref a] [ob a 9 [.null, .null, .null, .null, .int 0]] (fun v w1 => v = none ∧ ∃ q1 q2 q3 q4 q5 q6 : Nat, w1 = [ob a 9 [.ref q1, .ref q2, .ref q3, .ref q4, .int 0], ia g q1 5 (fun _ => 0), ia g q2 5 (fun _ => 0), ia g q3 5 (fun _ => 0), ob q4 8 [.ref q5, .ref q6, .int 0], ia g q5 8 (fun _ => 0), ia g q6 8 (fun _ => 0)]) := by
  refine MC.mk (by decide) (Nat.le_of_ble_eq_true rfl) ?_
  intro p e s m args below meth c ls Q A F hnm hK hw hA hl hQ
  have hx := F.1
  have hb := F.2.1
  have hml := F.2.2.2.1
  have hown := F.2.2.2.2.1
  have hts := F.2.2.2.2.2.1
  have hl : lv_has ls 1 [(0, .ref a)] := hl
  refine lv_aload_n hx hb dX6_init_0 rfl (lv_at hl 0 rfl) ?_
  refine w_obj F ml_X6_3 hl.1 dX6_init_1 (Nat.le_of_ble_eq_true rfl) (Nat.le_of_ble_eq_true rfl) ?_
  refine lv_aload_n hx hb dX6_init_4 rfl (lv_at hl 0 rfl) ?_
  refine lv_iconst (v := 5) hx hb dX6_init_5 (by decide) ?_
  refine w_newi (N := 5) F hK hw hA (by decide) (by decide) (by decide) (Nat.le_of_ble_eq_true rfl) (Nat.le_of_ble_eq_true rfl) dX6_init_6 (fun q1 H hw => ?_)
  have hw : WD g A s.heap [ob a 9 [.null, .null, .null, .null, .int 0], ia g q1 5 (fun _ => 0)] H _ := hw
  refine w_putF (ci := 9) (ws' := [ob a 9 [.ref q1, .null, .null, .null, .int 0], ia g q1 5 (fun _ => 0)]) F hnm hK hw fb_X6 0 rfl rfl 0 (by decide) fl_X6_9 (fun _ h => h) rfl rfl rfl rfl rfl (Nat.le_of_ble_eq_true rfl) rfl dX6_init_8 (fun H locs hw => ?_)
  refine lv_aload_n hx hb dX6_init_11 rfl (lv_at hl 0 rfl) ?_
  refine lv_iconst (v := 5) hx hb dX6_init_12 (by decide) ?_
  refine w_newi (N := 5) F hK hw hA (by decide) (by decide) (by decide) (Nat.le_of_ble_eq_true rfl) (Nat.le_of_ble_eq_true rfl) dX6_init_13 (fun q2 H hw => ?_)
  have hw : WD g A s.heap [ob a 9 [.ref q1, .null, .null, .null, .int 0], ia g q1 5 (fun _ => 0), ia g q2 5 (fun _ => 0)] H _ := hw
  refine w_putF (ci := 9) (ws' := [ob a 9 [.ref q1, .ref q2, .null, .null, .int 0], ia g q1 5 (fun _ => 0), ia g q2 5 (fun _ => 0)]) F hnm hK hw fb_X6 0 rfl rfl 1 (by decide) fl_X6_15 (fun _ h => h) rfl rfl rfl rfl rfl (Nat.le_of_ble_eq_true rfl) rfl dX6_init_15 (fun H locs hw => ?_)
  refine lv_aload_n hx hb dX6_init_18 rfl (lv_at hl 0 rfl) ?_
  refine lv_iconst (v := 5) hx hb dX6_init_19 (by decide) ?_
  refine w_newi (N := 5) F hK hw hA (by decide) (by decide) (by decide) (Nat.le_of_ble_eq_true rfl) (Nat.le_of_ble_eq_true rfl) dX6_init_20 (fun q3 H hw => ?_)
  have hw : WD g A s.heap [ob a 9 [.ref q1, .ref q2, .null, .null, .int 0], ia g q1 5 (fun _ => 0), ia g q2 5 (fun _ => 0), ia g q3 5 (fun _ => 0)] H _ := hw
  refine w_putF (ci := 9) (ws' := [ob a 9 [.ref q1, .ref q2, .ref q3, .null, .int 0], ia g q1 5 (fun _ => 0), ia g q2 5 (fun _ => 0), ia g q3 5 (fun _ => 0)]) F hnm hK hw fb_X6 0 rfl rfl 2 (by decide) fl_X6_18 (fun _ h => h) rfl rfl rfl rfl rfl (Nat.le_of_ble_eq_true rfl) rfl dX6_init_22 (fun H locs hw => ?_)
  refine lv_aload_n hx hb dX6_init_25 rfl (lv_at hl 0 rfl) ?_
  refine w_new (ci := 8) (fs := [.null, .null, .int 0]) F hK hw hA fb_X5 rfl cl_X6_21 ist_X5 in_X5 (fun j hj => by rcases (show j = 0 ∨ j = 1 ∨ j = 2 by omega) with rfl | rfl | rfl <;> rfl) (Nat.le_of_ble_eq_true rfl) (Nat.le_of_ble_eq_true rfl) dX6_init_26 (fun q4 H hw => ?_)
  have hw : WD g A s.heap [ob a 9 [.ref q1, .ref q2, .ref q3, .null, .int 0], ia g q1 5 (fun _ => 0), ia g q2 5 (fun _ => 0), ia g q3 5 (fun _ => 0), ob q4 8 [.null, .null, .int 0]] H _ := hw
  refine lv_dup hx hb dX6_init_29 rfl ?_
  refine k_cIN (wr := [ob a 9 [.ref q1, .ref q2, .ref q3, .null, .int 0], ia g q1 5 (fun _ => 0), ia g q2 5 (fun _ => 0), ia g q3 5 (fun _ => 0)]) F (c_X5_init l g q4) qi_X5_init (hK.2.2.2.1 _ (List.mem_of_getElem? (i := 4) rfl)) hw hA hK [4] [0, 1, 2, 3] rfl rfl rfl rfl rfl (by decide) rfl hl.1 rfl (Nat.le_of_ble_eq_true rfl) dX6_init_30 ⟨(Nat.le_of_ble_eq_true rfl), (Nat.le_of_ble_eq_true rfl)⟩ ⟨(Nat.le_of_ble_eq_true rfl), (Nat.le_of_ble_eq_true rfl)⟩ (fun v w1 H locs hpo hw => ?_)
  obtain ⟨rfl, n21_q1, n21_q2, rfl⟩ := hpo
  have hw : WD g A s.heap [ob a 9 [.ref q1, .ref q2, .ref q3, .null, .int 0], ia g q1 5 (fun _ => 0), ia g q2 5 (fun _ => 0), ia g q3 5 (fun _ => 0), ob q4 8 [.ref n21_q1, .ref n21_q2, .int 0], ia g n21_q1 8 (fun _ => 0), ia g n21_q2 8 (fun _ => 0)] H locs := hw
  refine W.eq (g2 := F0 m 33 ls [.ref q4, .ref a]) rfl ?_
  refine w_putF (ci := 9) (ws' := [ob a 9 [.ref q1, .ref q2, .ref q3, .ref q4, .int 0], ia g q1 5 (fun _ => 0), ia g q2 5 (fun _ => 0), ia g q3 5 (fun _ => 0), ob q4 8 [.ref n21_q1, .ref n21_q2, .int 0], ia g n21_q1 8 (fun _ => 0), ia g n21_q2 8 (fun _ => 0)]) F hnm hK hw fb_X6 0 rfl rfl 3 (by decide) fl_X6_24 (fun _ h => h) rfl rfl rfl rfl rfl (Nat.le_of_ble_eq_true rfl) rfl dX6_init_33 (fun H locs hw => ?_)
  have hw := hw
  refine W.widen (k := 6) (n := 34) (Nat.le_of_ble_eq_true rfl) (Nat.le_of_ble_eq_true rfl) ?_
  exact r_cv F hQ ⟨rfl, q1, q2, q3, q4, n21_q1, n21_q2, rfl⟩ hw dX6_init_36
theorem qi_X8_init : QI yX8_init cX8_init 1 0 := ⟨(by decide +kernel), im_X8_init, in_X8, co_X8_init, rfl⟩
set_option maxRecDepth 100000 in
set_option maxHeartbeats 4000000 in
theorem c_X8_init (l : Launch) (g : GG) (a : Nat)  : MC l g yX8_init cX8_init 1 none 1 12 5 2063 [.ref a] [ob a 10 [.null, .null, .null, .null, .null, .int 0, .int 0, .int 0]] (fun v w1 => v = none ∧ ∃ q1 q2 q3 q4 q5 : Nat, w1 = [ob a 10 [.ref q1, .ref q2, .ref q3, .ref q4, .ref q5, .int 0, .int 0, .int 0], ia g q1 1024 (fun _ => 0), ia g q2 1024 (fun _ => 0), ia g q3 5 (fun _ => 0), ia g q4 5 (fun _ => 0), ia g q5 5 (fun _ => 0)]) := by
  refine MC.mk (by decide) (Nat.le_of_ble_eq_true rfl) ?_
  intro p e s m args below meth c ls Q A F hnm hK hw hA hl hQ
  have hx := F.1
  have hb := F.2.1
  have hml := F.2.2.2.1
  have hown := F.2.2.2.2.1
  have hts := F.2.2.2.2.2.1
  have hl : lv_has ls 1 [(0, .ref a)] := hl
  refine lv_aload_n hx hb dX8_init_0 rfl (lv_at hl 0 rfl) ?_
  refine w_obj F ml_X8_3 hl.1 dX8_init_1 (Nat.le_of_ble_eq_true rfl) (Nat.le_of_ble_eq_true rfl) ?_
  refine lv_aload_n hx hb dX8_init_4 rfl (lv_at hl 0 rfl) ?_
  refine lv_sipush (v := 1024) hx hb dX8_init_5 (by decide) ?_
  refine w_newi (N := 1024) F hK hw hA (by decide) (by decide) (by decide) (Nat.le_of_ble_eq_true rfl) (Nat.le_of_ble_eq_true rfl) dX8_init_8 (fun q1 H hw => ?_)
  have hw : WD g A s.heap [ob a 10 [.null, .null, .null, .null, .null, .int 0, .int 0, .int 0], ia g q1 1024 (fun _ => 0)] H _ := hw
  refine w_putF (ci := 10) (ws' := [ob a 10 [.ref q1, .null, .null, .null, .null, .int 0, .int 0, .int 0], ia g q1 1024 (fun _ => 0)]) F hnm hK hw fb_X8 0 rfl rfl 0 (by decide) fl_X8_11 (fun _ h => h) rfl rfl rfl rfl rfl (Nat.le_of_ble_eq_true rfl) rfl dX8_init_10 (fun H locs hw => ?_)
  refine lv_aload_n hx hb dX8_init_13 rfl (lv_at hl 0 rfl) ?_
  refine lv_sipush (v := 1024) hx hb dX8_init_14 (by decide) ?_
  refine w_newi (N := 1024) F hK hw hA (by decide) (by decide) (by decide) (Nat.le_of_ble_eq_true rfl) (Nat.le_of_ble_eq_true rfl) dX8_init_17 (fun q2 H hw => ?_)
  have hw : WD g A s.heap [ob a 10 [.ref q1, .null, .null, .null, .null, .int 0, .int 0, .int 0], ia g q1 1024 (fun _ => 0), ia g q2 1024 (fun _ => 0)] H _ := hw
  refine w_putF (ci := 10) (ws' := [ob a 10 [.ref q1, .ref q2, .null, .null, .null, .int 0, .int 0, .int 0], ia g q1 1024 (fun _ => 0), ia g q2 1024 (fun _ => 0)]) F hnm hK hw fb_X8 0 rfl rfl 1 (by decide) fl_X8_15 (fun _ h => h) rfl rfl rfl rfl rfl (Nat.le_of_ble_eq_true rfl) rfl dX8_init_19 (fun H locs hw => ?_)
  refine lv_aload_n hx hb dX8_init_22 rfl (lv_at hl 0 rfl) ?_
  refine lv_iconst (v := 5) hx hb dX8_init_23 (by decide) ?_
  refine w_newi (N := 5) F hK hw hA (by decide) (by decide) (by decide) (Nat.le_of_ble_eq_true rfl) (Nat.le_of_ble_eq_true rfl) dX8_init_24 (fun q3 H hw => ?_)
  have hw : WD g A s.heap [ob a 10 [.ref q1, .ref q2, .null, .null, .null, .int 0, .int 0, .int 0], ia g q1 1024 (fun _ => 0), ia g q2 1024 (fun _ => 0), ia g q3 5 (fun _ => 0)] H _ := hw
  refine w_putF (ci := 10) (ws' := [ob a 10 [.ref q1, .ref q2, .ref q3, .null, .null, .int 0, .int 0, .int 0], ia g q1 1024 (fun _ => 0), ia g q2 1024 (fun _ => 0), ia g q3 5 (fun _ => 0)]) F hnm hK hw fb_X8 0 rfl rfl 2 (by decide) fl_X8_18 (fun _ h => h) rfl rfl rfl rfl rfl (Nat.le_of_ble_eq_true rfl) rfl dX8_init_26 (fun H locs hw => ?_)
  refine lv_aload_n hx hb dX8_init_29 rfl (lv_at hl 0 rfl) ?_
  refine lv_iconst (v := 5) hx hb dX8_init_30 (by decide) ?_
  refine w_newi (N := 5) F hK hw hA (by decide) (by decide) (by decide) (Nat.le_of_ble_eq_true rfl) (Nat.le_of_ble_eq_true rfl) dX8_init_31 (fun q4 H hw => ?_)
  have hw : WD g A s.heap [ob a 10 [.ref q1, .ref q2, .ref q3, .null, .null, .int 0, .int 0, .int 0], ia g q1 1024 (fun _ => 0), ia g q2 1024 (fun _ => 0), ia g q3 5 (fun _ => 0), ia g q4 5 (fun _ => 0)] H _ := hw
  refine w_putF (ci := 10) (ws' := [ob a 10 [.ref q1, .ref q2, .ref q3, .ref q4, .null, .int 0, .int 0, .int 0], ia g q1 1024 (fun _ => 0), ia g q2 1024 (fun _ => 0), ia g q3 5 (fun _ => 0), ia g q4 5 (fun _ => 0)]) F hnm hK hw fb_X8 0 rfl rfl 3 (by decide) fl_X8_21 (fun _ h => h) rfl rfl rfl rfl rfl (Nat.le_of_ble_eq_true rfl) rfl dX8_init_33 (fun H locs hw => ?_)
  refine lv_aload_n hx hb dX8_init_36 rfl (lv_at hl 0 rfl) ?_
  refine lv_iconst (v := 5) hx hb dX8_init_37 (by decide) ?_
  refine w_newi (N := 5) F hK hw hA (by decide) (by decide) (by decide) (Nat.le_of_ble_eq_true rfl) (Nat.le_of_ble_eq_true rfl) dX8_init_38 (fun q5 H hw => ?_)
  have hw : WD g A s.heap [ob a 10 [.ref q1, .ref q2, .ref q3, .ref q4, .null, .int 0, .int 0, .int 0], ia g q1 1024 (fun _ => 0), ia g q2 1024 (fun _ => 0), ia g q3 5 (fun _ => 0), ia g q4 5 (fun _ => 0), ia g q5 5 (fun _ => 0)] H _ := hw
  refine w_putF (ci := 10) (ws' := [ob a 10 [.ref q1, .ref q2, .ref q3, .ref q4, .ref q5, .int 0, .int 0, .int 0], ia g q1 1024 (fun _ => 0), ia g q2 1024 (fun _ => 0), ia g q3 5 (fun _ => 0), ia g q4 5 (fun _ => 0), ia g q5 5 (fun _ => 0)]) F hnm hK hw fb_X8 0 rfl rfl 4 (by decide) fl_X8_24 (fun _ h => h) rfl rfl rfl rfl rfl (Nat.le_of_ble_eq_true rfl) rfl dX8_init_40 (fun H locs hw => ?_)
  have hw := hw
  refine W.widen (k := 5) (n := 2063) (Nat.le_of_ble_eq_true rfl) (Nat.le_of_ble_eq_true rfl) ?_
  exact r_cv F hQ ⟨rfl, q1, q2, q3, q4, q5, rfl⟩ hw dX8_init_43
theorem qi_X11_init : QI yX11_init cX11_init 1 0 := ⟨(by decide +kernel), im_X11_init, in_X11, co_X11_init, rfl⟩
set_option maxRecDepth 100000 in
set_option maxHeartbeats 4000000 in
theorem c_X11_init (l : Launch) (g : GG) (a : Nat)  : MC l g yX11_init cX11_init 1 none 4 76 30 2218 [.ref a] [ob a 11 [.null, .null, .null, .null, .null, .null, .int 0, .int 0]] (fun v w1 => v = none ∧ ∃ q1 q2 q3 q4 q5 q6 q7 q8 q9 q10 q11 q12 q13 q14 q15 q16 q17 q18 q19 q20 q21 q22 q23 q24 q25 q26 q27 q28 q29 q30 : Nat, w1 = [ob a 11 [.ref q1, .ref q4, .ref q3, .ref q15, .ref q18, .ref q25, .int 0, .int 0], ob q1 5 [.ref q2, .int 0], ia g q2 28 (fun _ => 0), ob q3 7 [.ref q4, .ref q11, .ref q12, .ref q13, .ref q14, .int (-1)], ob q4 6 [.ref q5, .int 0, .int 0], ra g q5 5 (va_up (va_up (va_up (va_up (va_up (fun _ => none) 0 (some q6)) 1 (some q7)) 2 (some q8)) 3 (some q9)) 4 (some q10)), ob q6 0 [.int 0, .int 0, .int 1, .int (-1), .int 0], ob q7 0 [.int 0, .int 0, .int 1, .int (-1), .int 0], ob q8 0 [.int 0, .int 0, .int 1, .int (-1), .int 0], ob q9 0 [.int 0, .int 0, .int 1, .int (-1), .int 0], ob q10 0 [.int 0, .int 0, .int 1, .int (-1), .int 0], ia g q11 5 (fun _ => 0), ia g q12 5 (fun _ => 0), ia g q13 5 (fun _ => 0), ia g q14 5 (fun _ => 0), ob q15 8 [.ref q16, .ref q17, .int 0], ia g q16 8 (fun _ => 0), ia g q17 8 (fun _ => 0), ob q18 9 [.ref q19, .ref q20, .ref q21, .ref q22, .int 0], ia g q19 5 (fun _ => 0), ia g q20 5 (fun _ => 0), ia g q21 5 (fun _ => 0), ob q22 8 [.ref q23, .ref q24, .int 0], ia g q23 8 (fun _ => 0), ia g q24 8 (fun _ => 0), ob q25 10 [.ref q26, .ref q27, .ref q28, .ref q29, .ref q30, .int 0, .int 0, .int 0], ia g q26 1024 (fun _ => 0), ia g q27 1024 (fun _ => 0), ia g q28 5 (fun _ => 0), ia g q29 5 (fun _ => 0), ia g q30 5 (fun _ => 0)]) := by
  refine MC.mk (by decide) (Nat.le_of_ble_eq_true rfl) ?_
  intro p e s m args below meth c ls Q A F hnm hK hw hA hl hQ
  have hx := F.1
  have hb := F.2.1
  have hml := F.2.2.2.1
  have hown := F.2.2.2.2.1
  have hts := F.2.2.2.2.2.1
  have hl : lv_has ls 1 [(0, .ref a)] := hl
  refine lv_aload_n hx hb dX11_init_0 rfl (lv_at hl 0 rfl) ?_
  refine w_obj F ml_X11_1 hl.1 dX11_init_1 (Nat.le_of_ble_eq_true rfl) (Nat.le_of_ble_eq_true rfl) ?_
  refine lv_aload_n hx hb dX11_init_4 rfl (lv_at hl 0 rfl) ?_
  refine w_new (ci := 5) (fs := [.null, .int 0]) F hK hw hA fb_X7 rfl cl_X11_7 ist_X7 in_X7 (fun j hj => by rcases (show j = 0 ∨ j = 1 by omega) with rfl | rfl <;> rfl) (Nat.le_of_ble_eq_true rfl) (Nat.le_of_ble_eq_true rfl) dX11_init_5 (fun q1 H hw => ?_)
  have hw : WD g A s.heap [ob a 11 [.null, .null, .null, .null, .null, .null, .int 0, .int 0], ob q1 5 [.null, .int 0]] H _ := hw
  refine lv_dup hx hb dX11_init_8 rfl ?_
  refine k_cIN (wr := [ob a 11 [.null, .null, .null, .null, .null, .null, .int 0, .int 0]]) F (c_X7_init l g q1) qi_X7_init (hK.2.2.2.1 _ (List.mem_of_getElem? (i := 0) rfl)) hw hA hK [1] [0] rfl rfl rfl rfl rfl (by decide) rfl hl.1 rfl (Nat.le_of_ble_eq_true rfl) dX11_init_9 ⟨(Nat.le_of_ble_eq_true rfl), (Nat.le_of_ble_eq_true rfl)⟩ ⟨(Nat.le_of_ble_eq_true rfl), (Nat.le_of_ble_eq_true rfl)⟩ (fun v w1 H locs hpo hw => ?_)
  obtain ⟨rfl, n6_q1, rfl⟩ := hpo
  have hw : WD g A s.heap [ob a 11 [.null, .null, .null, .null, .null, .null, .int 0, .int 0], ob q1 5 [.ref n6_q1, .int 0], ia g n6_q1 28 (fun _ => 0)] H locs := hw
  refine W.eq (g2 := F0 m 12 ls [.ref q1, .ref a]) rfl ?_
  refine w_putF (ci := 11) (ws' := [ob a 11 [.ref q1, .null, .null, .null, .null, .null, .int 0, .int 0], ob q1 5 [.ref n6_q1, .int 0], ia g n6_q1 28 (fun _ => 0)]) F hnm hK hw fb_X11 0 rfl rfl 0 (by decide) fl_X11_10 (fun _ h => h) rfl rfl rfl rfl rfl (Nat.le_of_ble_eq_true rfl) rfl dX11_init_12 (fun H locs hw => ?_)
  refine lv_aload_n hx hb dX11_init_15 rfl (lv_at hl 0 rfl) ?_
  refine w_new (ci := 7) (fs := [.null, .null, .null, .null, .null, .int 0]) F hK hw hA fb_X2 rfl cl_X11_16 ist_X2 in_X2 (fun j hj => by rcases (show j = 0 ∨ j = 1 ∨ j = 2 ∨ j = 3 ∨ j = 4 ∨ j = 5 by omega) with rfl | rfl | rfl | rfl | rfl | rfl <;> rfl) (Nat.le_of_ble_eq_true rfl) (Nat.le_of_ble_eq_true rfl) dX11_init_16 (fun q2 H hw => ?_)
  have hw : WD g A s.heap [ob a 11 [.ref q1, .null, .null, .null, .null, .null, .int 0, .int 0], ob q1 5 [.ref n6_q1, .int 0], ia g n6_q1 28 (fun _ => 0), ob q2 7 [.null, .null, .null, .null, .null, .int 0]] H _ := hw
  refine lv_dup hx hb dX11_init_19 rfl ?_
  refine k_cIN (wr := [ob a 11 [.ref q1, .null, .null, .null, .null, .null, .int 0, .int 0], ob q1 5 [.ref n6_q1, .int 0], ia g n6_q1 28 (fun _ => 0)]) F (c_X2_init l g q2) qi_X2_init (hK.2.2.2.1 _ (List.mem_of_getElem? (i := 1) rfl)) hw hA hK [3] [0, 1, 2] rfl rfl rfl rfl rfl (by decide) rfl hl.1 rfl (Nat.le_of_ble_eq_true rfl) dX11_init_20 ⟨(Nat.le_of_ble_eq_true rfl), (Nat.le_of_ble_eq_true rfl)⟩ ⟨(Nat.le_of_ble_eq_true rfl), (Nat.le_of_ble_eq_true rfl)⟩ (fun v w1 H locs hpo hw => ?_)
  obtain ⟨rfl, n15_q1, n15_q2, n15_q3, n15_q4, n15_q5, n15_q6, n15_q7, n15_q8, n15_q9, n15_q10, n15_q11, rfl⟩ := hpo
  have hw : WD g A s.heap [ob a 11 [.ref q1, .null, .null, .null, .null, .null, .int 0, .int 0], ob q1 5 [.ref n6_q1, .int 0], ia g n6_q1 28 (fun _ => 0), ob q2 7 [.ref n15_q1, .ref n15_q8, .ref n15_q9, .ref n15_q10, .ref n15_q11, .int (-1)], ob n15_q1 6 [.ref n15_q2, .int 0, .int 0], ra g n15_q2 5 (va_up (va_up (va_up (va_up (va_up (fun _ => none) 0 (some n15_q3)) 1 (some n15_q4)) 2 (some n15_q5)) 3 (some n15_q6)) 4 (some n15_q7)), ob n15_q3 0 [.int 0, .int 0, .int 1, .int (-1), .int 0], ob n15_q4 0 [.int 0, .int 0, .int 1, .int (-1), .int 0], ob n15_q5 0 [.int 0, .int 0, .int 1, .int (-1), .int 0], ob n15_q6 0 [.int 0, .int 0, .int 1, .int (-1), .int 0], ob n15_q7 0 [.int 0, .int 0, .int 1, .int (-1), .int 0], ia g n15_q8 5 (fun _ => 0), ia g n15_q9 5 (fun _ => 0), ia g n15_q10 5 (fun _ => 0), ia g n15_q11 5 (fun _ => 0)] H locs := hw
  refine W.eq (g2 := F0 m 23 ls [.ref q2, .ref a]) rfl ?_
  refine w_putF (ci := 11) (ws' := [ob a 11 [.ref q1, .null, .ref q2, .null, .null, .null, .int 0, .int 0], ob q1 5 [.ref n6_q1, .int 0], ia g n6_q1 28 (fun _ => 0), ob q2 7 [.ref n15_q1, .ref n15_q8, .ref n15_q9, .ref n15_q10, .ref n15_q11, .int (-1)], ob n15_q1 6 [.ref n15_q2, .int 0, .int 0], ra g n15_q2 5 (va_up (va_up (va_up (va_up (va_up (fun _ => none) 0 (some n15_q3)) 1 (some n15_q4)) 2 (some n15_q5)) 3 (some n15_q6)) 4 (some n15_q7)), ob n15_q3 0 [.int 0, .int 0, .int 1, .int (-1), .int 0], ob n15_q4 0 [.int 0, .int 0, .int 1, .int (-1), .int 0], ob n15_q5 0 [.int 0, .int 0, .int 1, .int (-1), .int 0], ob n15_q6 0 [.int 0, .int 0, .int 1, .int (-1), .int 0], ob n15_q7 0 [.int 0, .int 0, .int 1, .int (-1), .int 0], ia g n15_q8 5 (fun _ => 0), ia g n15_q9 5 (fun _ => 0), ia g n15_q10 5 (fun _ => 0), ia g n15_q11 5 (fun _ => 0)]) F hnm hK hw fb_X11 0 rfl rfl 2 (by decide) fl_X11_19 (fun _ h => h) rfl rfl rfl rfl rfl (Nat.le_of_ble_eq_true rfl) rfl dX11_init_23 (fun H locs hw => ?_)
  refine lv_aload_n hx hb dX11_init_26 rfl (lv_at hl 0 rfl) ?_
  refine lv_aload_n hx hb dX11_init_27 rfl (lv_at hl 0 rfl) ?_
  refine w_get (ci := 11) F hK hw.1 fb_X11 0 rfl rfl 2 (by decide) fl_X11_19 (fun _ h => h) rfl dX11_init_28 ?_
  refine w_get (ci := 7) F hK hw.1 fb_X2 3 rfl rfl 0 (by decide) fl_X11_23 (fun _ h => h) rfl dX11_init_31 ?_
  refine w_putF (ci := 11) (ws' := [ob a 11 [.ref q1, .ref n15_q1, .ref q2, .null, .null, .null, .int 0, .int 0], ob q1 5 [.ref n6_q1, .int 0], ia g n6_q1 28 (fun _ => 0), ob q2 7 [.ref n15_q1, .ref n15_q8, .ref n15_q9, .ref n15_q10, .ref n15_q11, .int (-1)], ob n15_q1 6 [.ref n15_q2, .int 0, .int 0], ra g n15_q2 5 (va_up (va_up (va_up (va_up (va_up (fun _ => none) 0 (some n15_q3)) 1 (some n15_q4)) 2 (some n15_q5)) 3 (some n15_q6)) 4 (some n15_q7)), ob n15_q3 0 [.int 0, .int 0, .int 1, .int (-1), .int 0], ob n15_q4 0 [.int 0, .int 0, .int 1, .int (-1), .int 0], ob n15_q5 0 [.int 0, .int 0, .int 1, .int (-1), .int 0], ob n15_q6 0 [.int 0, .int 0, .int 1, .int (-1), .int 0], ob n15_q7 0 [.int 0, .int 0, .int 1, .int (-1), .int 0], ia g n15_q8 5 (fun _ => 0), ia g n15_q9 5 (fun _ => 0), ia g n15_q10 5 (fun _ => 0), ia g n15_q11 5 (fun _ => 0)]) F hnm hK hw fb_X11 0 rfl rfl 1 (by decide) fl_X11_27 (fun _ h => h) rfl rfl rfl rfl rfl (Nat.le_of_ble_eq_true rfl) rfl dX11_init_34 (fun H locs hw => ?_)
  refine lv_aload_n hx hb dX11_init_37 rfl (lv_at hl 0 rfl) ?_
  refine w_new (ci := 8) (fs := [.null, .null, .int 0]) F hK hw hA fb_X5 rfl cl_X11_28 ist_X5 in_X5 (fun j hj => by rcases (show j = 0 ∨ j = 1 ∨ j = 2 by omega) with rfl | rfl | rfl <;> rfl) (Nat.le_of_ble_eq_true rfl) (Nat.le_of_ble_eq_true rfl) dX11_init_38 (fun q3 H hw => ?_)
  have hw : WD g A s.heap [ob a 11 [.ref q1, .ref n15_q1, .ref q2, .null, .null, .null, .int 0, .int 0], ob q1 5 [.ref n6_q1, .int 0], ia g n6_q1 28 (fun _ => 0), ob q2 7 [.ref n15_q1, .ref n15_q8, .ref n15_q9, .ref n15_q10, .ref n15_q11, .int (-1)], ob n15_q1 6 [.ref n15_q2, .int 0, .int 0], ra g n15_q2 5 (va_up (va_up (va_up (va_up (va_up (fun _ => none) 0 (some n15_q3)) 1 (some n15_q4)) 2 (some n15_q5)) 3 (some n15_q6)) 4 (some n15_q7)), ob n15_q3 0 [.int 0, .int 0, .int 1, .int (-1), .int 0], ob n15_q4 0 [.int 0, .int 0, .int 1, .int (-1), .int 0], ob n15_q5 0 [.int 0, .int 0, .int 1, .int (-1), .int 0], ob n15_q6 0 [.int 0, .int 0, .int 1, .int (-1), .int 0], ob n15_q7 0 [.int 0, .int 0, .int 1, .int (-1), .int 0], ia g n15_q8 5 (fun _ => 0), ia g n15_q9 5 (fun _ => 0), ia g n15_q10 5 (fun _ => 0), ia g n15_q11 5 (fun _ => 0), ob q3 8 [.null, .null, .int 0]] H _ := hw
  refine lv_dup hx hb dX11_init_41 rfl ?_
  refine k_cIN (wr := [ob a 11 [.ref q1, .ref n15_q1, .ref q2, .null, .null, .null, .int 0, .int 0], ob q1 5 [.ref n6_q1, .int 0], ia g n6_q1 28 (fun _ => 0), ob q2 7 [.ref n15_q1, .ref n15_q8, .ref n15_q9, .ref n15_q10, .ref n15_q11, .int (-1)], ob n15_q1 6 [.ref n15_q2, .int 0, .int 0], ra g n15_q2 5 (va_up (va_up (va_up (va_up (va_up (fun _ => none) 0 (some n15_q3)) 1 (some n15_q4)) 2 (some n15_q5)) 3 (some n15_q6)) 4 (some n15_q7)), ob n15_q3 0 [.int 0, .int 0, .int 1, .int (-1), .int 0], ob n15_q4 0 [.int 0, .int 0, .int 1, .int (-1), .int 0], ob n15_q5 0 [.int 0, .int 0, .int 1, .int (-1), .int 0], ob n15_q6 0 [.int 0, .int 0, .int 1, .int (-1), .int 0], ob n15_q7 0 [.int 0, .int 0, .int 1, .int (-1), .int 0], ia g n15_q8 5 (fun _ => 0), ia g n15_q9 5 (fun _ => 0), ia g n15_q10 5 (fun _ => 0), ia g n15_q11 5 (fun _ => 0)]) F (c_X5_init l g q3) qi_X5_init (hK.2.2.2.1 _ (List.mem_of_getElem? (i := 2) rfl)) hw hA hK [15] [0, 1, 2, 3, 4, 5, 6, 7, 8, 9, 10, 11, 12, 13, 14] rfl rfl rfl rfl rfl (by decide) rfl hl.1 rfl (Nat.le_of_ble_eq_true rfl) dX11_init_42 ⟨(Nat.le_of_ble_eq_true rfl), (Nat.le_of_ble_eq_true rfl)⟩ ⟨(Nat.le_of_ble_eq_true rfl), (Nat.le_of_ble_eq_true rfl)⟩ (fun v w1 H locs hpo hw => ?_)
  obtain ⟨rfl, n29_q1, n29_q2, rfl⟩ := hpo
  have hw : WD g A s.heap [ob a 11 [.ref q1, .ref n15_q1, .ref q2, .null, .null, .null, .int 0, .int 0], ob q1 5 [.ref n6_q1, .int 0], ia g n6_q1 28 (fun _ => 0), ob q2 7 [.ref n15_q1, .ref n15_q8, .ref n15_q9, .ref n15_q10, .ref n15_q11, .int (-1)], ob n15_q1 6 [.ref n15_q2, .int 0, .int 0], ra g n15_q2 5 (va_up (va_up (va_up (va_up (va_up (fun _ => none) 0 (some n15_q3)) 1 (some n15_q4)) 2 (some n15_q5)) 3 (some n15_q6)) 4 (some n15_q7)), ob n15_q3 0 [.int 0, .int 0, .int 1, .int (-1), .int 0], ob n15_q4 0 [.int 0, .int 0, .int 1, .int (-1), .int 0], ob n15_q5 0 [.int 0, .int 0, .int 1, .int (-1), .int 0], ob n15_q6 0 [.int 0, .int 0, .int 1, .int (-1), .int 0], ob n15_q7 0 [.int 0, .int 0, .int 1, .int (-1), .int 0], ia g n15_q8 5 (fun _ => 0), ia g n15_q9 5 (fun _ => 0), ia g n15_q10 5 (fun _ => 0), ia g n15_q11 5 (fun _ => 0), ob q3 8 [.ref n29_q1, .ref n29_q2, .int 0], ia g n29_q1 8 (fun _ => 0), ia g n29_q2 8 (fun _ => 0)] H locs := hw
  refine W.eq (g2 := F0 m 45 ls [.ref q3, .ref a]) rfl ?_
  refine w_putF (ci := 11) (ws' := [ob a 11 [.ref q1, .ref n15_q1, .ref q2, .ref q3, .null, .null, .int 0, .int 0], ob q1 5 [.ref n6_q1, .int 0], ia g n6_q1 28 (fun _ => 0), ob q2 7 [.ref n15_q1, .ref n15_q8, .ref n15_q9, .ref n15_q10, .ref n15_q11, .int (-1)], ob n15_q1 6 [.ref n15_q2, .int 0, .int 0], ra g n15_q2 5 (va_up (va_up (va_up (va_up (va_up (fun _ => none) 0 (some n15_q3)) 1 (some n15_q4)) 2 (some n15_q5)) 3 (some n15_q6)) 4 (some n15_q7)), ob n15_q3 0 [.int 0, .int 0, .int 1, .int (-1), .int 0], ob n15_q4 0 [.int 0, .int 0, .int 1, .int (-1), .int 0], ob n15_q5 0 [.int 0, .int 0, .int 1, .int (-1), .int 0], ob n15_q6 0 [.int 0, .int 0, .int 1, .int (-1), .int 0], ob n15_q7 0 [.int 0, .int 0, .int 1, .int (-1), .int 0], ia g n15_q8 5 (fun _ => 0), ia g n15_q9 5 (fun _ => 0), ia g n15_q10 5 (fun _ => 0), ia g n15_q11 5 (fun _ => 0), ob q3 8 [.ref n29_q1, .ref n29_q2, .int 0], ia g n29_q1 8 (fun _ => 0), ia g n29_q2 8 (fun _ => 0)]) F hnm hK hw fb_X11 0 rfl rfl 3 (by decide) fl_X11_31 (fun _ h => h) rfl rfl rfl rfl rfl (Nat.le_of_ble_eq_true rfl) rfl dX11_init_45 (fun H locs hw => ?_)
  refine lv_aload_n hx hb dX11_init_48 rfl (lv_at hl 0 rfl) ?_
  refine w_new (ci := 9) (fs := [.null, .null, .null, .null, .int 0]) F hK hw hA fb_X6 rfl cl_X11_35 ist_X6 in_X6 (fun j hj => by rcases (show j = 0 ∨ j = 1 ∨ j = 2 ∨ j = 3 ∨ j = 4 by omega) with rfl | rfl | rfl | rfl | rfl <;> rfl) (Nat.le_of_ble_eq_true rfl) (Nat.le_of_ble_eq_true rfl) dX11_init_49 (fun q4 H hw => ?_)
  have hw : WD g A s.heap [ob a 11 [.ref q1, .ref n15_q1, .ref q2, .ref q3, .null, .null, .int 0, .int 0], ob q1 5 [.ref n6_q1, .int 0], ia g n6_q1 28 (fun _ => 0), ob q2 7 [.ref n15_q1, .ref n15_q8, .ref n15_q9, .ref n15_q10, .ref n15_q11, .int (-1)], ob n15_q1 6 [.ref n15_q2, .int 0, .int 0], ra g n15_q2 5 (va_up (va_up (va_up (va_up (va_up (fun _ => none) 0 (some n15_q3)) 1 (some n15_q4)) 2 (some n15_q5)) 3 (some n15_q6)) 4 (some n15_q7)), ob n15_q3 0 [.int 0, .int 0, .int 1, .int (-1), .int 0], ob n15_q4 0 [.int 0, .int 0, .int 1, .int (-1), .int 0], ob n15_q5 0 [.int 0, .int 0, .int 1, .int (-1), .int 0], ob n15_q6 0 [.int 0, .int 0, .int 1, .int (-1), .int 0], ob n15_q7 0 [.int 0, .int 0, .int 1, .int (-1), .int 0], ia g n15_q8 5 (fun _ => 0), ia g n15_q9 5 (fun _ => 0), ia g n15_q10 5 (fun _ => 0), ia g n15_q11 5 (fun _ => 0), ob q3 8 [.ref n29_q1, .ref n29_q2, .int 0], ia g n29_q1 8 (fun _ => 0), ia g n29_q2 8 (fun _ => 0), ob q4 9 [.null, .null, .null, .null, .int 0]] H _ := hw
  refine lv_dup hx hb dX11_init_52 rfl ?_
  refine k_cIN (wr := [ob a 11 [.ref q1, .ref n15_q1, .ref q2, .ref q3, .null, .null, .int 0, .int 0], ob q1 5 [.ref n6_q1, .int 0], ia g n6_q1 28 (fun _ => 0), ob q2 7 [.ref n15_q1, .ref n15_q8, .ref n15_q9, .ref n15_q10, .ref n15_q11, .int (-1)], ob n15_q1 6 [.ref n15_q2, .int 0, .int 0], ra g n15_q2 5 (va_up (va_up (va_up (va_up (va_up (fun _ => none) 0 (some n15_q3)) 1 (some n15_q4)) 2 (some n15_q5)) 3 (some n15_q6)) 4 (some n15_q7)), ob n15_q3 0 [.int 0, .int 0, .int 1, .int (-1), .int 0], ob n15_q4 0 [.int 0, .int 0, .int 1, .int (-1), .int 0], ob n15_q5 0 [.int 0, .int 0, .int 1, .int (-1), .int 0], ob n15_q6 0 [.int 0, .int 0, .int 1, .int (-1), .int 0], ob n15_q7 0 [.int 0, .int 0, .int 1, .int (-1), .int 0], ia g n15_q8 5 (fun _ => 0), ia g n15_q9 5 (fun _ => 0), ia g n15_q10 5 (fun _ => 0), ia g n15_q11 5 (fun _ => 0), ob q3 8 [.ref n29_q1, .ref n29_q2, .int 0], ia g n29_q1 8 (fun _ => 0), ia g n29_q2 8 (fun _ => 0)]) F (c_X6_init l g q4) qi_X6_init (hK.2.2.2.1 _ (List.mem_of_getElem? (i := 3) rfl)) hw hA hK [18] [0, 1, 2, 3, 4, 5, 6, 7, 8, 9, 10, 11, 12, 13, 14, 15, 16, 17] rfl rfl rfl rfl rfl (by decide) rfl hl.1 rfl (Nat.le_of_ble_eq_true rfl) dX11_init_53 ⟨(Nat.le_of_ble_eq_true rfl), (Nat.le_of_ble_eq_true rfl)⟩ ⟨(Nat.le_of_ble_eq_true rfl), (Nat.le_of_ble_eq_true rfl)⟩ (fun v w1 H locs hpo hw => ?_)
  obtain ⟨rfl, n38_q1, n38_q2, n38_q3, n38_q4, n38_q5, n38_q6, rfl⟩ := hpo
  have hw : WD g A s.heap [ob a 11 [.ref q1, .ref n15_q1, .ref q2, .ref q3, .null, .null, .int 0, .int 0], ob q1 5 [.ref n6_q1, .int 0], ia g n6_q1 28 (fun _ => 0), ob q2 7 [.ref n15_q1, .ref n15_q8, .ref n15_q9, .ref n15_q10, .ref n15_q11, .int (-1)], ob n15_q1 6 [.ref n15_q2, .int 0, .int 0], ra g n15_q2 5 (va_up (va_up (va_up (va_up (va_up (fun _ => none) 0 (some n15_q3)) 1 (some n15_q4)) 2 (some n15_q5)) 3 (some n15_q6)) 4 (some n15_q7)), ob n15_q3 0 [.int 0, .int 0, .int 1, .int (-1), .int 0], ob n15_q4 0 [.int 0, .int 0, .int 1, .int (-1), .int 0], ob n15_q5 0 [.int 0, .int 0, .int 1, .int (-1), .int 0], ob n15_q6 0 [.int 0, .int 0, .int 1, .int (-1), .int 0], ob n15_q7 0 [.int 0, .int 0, .int 1, .int (-1), .int 0], ia g n15_q8 5 (fun _ => 0), ia g n15_q9 5 (fun _ => 0), ia g n15_q10 5 (fun _ => 0), ia g n15_q11 5 (fun _ => 0), ob q3 8 [.ref n29_q1, .ref n29_q2, .int 0], ia g n29_q1 8 (fun _ => 0), ia g n29_q2 8 (fun _ => 0), ob q4 9 [.ref n38_q1, .ref n38_q2, .ref n38_q3, .ref n38_q4, .int 0], ia g n38_q1 5 (fun _ => 0), ia g n38_q2 5 (fun _ => 0), ia g n38_q3 5 (fun _ => 0), ob n38_q4 8 [.ref n38_q5, .ref n38_q6, .int 0], ia g n38_q5 8 (fun _ => 0), ia g n38_q6 8 (fun _ => 0)] H locs := hw
  refine W.eq (g2 := F0 m 56 ls [.ref q4, .ref a]) rfl ?_
  refine w_putF (ci := 11) (ws' := [ob a 11 [.ref q1, .ref n15_q1, .ref q2, .ref q3, .ref q4, .null, .int 0, .int 0], ob q1 5 [.ref n6_q1, .int 0], ia g n6_q1 28 (fun _ => 0), ob q2 7 [.ref n15_q1, .ref n15_q8, .ref n15_q9, .ref n15_q10, .ref n15_q11, .int (-1)], ob n15_q1 6 [.ref n15_q2, .int 0, .int 0], ra g n15_q2 5 (va_up (va_up (va_up (va_up (va_up (fun _ => none) 0 (some n15_q3)) 1 (some n15_q4)) 2 (some n15_q5)) 3 (some n15_q6)) 4 (some n15_q7)), ob n15_q3 0 [.int 0, .int 0, .int 1, .int (-1), .int 0], ob n15_q4 0 [.int 0, .int 0, .int 1, .int (-1), .int 0], ob n15_q5 0 [.int 0, .int 0, .int 1, .int (-1), .int 0], ob n15_q6 0 [.int 0, .int 0, .int 1, .int (-1), .int 0], ob n15_q7 0 [.int 0, .int 0, .int 1, .int (-1), .int 0], ia g n15_q8 5 (fun _ => 0), ia g n15_q9 5 (fun _ => 0), ia g n15_q10 5 (fun _ => 0), ia g n15_q11 5 (fun _ => 0), ob q3 8 [.ref n29_q1, .ref n29_q2, .int 0], ia g n29_q1 8 (fun _ => 0), ia g n29_q2 8 (fun _ => 0), ob q4 9 [.ref n38_q1, .ref n38_q2, .ref n38_q3, .ref n38_q4, .int 0], ia g n38_q1 5 (fun _ => 0), ia g n38_q2 5 (fun _ => 0), ia g n38_q3 5 (fun _ => 0), ob n38_q4 8 [.ref n38_q5, .ref n38_q6, .int 0], ia g n38_q5 8 (fun _ => 0), ia g n38_q6 8 (fun _ => 0)]) F hnm hK hw fb_X11 0 rfl rfl 4 (by decide) fl_X11_38 (fun _ h => h) rfl rfl rfl rfl rfl (Nat.le_of_ble_eq_true rfl) rfl dX11_init_56 (fun H locs hw => ?_)
  refine lv_aload_n hx hb dX11_init_59 rfl (lv_at hl 0 rfl) ?_
  refine w_new (ci := 10) (fs := [.null, .null, .null, .null, .null, .int 0, .int 0, .int 0]) F hK hw hA fb_X8 rfl cl_X11_42 ist_X8 in_X8 (fun j hj => by rcases (show j = 0 ∨ j = 1 ∨ j = 2 ∨ j = 3 ∨ j = 4 ∨ j = 5 ∨ j = 6 ∨ j = 7 by omega) with rfl | rfl | rfl | rfl | rfl | rfl | rfl | rfl <;> rfl) (Nat.le_of_ble_eq_true rfl) (Nat.le_of_ble_eq_true rfl) dX11_init_60 (fun q5 H hw => ?_)
  have hw : WD g A s.heap [ob a 11 [.ref q1, .ref n15_q1, .ref q2, .ref q3, .ref q4, .null, .int 0, .int 0], ob q1 5 [.ref n6_q1, .int 0], ia g n6_q1 28 (fun _ => 0), ob q2 7 [.ref n15_q1, .ref n15_q8, .ref n15_q9, .ref n15_q10, .ref n15_q11, .int (-1)], ob n15_q1 6 [.ref n15_q2, .int 0, .int 0], ra g n15_q2 5 (va_up (va_up (va_up (va_up (va_up (fun _ => none) 0 (some n15_q3)) 1 (some n15_q4)) 2 (some n15_q5)) 3 (some n15_q6)) 4 (some n15_q7)), ob n15_q3 0 [.int 0, .int 0, .int 1, .int (-1), .int 0], ob n15_q4 0 [.int 0, .int 0, .int 1, .int (-1), .int 0], ob n15_q5 0 [.int 0, .int 0, .int 1, .int (-1), .int 0], ob n15_q6 0 [.int 0, .int 0, .int 1, .int (-1), .int 0], ob n15_q7 0 [.int 0, .int 0, .int 1, .int (-1), .int 0], ia g n15_q8 5 (fun _ => 0), ia g n15_q9 5 (fun _ => 0), ia g n15_q10 5 (fun _ => 0), ia g n15_q11 5 (fun _ => 0), ob q3 8 [.ref n29_q1, .ref n29_q2, .int 0], ia g n29_q1 8 (fun _ => 0), ia g n29_q2 8 (fun _ => 0), ob q4 9 [.ref n38_q1, .ref n38_q2, .ref n38_q3, .ref n38_q4, .int 0], ia g n38_q1 5 (fun _ => 0), ia g n38_q2 5 (fun _ => 0), ia g n38_q3 5 (fun _ => 0), ob n38_q4 8 [.ref n38_q5, .ref n38_q6, .int 0], ia g n38_q5 8 (fun _ => 0), ia g n38_q6 8 (fun _ => 0), ob q5 10 [.null, .null, .null, .null, .null, .int 0, .int 0, .int 0]] H _ := hw
  refine lv_dup hx hb dX11_init_63 rfl ?_
  refine k_cIN (wr := [ob a 11 [.ref q1, .ref n15_q1, .ref q2, .ref q3, .ref q4, .null, .int 0, .int 0], ob q1 5 [.ref n6_q1, .int 0], ia g n6_q1 28 (fun _ => 0), ob q2 7 [.ref n15_q1, .ref n15_q8, .ref n15_q9, .ref n15_q10, .ref n15_q11, .int (-1)], ob n15_q1 6 [.ref n15_q2, .int 0, .int 0], ra g n15_q2 5 (va_up (va_up (va_up (va_up (va_up (fun _ => none) 0 (some n15_q3)) 1 (some n15_q4)) 2 (some n15_q5)) 3 (some n15_q6)) 4 (some n15_q7)), ob n15_q3 0 [.int 0, .int 0, .int 1, .int (-1), .int 0], ob n15_q4 0 [.int 0, .int 0, .int 1, .int (-1), .int 0], ob n15_q5 0 [.int 0, .int 0, .int 1, .int (-1), .int 0], ob n15_q6 0 [.int 0, .int 0, .int 1, .int (-1), .int 0], ob n15_q7 0 [.int 0, .int 0, .int 1, .int (-1), .int 0], ia g n15_q8 5 (fun _ => 0), ia g n15_q9 5 (fun _ => 0), ia g n15_q10 5 (fun _ => 0), ia g n15_q11 5 (fun _ => 0), ob q3 8 [.ref n29_q1, .ref n29_q2, .int 0], ia g n29_q1 8 (fun _ => 0), ia g n29_q2 8 (fun _ => 0), ob q4 9 [.ref n38_q1, .ref n38_q2, .ref n38_q3, .ref n38_q4, .int 0], ia g n38_q1 5 (fun _ => 0), ia g n38_q2 5 (fun _ => 0), ia g n38_q3 5 (fun _ => 0), ob n38_q4 8 [.ref n38_q5, .ref n38_q6, .int 0], ia g n38_q5 8 (fun _ => 0), ia g n38_q6 8 (fun _ => 0)]) F (c_X8_init l g q5) qi_X8_init (hK.2.2.2.1 _ (List.mem_of_getElem? (i := 5) rfl)) hw hA hK [25] [0, 1, 2, 3, 4, 5, 6, 7, 8, 9, 10, 11, 12, 13, 14, 15, 16, 17, 18, 19, 20, 21, 22, 23, 24] rfl rfl rfl rfl rfl (by decide) rfl hl.1 rfl (Nat.le_of_ble_eq_true rfl) dX11_init_64 ⟨(Nat.le_of_ble_eq_true rfl), (Nat.le_of_ble_eq_true rfl)⟩ ⟨(Nat.le_of_ble_eq_true rfl), (Nat.le_of_ble_eq_true rfl)⟩ (fun v w1 H locs hpo hw => ?_)
  obtain ⟨rfl, n47_q1, n47_q2, n47_q3, n47_q4, n47_q5, rfl⟩ := hpo
  have hw : WD g A s.heap [ob a 11 [.ref q1, .ref n15_q1, .ref q2, .ref q3, .ref q4, .null, .int 0, .int 0], ob q1 5 [.ref n6_q1, .int 0], ia g n6_q1 28 (fun _ => 0), ob q2 7 [.ref n15_q1, .ref n15_q8, .ref n15_q9, .ref n15_q10, .ref n15_q11, .int (-1)], ob n15_q1 6 [.ref n15_q2, .int 0, .int 0], ra g n15_q2 5 (va_up (va_up (va_up (va_up (va_up (fun _ => none) 0 (some n15_q3)) 1 (some n15_q4)) 2 (some n15_q5)) 3 (some n15_q6)) 4 (some n15_q7)), ob n15_q3 0 [.int 0, .int 0, .int 1, .int (-1), .int 0], ob n15_q4 0 [.int 0, .int 0, .int 1, .int (-1), .int 0], ob n15_q5 0 [.int 0, .int 0, .int 1, .int (-1), .int 0], ob n15_q6 0 [.int 0, .int 0, .int 1, .int (-1), .int 0], ob n15_q7 0 [.int 0, .int 0, .int 1, .int (-1), .int 0], ia g n15_q8 5 (fun _ => 0), ia g n15_q9 5 (fun _ => 0), ia g n15_q10 5 (fun _ => 0), ia g n15_q11 5 (fun _ => 0), ob q3 8 [.ref n29_q1, .ref n29_q2, .int 0], ia g n29_q1 8 (fun _ => 0), ia g n29_q2 8 (fun _ => 0), ob q4 9 [.ref n38_q1, .ref n38_q2, .ref n38_q3, .ref n38_q4, .int 0], ia g n38_q1 5 (fun _ => 0), ia g n38_q2 5 (fun _ => 0), ia g n38_q3 5 (fun _ => 0), ob n38_q4 8 [.ref n38_q5, .ref n38_q6, .int 0], ia g n38_q5 8 (fun _ => 0), ia g n38_q6 8 (fun _ => 0), ob q5 10 [.ref n47_q1, .ref n47_q2, .ref n47_q3, .ref n47_q4, .ref n47_q5, .int 0, .int 0, .int 0], ia g n47_q1 1024 (fun _ => 0), ia g n47_q2 1024 (fun _ => 0), ia g n47_q3 5 (fun _ => 0), ia g n47_q4 5 (fun _ => 0), ia g n47_q5 5 (fun _ => 0)] H locs := hw
  refine W.eq (g2 := F0 m 67 ls [.ref q5, .ref a]) rfl ?_
  refine w_putF (ci := 11) (ws' := [ob a 11 [.ref q1, .ref n15_q1, .ref q2, .ref q3, .ref q4, .ref q5, .int 0, .int 0], ob q1 5 [.ref n6_q1, .int 0], ia g n6_q1 28 (fun _ => 0), ob q2 7 [.ref n15_q1, .ref n15_q8, .ref n15_q9, .ref n15_q10, .ref n15_q11, .int (-1)], ob n15_q1 6 [.ref n15_q2, .int 0, .int 0], ra g n15_q2 5 (va_up (va_up (va_up (va_up (va_up (fun _ => none) 0 (some n15_q3)) 1 (some n15_q4)) 2 (some n15_q5)) 3 (some n15_q6)) 4 (some n15_q7)), ob n15_q3 0 [.int 0, .int 0, .int 1, .int (-1), .int 0], ob n15_q4 0 [.int 0, .int 0, .int 1, .int (-1), .int 0], ob n15_q5 0 [.int 0, .int 0, .int 1, .int (-1), .int 0], ob n15_q6 0 [.int 0, .int 0, .int 1, .int (-1), .int 0], ob n15_q7 0 [.int 0, .int 0, .int 1, .int (-1), .int 0], ia g n15_q8 5 (fun _ => 0), ia g n15_q9 5 (fun _ => 0), ia g n15_q10 5 (fun _ => 0), ia g n15_q11 5 (fun _ => 0), ob q3 8 [.ref n29_q1, .ref n29_q2, .int 0], ia g n29_q1 8 (fun _ => 0), ia g n29_q2 8 (fun _ => 0), ob q4 9 [.ref n38_q1, .ref n38_q2, .ref n38_q3, .ref n38_q4, .int 0], ia g n38_q1 5 (fun _ => 0), ia g n38_q2 5 (fun _ => 0), ia g n38_q3 5 (fun _ => 0), ob n38_q4 8 [.ref n38_q5, .ref n38_q6, .int 0], ia g n38_q5 8 (fun _ => 0), ia g n38_q6 8 (fun _ => 0), ob q5 10 [.ref n47_q1, .ref n47_q2, .ref n47_q3, .ref n47_q4, .ref n47_q5, .int 0, .int 0, .int 0], ia g n47_q1 1024 (fun _ => 0), ia g n47_q2 1024 (fun _ => 0), ia g n47_q3 5 (fun _ => 0), ia g n47_q4 5 (fun _ => 0), ia g n47_q5 5 (fun _ => 0)]) F hnm hK hw fb_X11 0 rfl rfl 5 (by decide) fl_X11_45 (fun _ h => h) rfl rfl rfl rfl rfl (Nat.le_of_ble_eq_true rfl) rfl dX11_init_67 (fun H locs hw => ?_)
  have hw := hw
  refine W.widen (k := 30) (n := 2218) (Nat.le_of_ble_eq_true rfl) (Nat.le_of_ble_eq_true rfl) ?_
  exact r_cv F hQ ⟨rfl, q1, n6_q1, q2, n15_q1, n15_q2, n15_q3, n15_q4, n15_q5, n15_q6, n15_q7, n15_q8, n15_q9, n15_q10, n15_q11, q3, n29_q1, n29_q2, q4, n38_q1, n38_q2, n38_q3, n38_q4, n38_q5, n38_q6, q5, n47_q1, n47_q2, n47_q3, n47_q4, n47_q5, rfl⟩ hw dX11_init_70
theorem qi_X12_init : QI yX12_init cX12_init 1 0 := ⟨(by decide +kernel), im_X12_init, in_X12, co_X12_init, rfl⟩
set_option maxRecDepth 100000 in
set_option maxHeartbeats 4000000 in
theorem c_X12_init (l : Launch) (g : GG) (a : Nat)  : MC l g yX12_init cX12_init 1 none 1 12 16 115 [.ref a] [ob a 12 [.int 0, .int 0, .int 0, .null, .null, .null, .null, .null, .null, .int 0, .null, .null, .int 0, .int 0, .null, .int 0, .int 0, .null, .null, .long 0, .int 0, .int 0, .int 0, .null, .null, .null, .null, .null, .long 0]] (fun v w1 => v = none ∧ ∃ q1 q2 q3 q4 q5 q6 q7 q8 q9 q10 q11 q12 q13 q14 q15 q16 : Nat, w1 = [ob a 12 [.int 0, .int 0, .int 0, .ref q1, .ref q2, .ref q3, .ref q4, .ref q5, .ref q6, .int 0, .ref q7, .ref q8, .int 0, .int 0, .ref q9, .int 0, .int 0, .ref q10, .ref q11, .long 0, .int 0, .int 0, .int 0, .ref q12, .ref q13, .ref q14, .ref q15, .ref q16, .long 0], ia g q1 5 (fun _ => 0), ia g q2 5 (fun _ => 0), ia g q3 5 (fun _ => 0), ia g q4 5 (fun _ => 0), ia g q5 5 (fun _ => 0), ia g q6 5 (fun _ => 0), ia g q7 8 (fun _ => 0), ia g q8 8 (fun _ => 0), ba g q9 28 (fun _ => 0), ia g q10 5 (fun _ => 0), ia g q11 5 (fun _ => 0), ia g q12 5 (fun _ => 0), ia g q13 5 (fun _ => 0), ia g q14 5 (fun _ => 0), ia g q15 8 (fun _ => 0), ia g q16 8 (fun _ => 0)]) := by
  refine MC.mk (by decide) (Nat.le_of_ble_eq_true rfl) ?_
  intro p e s m args below meth c ls Q A F hnm hK hw hA hl hQ
  have hx := F.1
  have hb := F.2.1
  have hml := F.2.2.2.1
  have hown := F.2.2.2.2.1
  have hts := F.2.2.2.2.2.1
  have hl : lv_has ls 1 [(0, .ref a)] := hl
  refine lv_aload_n hx hb dX12_init_0 rfl (lv_at hl 0 rfl) ?_
  refine w_obj F ml_X12_1 hl.1 dX12_init_1 (Nat.le_of_ble_eq_true rfl) (Nat.le_of_ble_eq_true rfl) ?_
  refine lv_aload_n hx hb dX12_init_4 rfl (lv_at hl 0 rfl) ?_
  refine lv_iconst (v := 5) hx hb dX12_init_5 (by decide) ?_
  refine w_newi (N := 5) F hK hw hA (by decide) (by decide) (by decide) (Nat.le_of_ble_eq_true rfl) (Nat.le_of_ble_eq_true rfl) dX12_init_6 (fun q1 H hw => ?_)
  have hw : WD g A s.heap [ob a 12 [.int 0, .int 0, .int 0, .null, .null, .null, .null, .null, .null, .int 0, .null, .null, .int 0, .int 0, .null, .int 0, .int 0, .null, .null, .long 0, .int 0, .int 0, .int 0, .null, .null, .null, .null, .null, .long 0], ia g q1 5 (fun _ => 0)] H _ := hw
  refine w_putF (ci := 12) (ws' := [ob a 12 [.int 0, .int 0, .int 0, .ref q1, .null, .null, .null, .null, .null, .int 0, .null, .null, .int 0, .int 0, .null, .int 0, .int 0, .null, .null, .long 0, .int 0, .int 0, .int 0, .null, .null, .null, .null, .null, .long 0], ia g q1 5 (fun _ => 0)]) F hnm hK hw fb_X12 0 rfl rfl 3 (by decide) fl_X12_7 (fun _ h => h) rfl rfl rfl rfl rfl (Nat.le_of_ble_eq_true rfl) rfl dX12_init_8 (fun H locs hw => ?_)
  refine lv_aload_n hx hb dX12_init_11 rfl (lv_at hl 0 rfl) ?_
  refine lv_iconst (v := 5) hx hb dX12_init_12 (by decide) ?_
  refine w_newi (N := 5) F hK hw hA (by decide) (by decide) (by decide) (Nat.le_of_ble_eq_true rfl) (Nat.le_of_ble_eq_true rfl) dX12_init_13 (fun q2 H hw => ?_)
  have hw : WD g A s.heap [ob a 12 [.int 0, .int 0, .int 0, .ref q1, .null, .null, .null, .null, .null, .int 0, .null, .null, .int 0, .int 0, .null, .int 0, .int 0, .null, .null, .long 0, .int 0, .int 0, .int 0, .null, .null, .null, .null, .null, .long 0], ia g q1 5 (fun _ => 0), ia g q2 5 (fun _ => 0)] H _ := hw
  refine w_putF (ci := 12) (ws' := [ob a 12 [.int 0, .int 0, .int 0, .ref q1, .ref q2, .null, .null, .null, .null, .int 0, .null, .null, .int 0, .int 0, .null, .int 0, .int 0, .null, .null, .long 0, .int 0, .int 0, .int 0, .null, .null, .null, .null, .null, .long 0], ia g q1 5 (fun _ => 0), ia g q2 5 (fun _ => 0)]) F hnm hK hw fb_X12 0 rfl rfl 4 (by decide) fl_X12_13 (fun _ h => h) rfl rfl rfl rfl rfl (Nat.le_of_ble_eq_true rfl) rfl dX12_init_15 (fun H locs hw => ?_)
  refine lv_aload_n hx hb dX12_init_18 rfl (lv_at hl 0 rfl) ?_
  refine lv_iconst (v := 5) hx hb dX12_init_19 (by decide) ?_
  refine w_newi (N := 5) F hK hw hA (by decide) (by decide) (by decide) (Nat.le_of_ble_eq_true rfl) (Nat.le_of_ble_eq_true rfl) dX12_init_20 (fun q3 H hw => ?_)
  have hw : WD g A s.heap [ob a 12 [.int 0, .int 0, .int 0, .ref q1, .ref q2, .null, .null, .null, .null, .int 0, .null, .null, .int 0, .int 0, .null, .int 0, .int 0, .null, .null, .long 0, .int 0, .int 0, .int 0, .null, .null, .null, .null, .null, .long 0], ia g q1 5 (fun _ => 0), ia g q2 5 (fun _ => 0), ia g q3 5 (fun _ => 0)] H _ := hw
  refine w_putF (ci := 12) (ws' := [ob a 12 [.int 0, .int 0, .int 0, .ref q1, .ref q2, .ref q3, .null, .null, .null, .int 0, .null, .null, .int 0, .int 0, .null, .int 0, .int 0, .null, .null, .long 0, .int 0, .int 0, .int 0, .null, .null, .null, .null, .null, .long 0], ia g q1 5 (fun _ => 0), ia g q2 5 (fun _ => 0), ia g q3 5 (fun _ => 0)]) F hnm hK hw fb_X12 0 rfl rfl 5 (by decide) fl_X12_16 (fun _ h => h) rfl rfl rfl rfl rfl (Nat.le_of_ble_eq_true rfl) rfl dX12_init_22 (fun H locs hw => ?_)
  refine lv_aload_n hx hb dX12_init_25 rfl (lv_at hl 0 rfl) ?_
  refine lv_iconst (v := 5) hx hb dX12_init_26 (by decide) ?_
  refine w_newi (N := 5) F hK hw hA (by decide) (by decide) (by decide) (Nat.le_of_ble_eq_true rfl) (Nat.le_of_ble_eq_true rfl) dX12_init_27 (fun q4 H hw => ?_)
  have hw : WD g A s.heap [ob a 12 [.int 0, .int 0, .int 0, .ref q1, .ref q2, .ref q3, .null, .null, .null, .int 0, .null, .null, .int 0, .int 0, .null, .int 0, .int 0, .null, .null, .long 0, .int 0, .int 0, .int 0, .null, .null, .null, .null, .null, .long 0], ia g q1 5 (fun _ => 0), ia g q2 5 (fun _ => 0), ia g q3 5 (fun _ => 0), ia g q4 5 (fun _ => 0)] H _ := hw
  refine w_putF (ci := 12) (ws' := [ob a 12 [.int 0, .int 0, .int 0, .ref q1, .ref q2, .ref q3, .ref q4, .null, .null, .int 0, .null, .null, .int 0, .int 0, .null, .int 0, .int 0, .null, .null, .long 0, .int 0, .int 0, .int 0, .null, .null, .null, .null, .null, .long 0], ia g q1 5 (fun _ => 0), ia g q2 5 (fun _ => 0), ia g q3 5 (fun _ => 0), ia g q4 5 (fun _ => 0)]) F hnm hK hw fb_X12 0 rfl rfl 6 (by decide) fl_X12_19 (fun _ h => h) rfl rfl rfl rfl rfl (Nat.le_of_ble_eq_true rfl) rfl dX12_init_29 (fun H locs hw => ?_)
  refine lv_aload_n hx hb dX12_init_32 rfl (lv_at hl 0 rfl) ?_
  refine lv_iconst (v := 5) hx hb dX12_init_33 (by decide) ?_
  refine w_newi (N := 5) F hK hw hA (by decide) (by decide) (by decide) (Nat.le_of_ble_eq_true rfl) (Nat.le_of_ble_eq_true rfl) dX12_init_34 (fun q5 H hw => ?_)
  have hw : WD g A s.heap [ob a 12 [.int 0, .int 0, .int 0, .ref q1, .ref q2, .ref q3, .ref q4, .null, .null, .int 0, .null, .null, .int 0, .int 0, .null, .int 0, .int 0, .null, .null, .long 0, .int 0, .int 0, .int 0, .null, .null, .null, .null, .null, .long 0], ia g q1 5 (fun _ => 0), ia g q2 5 (fun _ => 0), ia g q3 5 (fun _ => 0), ia g q4 5 (fun _ => 0), ia g q5 5 (fun _ => 0)] H _ := hw
  refine w_putF (ci := 12) (ws' := [ob a 12 [.int 0, .int 0, .int 0, .ref q1, .ref q2, .ref q3, .ref q4, .ref q5, .null, .int 0, .null, .null, .int 0, .int 0, .null, .int 0, .int 0, .null, .null, .long 0, .int 0, .int 0, .int 0, .null, .null, .null, .null, .null, .long 0], ia g q1 5 (fun _ => 0), ia g q2 5 (fun _ => 0), ia g q3 5 (fun _ => 0), ia g q4 5 (fun _ => 0), ia g q5 5 (fun _ => 0)]) F hnm hK hw fb_X12 0 rfl rfl 7 (by decide) fl_X12_22 (fun _ h => h) rfl rfl rfl rfl rfl (Nat.le_of_ble_eq_true rfl) rfl dX12_init_36 (fun H locs hw => ?_)
  refine lv_aload_n hx hb dX12_init_39 rfl (lv_at hl 0 rfl) ?_
  refine lv_iconst (v := 5) hx hb dX12_init_40 (by decide) ?_
  refine w_newi (N := 5) F hK hw hA (by decide) (by decide) (by decide) (Nat.le_of_ble_eq_true rfl) (Nat.le_of_ble_eq_true rfl) dX12_init_41 (fun q6 H hw => ?_)
  have hw : WD g A s.heap [ob a 12 [.int 0, .int 0, .int 0, .ref q1, .ref q2, .ref q3, .ref q4, .ref q5, .null, .int 0, .null, .null, .int 0, .int 0, .null, .int 0, .int 0, .null, .null, .long 0, .int 0, .int 0, .int 0, .null, .null, .null, .null, .null, .long 0], ia g q1 5 (fun _ => 0), ia g q2 5 (fun _ => 0), ia g q3 5 (fun _ => 0), ia g q4 5 (fun _ => 0), ia g q5 5 (fun _ => 0), ia g q6 5 (fun _ => 0)] H _ := hw
  refine w_putF (ci := 12) (ws' := [ob a 12 [.int 0, .int 0, .int 0, .ref q1, .ref q2, .ref q3, .ref q4, .ref q5, .ref q6, .int 0, .null, .null, .int 0, .int 0, .null, .int 0, .int 0, .null, .null, .long 0, .int 0, .int 0, .int 0, .null, .null, .null, .null, .null, .long 0], ia g q1 5 (fun _ => 0), ia g q2 5 (fun _ => 0), ia g q3 5 (fun _ => 0), ia g q4 5 (fun _ => 0), ia g q5 5 (fun _ => 0), ia g q6 5 (fun _ => 0)]) F hnm hK hw fb_X12 0 rfl rfl 8 (by decide) fl_X12_25 (fun _ h => h) rfl rfl rfl rfl rfl (Nat.le_of_ble_eq_true rfl) rfl dX12_init_43 (fun H locs hw => ?_)
  refine lv_aload_n hx hb dX12_init_46 rfl (lv_at hl 0 rfl) ?_
  refine lv_bipush (v := 8) hx hb dX12_init_47 (by decide) ?_
  refine w_newi (N := 8) F hK hw hA (by decide) (by decide) (by decide) (Nat.le_of_ble_eq_true rfl) (Nat.le_of_ble_eq_true rfl) dX12_init_49 (fun q7 H hw => ?_)
  have hw : WD g A s.heap [ob a 12 [.int 0, .int 0, .int 0, .ref q1, .ref q2, .ref q3, .ref q4, .ref q5, .ref q6, .int 0, .null, .null, .int 0, .int 0, .null, .int 0, .int 0, .null, .null, .long 0, .int 0, .int 0, .int 0, .null, .null, .null, .null, .null, .long 0], ia g q1 5 (fun _ => 0), ia g q2 5 (fun _ => 0), ia g q3 5 (fun _ => 0), ia g q4 5 (fun _ => 0), ia g q5 5 (fun _ => 0), ia g q6 5 (fun _ => 0), ia g q7 8 (fun _ => 0)] H _ := hw
  refine w_putF (ci := 12) (ws' := [ob a 12 [.int 0, .int 0, .int 0, .ref q1, .ref q2, .ref q3, .ref q4, .ref q5, .ref q6, .int 0, .ref q7, .null, .int 0, .int 0, .null, .int 0, .int 0, .null, .null, .long 0, .int 0, .int 0, .int 0, .null, .null, .null, .null, .null, .long 0], ia g q1 5 (fun _ => 0), ia g q2 5 (fun _ => 0), ia g q3 5 (fun _ => 0), ia g q4 5 (fun _ => 0), ia g q5 5 (fun _ => 0), ia g q6 5 (fun _ => 0), ia g q7 8 (fun _ => 0)]) F hnm hK hw fb_X12 0 rfl rfl 10 (by decide) fl_X12_28 (fun _ h => h) rfl rfl rfl rfl rfl (Nat.le_of_ble_eq_true rfl) rfl dX12_init_51 (fun H locs hw => ?_)
  refine lv_aload_n hx hb dX12_init_54 rfl (lv_at hl 0 rfl) ?_
  refine lv_bipush (v := 8) hx hb dX12_init_55 (by decide) ?_
  refine w_newi (N := 8) F hK hw hA (by decide) (by decide) (by decide) (Nat.le_of_ble_eq_true rfl) (Nat.le_of_ble_eq_true rfl) dX12_init_57 (fun q8 H hw => ?_)
  have hw : WD g A s.heap [ob a 12 [.int 0, .int 0, .int 0, .ref q1, .ref q2, .ref q3, .ref q4, .ref q5, .ref q6, .int 0, .ref q7, .null, .int 0, .int 0, .null, .int 0, .int 0, .null, .null, .long 0, .int 0, .int 0, .int 0, .null, .null, .null, .null, .null, .long 0], ia g q1 5 (fun _ => 0), ia g q2 5 (fun _ => 0), ia g q3 5 (fun _ => 0), ia g q4 5 (fun _ => 0), ia g q5 5 (fun _ => 0), ia g q6 5 (fun _ => 0), ia g q7 8 (fun _ => 0), ia g q8 8 (fun _ => 0)] H _ := hw
  refine w_putF (ci := 12) (ws' := [ob a 12 [.int 0, .int 0, .int 0, .ref q1, .ref q2, .ref q3, .ref q4, .ref q5, .ref q6, .int 0, .ref q7, .ref q8, .int 0, .int 0, .null, .int 0, .int 0, .null, .null, .long 0, .int 0, .int 0, .int 0, .null, .null, .null, .null, .null, .long 0], ia g q1 5 (fun _ => 0), ia g q2 5 (fun _ => 0), ia g q3 5 (fun _ => 0), ia g q4 5 (fun _ => 0), ia g q5 5 (fun _ => 0), ia g q6 5 (fun _ => 0), ia g q7 8 (fun _ => 0), ia g q8 8 (fun _ => 0)]) F hnm hK hw fb_X12 0 rfl rfl 11 (by decide) fl_X12_31 (fun _ h => h) rfl rfl rfl rfl rfl (Nat.le_of_ble_eq_true rfl) rfl dX12_init_59 (fun H locs hw => ?_)
  refine lv_aload_n hx hb dX12_init_62 rfl (lv_at hl 0 rfl) ?_
  refine lv_bipush (v := 28) hx hb dX12_init_63 (by decide) ?_
  refine w_newb (N := 28) F hK hw hA (by decide) (by decide) (by decide) (Nat.le_of_ble_eq_true rfl) (Nat.le_of_ble_eq_true rfl) dX12_init_65 (fun q9 H hw => ?_)
  have hw : WD g A s.heap [ob a 12 [.int 0, .int 0, .int 0, .ref q1, .ref q2, .ref q3, .ref q4, .ref q5, .ref q6, .int 0, .ref q7, .ref q8, .int 0, .int 0, .null, .int 0, .int 0, .null, .null, .long 0, .int 0, .int 0, .int 0, .null, .null, .null, .null, .null, .long 0], ia g q1 5 (fun _ => 0), ia g q2 5 (fun _ => 0), ia g q3 5 (fun _ => 0), ia g q4 5 (fun _ => 0), ia g q5 5 (fun _ => 0), ia g q6 5 (fun _ => 0), ia g q7 8 (fun _ => 0), ia g q8 8 (fun _ => 0), ba g q9 28 (fun _ => 0)] H _ := hw
  refine w_putF (ci := 12) (ws' := [ob a 12 [.int 0, .int 0, .int 0, .ref q1, .ref q2, .ref q3, .ref q4, .ref q5, .ref q6, .int 0, .ref q7, .ref q8, .int 0, .int 0, .ref q9, .int 0, .int 0, .null, .null, .long 0, .int 0, .int 0, .int 0, .null, .null, .null, .null, .null, .long 0], ia g q1 5 (fun _ => 0), ia g q2 5 (fun _ => 0), ia g q3 5 (fun _ => 0), ia g q4 5 (fun _ => 0), ia g q5 5 (fun _ => 0), ia g q6 5 (fun _ => 0), ia g q7 8 (fun _ => 0), ia g q8 8 (fun _ => 0), ba g q9 28 (fun _ => 0)]) F hnm hK hw fb_X12 0 rfl rfl 14 (by decide) fl_X12_34 (fun _ h => h) rfl rfl rfl rfl rfl (Nat.le_of_ble_eq_true rfl) rfl dX12_init_67 (fun H locs hw => ?_)
  refine lv_aload_n hx hb dX12_init_70 rfl (lv_at hl 0 rfl) ?_
  refine lv_iconst (v := 5) hx hb dX12_init_71 (by decide) ?_
  refine w_newi (N := 5) F hK hw hA (by decide) (by decide) (by decide) (Nat.le_of_ble_eq_true rfl) (Nat.le_of_ble_eq_true rfl) dX12_init_72 (fun q10 H hw => ?_)
  have hw : WD g A s.heap [ob a 12 [.int 0, .int 0, .int 0, .ref q1, .ref q2, .ref q3, .ref q4, .ref q5, .ref q6, .int 0, .ref q7, .ref q8, .int 0, .int 0, .ref q9, .int 0, .int 0, .null, .null, .long 0, .int 0, .int 0, .int 0, .null, .null, .null, .null, .null, .long 0], ia g q1 5 (fun _ => 0), ia g q2 5 (fun _ => 0), ia g q3 5 (fun _ => 0), ia g q4 5 (fun _ => 0), ia g q5 5 (fun _ => 0), ia g q6 5 (fun _ => 0), ia g q7 8 (fun _ => 0), ia g q8 8 (fun _ => 0), ba g q9 28 (fun _ => 0), ia g q10 5 (fun _ => 0)] H _ := hw
  refine w_putF (ci := 12) (ws' := [ob a 12 [.int 0, .int 0, .int 0, .ref q1, .ref q2, .ref q3, .ref q4, .ref q5, .ref q6, .int 0, .ref q7, .ref q8, .int 0, .int 0, .ref q9, .int 0, .int 0, .ref q10, .null, .long 0, .int 0, .int 0, .int 0, .null, .null, .null, .null, .null, .long 0], ia g q1 5 (fun _ => 0), ia g q2 5 (fun _ => 0), ia g q3 5 (fun _ => 0), ia g q4 5 (fun _ => 0), ia g q5 5 (fun _ => 0), ia g q6 5 (fun _ => 0), ia g q7 8 (fun _ => 0), ia g q8 8 (fun _ => 0), ba g q9 28 (fun _ => 0), ia g q10 5 (fun _ => 0)]) F hnm hK hw fb_X12 0 rfl rfl 17 (by decide) fl_X12_38 (fun _ h => h) rfl rfl rfl rfl rfl (Nat.le_of_ble_eq_true rfl) rfl dX12_init_74 (fun H locs hw => ?_)
  refine lv_aload_n hx hb dX12_init_77 rfl (lv_at hl 0 rfl) ?_
  refine lv_iconst (v := 5) hx hb dX12_init_78 (by decide) ?_
  refine w_newi (N := 5) F hK hw hA (by decide) (by decide) (by decide) (Nat.le_of_ble_eq_true rfl) (Nat.le_of_ble_eq_true rfl) dX12_init_79 (fun q11 H hw => ?_)
  have hw : WD g A s.heap [ob a 12 [.int 0, .int 0, .int 0, .ref q1, .ref q2, .ref q3, .ref q4, .ref q5, .ref q6, .int 0, .ref q7, .ref q8, .int 0, .int 0, .ref q9, .int 0, .int 0, .ref q10, .null, .long 0, .int 0, .int 0, .int 0, .null, .null, .null, .null, .null, .long 0], ia g q1 5 (fun _ => 0), ia g q2 5 (fun _ => 0), ia g q3 5 (fun _ => 0), ia g q4 5 (fun _ => 0), ia g q5 5 (fun _ => 0), ia g q6 5 (fun _ => 0), ia g q7 8 (fun _ => 0), ia g q8 8 (fun _ => 0), ba g q9 28 (fun _ => 0), ia g q10 5 (fun _ => 0), ia g q11 5 (fun _ => 0)] H _ := hw
  refine w_putF (ci := 12) (ws' := [ob a 12 [.int 0, .int 0, .int 0, .ref q1, .ref q2, .ref q3, .ref q4, .ref q5, .ref q6, .int 0, .ref q7, .ref q8, .int 0, .int 0, .ref q9, .int 0, .int 0, .ref q10, .ref q11, .long 0, .int 0, .int 0, .int 0, .null, .null, .null, .null, .null, .long 0], ia g q1 5 (fun _ => 0), ia g q2 5 (fun _ => 0), ia g q3 5 (fun _ => 0), ia g q4 5 (fun _ => 0), ia g q5 5 (fun _ => 0), ia g q6 5 (fun _ => 0), ia g q7 8 (fun _ => 0), ia g q8 8 (fun _ => 0), ba g q9 28 (fun _ => 0), ia g q10 5 (fun _ => 0), ia g q11 5 (fun _ => 0)]) F hnm hK hw fb_X12 0 rfl rfl 18 (by decide) fl_X12_41 (fun _ h => h) rfl rfl rfl rfl rfl (Nat.le_of_ble_eq_true rfl) rfl dX12_init_81 (fun H locs hw => ?_)
  refine lv_aload_n hx hb dX12_init_84 rfl (lv_at hl 0 rfl) ?_
  refine lv_iconst (v := 5) hx hb dX12_init_85 (by decide) ?_
  refine w_newi (N := 5) F hK hw hA (by decide) (by decide) (by decide) (Nat.le_of_ble_eq_true rfl) (Nat.le_of_ble_eq_true rfl) dX12_init_86 (fun q12 H hw => ?_)
  have hw : WD g A s.heap [ob a 12 [.int 0, .int 0, .int 0, .ref q1, .ref q2, .ref q3, .ref q4, .ref q5, .ref q6, .int 0, .ref q7, .ref q8, .int 0, .int 0, .ref q9, .int 0, .int 0, .ref q10, .ref q11, .long 0, .int 0, .int 0, .int 0, .null, .null, .null, .null, .null, .long 0], ia g q1 5 (fun _ => 0), ia g q2 5 (fun _ => 0), ia g q3 5 (fun _ => 0), ia g q4 5 (fun _ => 0), ia g q5 5 (fun _ => 0), ia g q6 5 (fun _ => 0), ia g q7 8 (fun _ => 0), ia g q8 8 (fun _ => 0), ba g q9 28 (fun _ => 0), ia g q10 5 (fun _ => 0), ia g q11 5 (fun _ => 0), ia g q12 5 (fun _ => 0)] H _ := hw
  refine w_putF (ci := 12) (ws' := [ob a 12 [.int 0, .int 0, .int 0, .ref q1, .ref q2, .ref q3, .ref q4, .ref q5, .ref q6, .int 0, .ref q7, .ref q8, .int 0, .int 0, .ref q9, .int 0, .int 0, .ref q10, .ref q11, .long 0, .int 0, .int 0, .int 0, .ref q12, .null, .null, .null, .null, .long 0], ia g q1 5 (fun _ => 0), ia g q2 5 (fun _ => 0), ia g q3 5 (fun _ => 0), ia g q4 5 (fun _ => 0), ia g q5 5 (fun _ => 0), ia g q6 5 (fun _ => 0), ia g q7 8 (fun _ => 0), ia g q8 8 (fun _ => 0), ba g q9 28 (fun _ => 0), ia g q10 5 (fun _ => 0), ia g q11 5 (fun _ => 0), ia g q12 5 (fun _ => 0)]) F hnm hK hw fb_X12 0 rfl rfl 23 (by decide) fl_X12_44 (fun _ h => h) rfl rfl rfl rfl rfl (Nat.le_of_ble_eq_true rfl) rfl dX12_init_88 (fun H locs hw => ?_)
  refine lv_aload_n hx hb dX12_init_91 rfl (lv_at hl 0 rfl) ?_
  refine lv_iconst (v := 5) hx hb dX12_init_92 (by decide) ?_
  refine w_newi (N := 5) F hK hw hA (by decide) (by decide) (by decide) (Nat.le_of_ble_eq_true rfl) (Nat.le_of_ble_eq_true rfl) dX12_init_93 (fun q13 H hw => ?_)
  have hw : WD g A s.heap [ob a 12 [.int 0, .int 0, .int 0, .ref q1, .ref q2, .ref q3, .ref q4, .ref q5, .ref q6, .int 0, .ref q7, .ref q8, .int 0, .int 0, .ref q9, .int 0, .int 0, .ref q10, .ref q11, .long 0, .int 0, .int 0, .int 0, .ref q12, .null, .null, .null, .null, .long 0], ia g q1 5 (fun _ => 0), ia g q2 5 (fun _ => 0), ia g q3 5 (fun _ => 0), ia g q4 5 (fun _ => 0), ia g q5 5 (fun _ => 0), ia g q6 5 (fun _ => 0), ia g q7 8 (fun _ => 0), ia g q8 8 (fun _ => 0), ba g q9 28 (fun _ => 0), ia g q10 5 (fun _ => 0), ia g q11 5 (fun _ => 0), ia g q12 5 (fun _ => 0), ia g q13 5 (fun _ => 0)] H _ := hw
  refine w_putF (ci := 12) (ws' := [ob a 12 [.int 0, .int 0, .int 0, .ref q1, .ref q2, .ref q3, .ref q4, .ref q5, .ref q6, .int 0, .ref q7, .ref q8, .int 0, .int 0, .ref q9, .int 0, .int 0, .ref q10, .ref q11, .long 0, .int 0, .int 0, .int 0, .ref q12, .ref q13, .null, .null, .null, .long 0], ia g q1 5 (fun _ => 0), ia g q2 5 (fun _ => 0), ia g q3 5 (fun _ => 0), ia g q4 5 (fun _ => 0), ia g q5 5 (fun _ => 0), ia g q6 5 (fun _ => 0), ia g q7 8 (fun _ => 0), ia g q8 8 (fun _ => 0), ba g q9 28 (fun _ => 0), ia g q10 5 (fun _ => 0), ia g q11 5 (fun _ => 0), ia g q12 5 (fun _ => 0), ia g q13 5 (fun _ => 0)]) F hnm hK hw fb_X12 0 rfl rfl 24 (by decide) fl_X12_47 (fun _ h => h) rfl rfl rfl rfl rfl (Nat.le_of_ble_eq_true rfl) rfl dX12_init_95 (fun H locs hw => ?_)
  refine lv_aload_n hx hb dX12_init_98 rfl (lv_at hl 0 rfl) ?_
  refine lv_iconst (v := 5) hx hb dX12_init_99 (by decide) ?_
  refine w_newi (N := 5) F hK hw hA (by decide) (by decide) (by decide) (Nat.le_of_ble_eq_true rfl) (Nat.le_of_ble_eq_true rfl) dX12_init_100 (fun q14 H hw => ?_)
  have hw : WD g A s.heap [ob a 12 [.int 0, .int 0, .int 0, .ref q1, .ref q2, .ref q3, .ref q4, .ref q5, .ref q6, .int 0, .ref q7, .ref q8, .int 0, .int 0, .ref q9, .int 0, .int 0, .ref q10, .ref q11, .long 0, .int 0, .int 0, .int 0, .ref q12, .ref q13, .null, .null, .null, .long 0], ia g q1 5 (fun _ => 0), ia g q2 5 (fun _ => 0), ia g q3 5 (fun _ => 0), ia g q4 5 (fun _ => 0), ia g q5 5 (fun _ => 0), ia g q6 5 (fun _ => 0), ia g q7 8 (fun _ => 0), ia g q8 8 (fun _ => 0), ba g q9 28 (fun _ => 0), ia g q10 5 (fun _ => 0), ia g q11 5 (fun _ => 0), ia g q12 5 (fun _ => 0), ia g q13 5 (fun _ => 0), ia g q14 5 (fun _ => 0)] H _ := hw
  refine w_putF (ci := 12) (ws' := [ob a 12 [.int 0, .int 0, .int 0, .ref q1, .ref q2, .ref q3, .ref q4, .ref q5, .ref q6, .int 0, .ref q7, .ref q8, .int 0, .int 0, .ref q9, .int 0, .int 0, .ref q10, .ref q11, .long 0, .int 0, .int 0, .int 0, .ref q12, .ref q13, .ref q14, .null, .null, .long 0], ia g q1 5 (fun _ => 0), ia g q2 5 (fun _ => 0), ia g q3 5 (fun _ => 0), ia g q4 5 (fun _ => 0), ia g q5 5 (fun _ => 0), ia g q6 5 (fun _ => 0), ia g q7 8 (fun _ => 0), ia g q8 8 (fun _ => 0), ba g q9 28 (fun _ => 0), ia g q10 5 (fun _ => 0), ia g q11 5 (fun _ => 0), ia g q12 5 (fun _ => 0), ia g q13 5 (fun _ => 0), ia g q14 5 (fun _ => 0)]) F hnm hK hw fb_X12 0 rfl rfl 25 (by decide) fl_X12_50 (fun _ h => h) rfl rfl rfl rfl rfl (Nat.le_of_ble_eq_true rfl) rfl dX12_init_102 (fun H locs hw => ?_)
  refine lv_aload_n hx hb dX12_init_105 rfl (lv_at hl 0 rfl) ?_
  refine lv_bipush (v := 8) hx hb dX12_init_106 (by decide) ?_
  refine w_newi (N := 8) F hK hw hA (by decide) (by decide) (by decide) (Nat.le_of_ble_eq_true rfl) (Nat.le_of_ble_eq_true rfl) dX12_init_108 (fun q15 H hw => ?_)
  have hw : WD g A s.heap [ob a 12 [.int 0, .int 0, .int 0, .ref q1, .ref q2, .ref q3, .ref q4, .ref q5, .ref q6, .int 0, .ref q7, .ref q8, .int 0, .int 0, .ref q9, .int 0, .int 0, .ref q10, .ref q11, .long 0, .int 0, .int 0, .int 0, .ref q12, .ref q13, .ref q14, .null, .null, .long 0], ia g q1 5 (fun _ => 0), ia g q2 5 (fun _ => 0), ia g q3 5 (fun _ => 0), ia g q4 5 (fun _ => 0), ia g q5 5 (fun _ => 0), ia g q6 5 (fun _ => 0), ia g q7 8 (fun _ => 0), ia g q8 8 (fun _ => 0), ba g q9 28 (fun _ => 0), ia g q10 5 (fun _ => 0), ia g q11 5 (fun _ => 0), ia g q12 5 (fun _ => 0), ia g q13 5 (fun _ => 0), ia g q14 5 (fun _ => 0), ia g q15 8 (fun _ => 0)] H _ := hw
  refine w_putF (ci := 12) (ws' := [ob a 12 [.int 0, .int 0, .int 0, .ref q1, .ref q2, .ref q3, .ref q4, .ref q5, .ref q6, .int 0, .ref q7, .ref q8, .int 0, .int 0, .ref q9, .int 0, .int 0, .ref q10, .ref q11, .long 0, .int 0, .int 0, .int 0, .ref q12, .ref q13, .ref q14, .ref q15, .null, .long 0], ia g q1 5 (fun _ => 0), ia g q2 5 (fun _ => 0), ia g q3 5 (fun _ => 0), ia g q4 5 (fun _ => 0), ia g q5 5 (fun _ => 0), ia g q6 5 (fun _ => 0), ia g q7 8 (fun _ => 0), ia g q8 8 (fun _ => 0), ba g q9 28 (fun _ => 0), ia g q10 5 (fun _ => 0), ia g q11 5 (fun _ => 0), ia g q12 5 (fun _ => 0), ia g q13 5 (fun _ => 0), ia g q14 5 (fun _ => 0), ia g q15 8 (fun _ => 0)]) F hnm hK hw fb_X12 0 rfl rfl 26 (by decide) fl_X12_53 (fun _ h => h) rfl rfl rfl rfl rfl (Nat.le_of_ble_eq_true rfl) rfl dX12_init_110 (fun H locs hw => ?_)
  refine lv_aload_n hx hb dX12_init_113 rfl (lv_at hl 0 rfl) ?_
  refine lv_bipush (v := 8) hx hb dX12_init_114 (by decide) ?_
  refine w_newi (N := 8) F hK hw hA (by decide) (by decide) (by decide) (Nat.le_of_ble_eq_true rfl) (Nat.le_of_ble_eq_true rfl) dX12_init_116 (fun q16 H hw => ?_)
  have hw : WD g A s.heap [ob a 12 [.int 0, .int 0, .int 0, .ref q1, .ref q2, .ref q3, .ref q4, .ref q5, .ref q6, .int 0, .ref q7, .ref q8, .int 0, .int 0, .ref q9, .int 0, .int 0, .ref q10, .ref q11, .long 0, .int 0, .int 0, .int 0, .ref q12, .ref q13, .ref q14, .ref q15, .null, .long 0], ia g q1 5 (fun _ => 0), ia g q2 5 (fun _ => 0), ia g q3 5 (fun _ => 0), ia g q4 5 (fun _ => 0), ia g q5 5 (fun _ => 0), ia g q6 5 (fun _ => 0), ia g q7 8 (fun _ => 0), ia g q8 8 (fun _ => 0), ba g q9 28 (fun _ => 0), ia g q10 5 (fun _ => 0), ia g q11 5 (fun _ => 0), ia g q12 5 (fun _ => 0), ia g q13 5 (fun _ => 0), ia g q14 5 (fun _ => 0), ia g q15 8 (fun _ => 0), ia g q16 8 (fun _ => 0)] H _ := hw
  refine w_putF (ci := 12) (ws' := [ob a 12 [.int 0, .int 0, .int 0, .ref q1, .ref q2, .ref q3, .ref q4, .ref q5, .ref q6, .int 0, .ref q7, .ref q8, .int 0, .int 0, .ref q9, .int 0, .int 0, .ref q10, .ref q11, .long 0, .int 0, .int 0, .int 0, .ref q12, .ref q13, .ref q14, .ref q15, .ref q16, .long 0], ia g q1 5 (fun _ => 0), ia g q2 5 (fun _ => 0), ia g q3 5 (fun _ => 0), ia g q4 5 (fun _ => 0), ia g q5 5 (fun _ => 0), ia g q6 5 (fun _ => 0), ia g q7 8 (fun _ => 0), ia g q8 8 (fun _ => 0), ba g q9 28 (fun _ => 0), ia g q10 5 (fun _ => 0), ia g q11 5 (fun _ => 0), ia g q12 5 (fun _ => 0), ia g q13 5 (fun _ => 0), ia g q14 5 (fun _ => 0), ia g q15 8 (fun _ => 0), ia g q16 8 (fun _ => 0)]) F hnm hK hw fb_X12 0 rfl rfl 27 (by decide) fl_X12_56 (fun _ h => h) rfl rfl rfl rfl rfl (Nat.le_of_ble_eq_true rfl) rfl dX12_init_118 (fun H locs hw => ?_)
  have hw := hw
  refine W.widen (k := 16) (n := 115) (Nat.le_of_ble_eq_true rfl) (Nat.le_of_ble_eq_true rfl) ?_
  exact r_cv F hQ ⟨rfl, q1, q2, q3, q4, q5, q6, q7, q8, q9, q10, q11, q12, q13, q14, q15, q16, rfl⟩ hw dX12_init_121
