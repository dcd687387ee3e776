def f_X0_kind  : Option (Int32) := (some 0)
set_option maxRecDepth 100000 in
set_option maxHeartbeats 4000000 in
theorem c_X0_kind (l : Launch) (g : GG) (a_this : Nat) {r0 : Int32} (hf : f_X0_kind  = some r0) : MR l g yX0_kind cX0_kind 1 (some .int) 0 0 [.ref a_this] [] (some (.int r0)) := by
  refine MR.mk (by decide) (Nat.le_of_ble_eq_true rfl) ?_
  intro p e s m args below meth c ls Q F hK hP hl hQ
  have hx := F.1
  have hb := F.2.1
  have hml := F.2.2.2.1
  have hown := F.2.2.2.2.1
  have hts := F.2.2.2.2.2.1
  have hl : lv_has ls 1 [(0, .ref a_this)] := hl
  unfold f_X0_kind at hf
  refine lv_iconst (v := 0) hx hb dX0_kind_0 (by decide) ?_
  exact r_ri F hQ (Option.some.inj hf) dX0_kind_1
def f_X10_kind  : Option (Int32) := (some 1)
set_option maxRecDepth 100000 in
set_option maxHeartbeats 4000000 in
theorem c_X10_kind (l : Launch) (g : GG) (a_this : Nat) {r0 : Int32} (hf : f_X10_kind  = some r0) : MR l g yX10_kind cX10_kind 1 (some .int) 0 0 [.ref a_this] [] (some (.int r0)) := by
  refine MR.mk (by decide) (Nat.le_of_ble_eq_true rfl) ?_
  intro p e s m args below meth c ls Q F hK hP hl hQ
  have hx := F.1
  have hb := F.2.1
  have hml := F.2.2.2.1
  have hown := F.2.2.2.2.1
  have hts := F.2.2.2.2.2.1
  have hl : lv_has ls 1 [(0, .ref a_this)] := hl
  unfold f_X10_kind at hf
  refine lv_iconst (v := 1) hx hb dX10_kind_0 (by decide) ?_
  exact r_ri F hQ (Option.some.inj hf) dX10_kind_1
def f_X9_kind  : Option (Int32) := (some 2)
set_option maxRecDepth 100000 in
set_option maxHeartbeats 4000000 in
theorem c_X9_kind (l : Launch) (g : GG) (a_this : Nat) {r0 : Int32} (hf : f_X9_kind  = some r0) : MR l g yX9_kind cX9_kind 1 (some .int) 0 0 [.ref a_this] [] (some (.int r0)) := by
  refine MR.mk (by decide) (Nat.le_of_ble_eq_true rfl) ?_
  intro p e s m args below meth c ls Q F hK hP hl hQ
  have hx := F.1
  have hb := F.2.1
  have hml := F.2.2.2.1
  have hown := F.2.2.2.2.1
  have hts := F.2.2.2.2.2.1
  have hl : lv_has ls 1 [(0, .ref a_this)] := hl
  unfold f_X9_kind at hf
  refine lv_iconst (v := 2) hx hb dX9_kind_0 (by decide) ?_
  exact r_ri F hQ (Option.some.inj hf) dX9_kind_1
def f_X3_kind  : Option (Int32) := (some 3)
set_option maxRecDepth 100000 in
set_option maxHeartbeats 4000000 in
theorem c_X3_kind (l : Launch) (g : GG) (a_this : Nat) {r0 : Int32} (hf : f_X3_kind  = some r0) : MR l g yX3_kind cX3_kind 1 (some .int) 0 0 [.ref a_this] [] (some (.int r0)) := by
  refine MR.mk (by decide) (Nat.le_of_ble_eq_true rfl) ?_
  intro p e s m args below meth c ls Q F hK hP hl hQ
  have hx := F.1
  have hb := F.2.1
  have hml := F.2.2.2.1
  have hown := F.2.2.2.2.1
  have hts := F.2.2.2.2.2.1
  have hl : lv_has ls 1 [(0, .ref a_this)] := hl
  unfold f_X3_kind at hf
  refine lv_iconst (v := 3) hx hb dX3_kind_0 (by decide) ?_
  exact r_ri F hQ (Option.some.inj hf) dX3_kind_1
def f_X1_kind  : Option (Int32) := (some 4)
set_option maxRecDepth 100000 in
set_option maxHeartbeats 4000000 in
theorem c_X1_kind (l : Launch) (g : GG) (a_this : Nat) {r0 : Int32} (hf : f_X1_kind  = some r0) : MR l g yX1_kind cX1_kind 1 (some .int) 0 0 [.ref a_this] [] (some (.int r0)) := by
  refine MR.mk (by decide) (Nat.le_of_ble_eq_true rfl) ?_
  intro p e s m args below meth c ls Q F hK hP hl hQ
  have hx := F.1
  have hb := F.2.1
  have hml := F.2.2.2.1
  have hown := F.2.2.2.2.1
  have hts := F.2.2.2.2.2.1
  have hl : lv_has ls 1 [(0, .ref a_this)] := hl
  unfold f_X1_kind at hf
  refine lv_iconst (v := 4) hx hb dX1_kind_0 (by decide) ?_
  exact r_ri F hQ (Option.some.inj hf) dX1_kind_1
def f_X0_breathsOf (x1 : Int32) : Option (Int32) := (some x1)
set_option maxRecDepth 100000 in
set_option maxHeartbeats 4000000 in
theorem c_X0_breathsOf (l : Launch) (g : GG) (a_this : Nat) (x1 : Int32) {r0 : Int32} (hf : f_X0_breathsOf x1 = some r0) : MR l g yX0_breathsOf cX0_breathsOf 2 (some .int) 0 0 [.ref a_this, .int x1] [] (some (.int r0)) := by
  refine MR.mk (by decide) (Nat.le_of_ble_eq_true rfl) ?_
  intro p e s m args below meth c ls Q F hK hP hl hQ
  have hx := F.1
  have hb := F.2.1
  have hml := F.2.2.2.1
  have hown := F.2.2.2.2.1
  have hts := F.2.2.2.2.2.1
  have hl : lv_has ls 2 [(0, .ref a_this), (1, .int x1)] := hl
  unfold f_X0_breathsOf at hf
  refine lv_iload_n hx hb dX0_breathsOf_0 rfl (lv_at hl 1 rfl) ?_
  exact r_ri F hQ (Option.some.inj hf) dX0_breathsOf_1
def f_X9_breathsOf (x1 : Int32) : Option (Int32) := (some ((x1 + 1) / 2))
set_option maxRecDepth 100000 in
set_option maxHeartbeats 4000000 in
theorem c_X9_breathsOf (l : Launch) (g : GG) (a_this : Nat) (x1 : Int32) {r0 : Int32} (hf : f_X9_breathsOf x1 = some r0) : MR l g yX9_breathsOf cX9_breathsOf 2 (some .int) 0 0 [.ref a_this, .int x1] [] (some (.int r0)) := by
  refine MR.mk (by decide) (Nat.le_of_ble_eq_true rfl) ?_
  intro p e s m args below meth c ls Q F hK hP hl hQ
  have hx := F.1
  have hb := F.2.1
  have hml := F.2.2.2.1
  have hown := F.2.2.2.2.1
  have hts := F.2.2.2.2.2.1
  have hl : lv_has ls 2 [(0, .ref a_this), (1, .int x1)] := hl
  unfold f_X9_breathsOf at hf
  refine lv_iload_n hx hb dX9_breathsOf_0 rfl (lv_at hl 1 rfl) ?_
  refine lv_iconst (v := 1) hx hb dX9_breathsOf_1 (by decide) ?_
  refine lv_iadd hx hb dX9_breathsOf_2 ?_
  refine lv_iconst (v := 2) hx hb dX9_breathsOf_3 (by decide) ?_
  refine lv_idiv hx hb dX9_breathsOf_4 (by decide) ?_
  exact r_ri F hQ (Option.some.inj hf) dX9_breathsOf_5
def f_X10_breathsOf (x1 : Int32) : Option (Int32) := (some (2 * x1))
set_option maxRecDepth 100000 in
set_option maxHeartbeats 4000000 in
theorem c_X10_breathsOf (l : Launch) (g : GG) (a_this : Nat) (x1 : Int32) {r0 : Int32} (hf : f_X10_breathsOf x1 = some r0) : MR l g yX10_breathsOf cX10_breathsOf 2 (some .int) 0 0 [.ref a_this, .int x1] [] (some (.int r0)) := by
  refine MR.mk (by decide) (Nat.le_of_ble_eq_true rfl) ?_
  intro p e s m args below meth c ls Q F hK hP hl hQ
  have hx := F.1
  have hb := F.2.1
  have hml := F.2.2.2.1
  have hown := F.2.2.2.2.1
  have hts := F.2.2.2.2.2.1
  have hl : lv_has ls 2 [(0, .ref a_this), (1, .int x1)] := hl
  unfold f_X10_breathsOf at hf
  refine lv_iconst (v := 2) hx hb dX10_breathsOf_0 (by decide) ?_
  refine lv_iload_n hx hb dX10_breathsOf_1 rfl (lv_at hl 1 rfl) ?_
  refine lv_imul hx hb dX10_breathsOf_2 ?_
  exact r_ri F hQ (Option.some.inj hf) dX10_breathsOf_3
def f_X0_echo  : Option (Int32) := (some 0)
set_option maxRecDepth 100000 in
set_option maxHeartbeats 4000000 in
theorem c_X0_echo (l : Launch) (g : GG) (a_this : Nat) {r0 : Int32} (hf : f_X0_echo  = some r0) : MR l g yX0_echo cX0_echo 1 (some .int) 0 0 [.ref a_this] [] (some (.int r0)) := by
  refine MR.mk (by decide) (Nat.le_of_ble_eq_true rfl) ?_
  intro p e s m args below meth c ls Q F hK hP hl hQ
  have hx := F.1
  have hb := F.2.1
  have hml := F.2.2.2.1
  have hown := F.2.2.2.2.1
  have hts := F.2.2.2.2.2.1
  have hl : lv_has ls 1 [(0, .ref a_this)] := hl
  unfold f_X0_echo at hf
  refine lv_iconst (v := 0) hx hb dX0_echo_0 (by decide) ?_
  exact r_ri F hQ (Option.some.inj hf) dX0_echo_1
def f_X3_echo  : Option (Int32) := (some 2)
set_option maxRecDepth 100000 in
set_option maxHeartbeats 4000000 in
theorem c_X3_echo (l : Launch) (g : GG) (a_this : Nat) {r0 : Int32} (hf : f_X3_echo  = some r0) : MR l g yX3_echo cX3_echo 1 (some .int) 0 0 [.ref a_this] [] (some (.int r0)) := by
  refine MR.mk (by decide) (Nat.le_of_ble_eq_true rfl) ?_
  intro p e s m args below meth c ls Q F hK hP hl hQ
  have hx := F.1
  have hb := F.2.1
  have hml := F.2.2.2.1
  have hown := F.2.2.2.2.1
  have hts := F.2.2.2.2.2.1
  have hl : lv_has ls 1 [(0, .ref a_this)] := hl
  unfold f_X3_echo at hf
  refine lv_iconst (v := 2) hx hb dX3_echo_0 (by decide) ?_
  exact r_ri F hQ (Option.some.inj hf) dX3_echo_1
section
def brF (k : Nat) (w : Int32) : Int32 := if k = 1 ∨ k = 4 then 2 * w else if k = 2 then (w + 1) / 2 else w
def endF (k : Nat) (c w : Int32) : Int32 := if c = (-1) then brF k w + 1 else if brF k w + 1 < c then brF k w + 1 else c
def echF (k : Nat) : Int32 := if k = 3 then 2 else 0
def kinF (k : Nat) : Int32 := nI k
def priF (k : Nat) (su st fa : Int32) : Int32 := if k = 4 then 10 * su else if 0 < 10 * su - fa * (st - 1) then 10 * su - fa * (st - 1) else 0
def f_X11_isOfKind (k : Nat) (x1 : Int32) : Option Int32 := some (if x1 = 1 then (if k = 1 ∨ k = 4 then 1 else 0) else if x1 = 2 then (if k = 2 then 1 else 0) else if x1 = 3 then (if k = 3 then 1 else 0) else if x1 = 4 then (if k = 4 then 1 else 0) else 1)
abbrev bfs (su wi wd ch tc : Int32) : List Value := [.int su, .int wi, .int wd, .int ch, .int tc]
abbrev sw (sa K : Nat → Nat) (su wi wd ch tc : Nat → Int32) (i : Nat) : Nat × va_E := (sa i, .inr (K i, bfs (su i) (wi i) (wd i) (ch i) (tc i)))
def swl (sa K : Nat → Nat) (su wi wd ch tc : Nat → Int32) : va_W := [sw sa K su wi wd ch tc 0, sw sa K su wi wd ch tc 1, sw sa K su wi wd ch tc 2, sw sa K su wi wd ch tc 3, sw sa K su wi wd ch tc 4]
theorem five {P : Nat → Prop} {j : Nat} (hj : j < 5) (h0 : P 0) (h1 : P 1) (h2 : P 2) (h3 : P 3) (h4 : P 4) : P j := by
  match j, hj with
  | 0, _ => exact h0
  | 1, _ => exact h1
  | 2, _ => exact h2
  | 3, _ => exact h3
  | 4, _ => exact h4
theorem s_at (pre : va_W) {sa K : Nat → Nat} {su wi wd ch tc : Nat → Int32} {j : Nat} (hj : j < 5) : (pre ++ swl sa K su wi wd ch tc)[pre.length + j]? = some (sw sa K su wi wd ch tc j) := by
  rw [List.getElem?_append_right (Nat.le_add_right _ _), Nat.add_sub_cancel_left]
  exact five (P := fun j => (swl sa K su wi wd ch tc)[j]? = some (sw sa K su wi wd ch tc j)) hj rfl rfl rfl rfl rfl
theorem pp1 {g : GG} {ws : va_W} {H : Heap} {q0 : Nat} {q : Nat × va_E} (hP : PP g ws H) (he : ws[q0]? = some q) : PP g [q] H := by
  intro k x hx
  cases k with
  | zero => cases hx; exact hP q0 q he
  | succ k => simp at hx
theorem in5 {i : Int32} (h : ¬ (i < 0 ∨ 5 ≤ i.toNatClampNeg)) : i.toNatClampNeg < 5 := Nat.not_le.mp fun q => h (Or.inr q)
theorem tx10 : TX10 = TX0 := by funext k; match k with | 0 => rfl | 1 => rfl | 2 => rfl | 3 => rfl | n + 4 => rfl
theorem tx9 : TX9 = TX0 := by funext k; match k with | 0 => rfl | 1 => rfl | 2 => rfl | 3 => rfl | n + 4 => rfl
theorem tx3 : TX3 = TX0 := by funext k; match k with | 0 => rfl | 1 => rfl | 2 => rfl | 3 => rfl | n + 4 => rfl
theorem tx1 : TX1 = TX0 := by funext k; match k with | 0 => rfl | 1 => rfl | 2 => rfl | 3 => rfl | n + 4 => rfl
theorem ty10 : tyX10 = tyX0 := by funext k; match k with | 0 => rfl | 1 => rfl | 2 => rfl | 3 => rfl | n + 4 => rfl
theorem ty9 : tyX9 = tyX0 := by funext k; match k with | 0 => rfl | 1 => rfl | 2 => rfl | 3 => rfl | n + 4 => rfl
theorem ty3 : tyX3 = tyX0 := by funext k; match k with | 0 => rfl | 1 => rfl | 2 => rfl | 3 => rfl | n + 4 => rfl
theorem ty1 : tyX1 = tyX0 := by funext k; match k with | 0 => rfl | 1 => rfl | 2 => rfl | 3 => rfl | n + 4 => rfl
theorem tx0_1 (k : Nat) : (TX0 k).1 = "SecondSilence$Bidder" := by match k with | 0 => rfl | 1 => rfl | 2 => rfl | 3 => rfl | n + 4 => rfl
/-- the class of a kind, with its fields as Bidder has them -/
theorem kd_fb {kd : Nat} (h5 : kd < 5) : ∃ C, vcl[kd]? = some (C, TX0, 5) ∧ FB C TX0 5 tyX0 := by
  match kd, h5 with
  | 0, _ => exact ⟨RX0, rfl, fb_X0⟩
  | 1, _ => exact ⟨RX10, by rw [← tx10]; rfl, by rw [← tx10, ← ty10]; exact fb_X10⟩
  | 2, _ => exact ⟨RX9, by rw [← tx9]; rfl, by rw [← tx9, ← ty9]; exact fb_X9⟩
  | 3, _ => exact ⟨RX3, by rw [← tx3]; rfl, by rw [← tx3, ← ty3]; exact fb_X3⟩
  | 4, _ => exact ⟨RX1, by rw [← tx1]; rfl, by rw [← tx1, ← ty1]; exact fb_X1⟩
end
section
variable {p : Program} {l : Launch} {e : Env} {R : Room} {s : State} {m : MethodId} {args : Array Value} {below : List Frame} {meth : Method} {c : Code} {H H0 : Heap} {locs : List Loc} {cells slots pc nL fr lo n k idx ci N : Nat} {Q : State → Prop} {ls : Array Slot} {st rest As av fs : List Value} {cc b : ByteArray} {A free : Nat → Prop} {ws wc wr ws' w1 pre : va_W} {a kd j : Nat} {g : GG} {own C ref owner : String} {x y : MethodName} {rt rt' : Option FieldType} {v : Option Value} {sa K : Nat → Nat} {su wi wd ch tc : Nat → Int32}
theorem b_get (F : CX p s m args meth c cc rt nL own) (hK : KK g s) (hP : PP g ws H) (q0 : Nat) (he : ws[q0]? = some (a, .inr (kd, fs))) (h5 : kd < 5) (k : Nat) (hk : k < 5) (hl : Cond.fieldLink own idx "SecondSilence$Bidder" (TX0 k).2.1 (TX0 k).2.2.1 ∈ Gw) {v : Value} (hv : fs[k]? = some v) (hd : decode cc pc = .ok (.getfield idx, 3))
    (kk : W p l e R s m args below meth c H locs cells slots Q (F0 m (pc + 3) ls (v :: rest))) : W p l e R s m args below meth c H locs cells slots Q (F0 m pc ls (.ref a :: rest)) := by
  obtain ⟨C, hc, fb⟩ := kd_fb h5
  exact w_get F hK hP fb q0 he hc k hk hl (by rw [tx0_1]; exact fun _ h => h) hv hd kk
theorem s_get (F : CX p s m args meth c cc rt nL own) (hK : KK g s) (hP : PP g (pre ++ swl sa K su wi wd ch tc) H) (hj : j < 5) (hK5 : ∀ i, K i < 5) (k : Nat) {v : Value} (hv : (bfs (su j) (wi j) (wd j) (ch j) (tc j))[k]? = some v) (hl : Cond.fieldLink own idx "SecondSilence$Bidder" (TX0 k).2.1 (TX0 k).2.2.1 ∈ Gw) (hd : decode cc pc = .ok (.getfield idx, 3))
    (kk : W p l e R s m args below meth c H locs cells slots Q (F0 m (pc + 3) ls (v :: rest))) : W p l e R s m args below meth c H locs cells slots Q (F0 m pc ls (.ref (sa j) :: rest)) :=
  b_get F hK hP _ (s_at pre hj) (hK5 j) k (Nat.not_le.mp fun h => by rw [List.getElem?_eq_none h] at hv; cases hv) hl hv hd kk
theorem w_aald (F : CX p s m args meth c cc rt nL own) (hK : KK g s) (hP : PP g ws H) (q0 : Nat) {n : Nat} {f : Nat → Nat} (ha : ws[q0]? = some (a, .inl (g.2.2.2, n, .inr (.inr (.inr (.inr (fun i => some (f i)))))))) {i : Int32} (hin : ¬ (i < 0 ∨ n ≤ i.toNatClampNeg)) (hd : decode cc pc = .ok (.aaload, 1))
    (kk : W p l e R s m args below meth c H locs cells slots Q (F0 m (pc + 1) ls (.ref (f i.toNatClampNeg) :: rest))) : W p l e R s m args below meth c H locs cells slots Q (F0 m pc ls (.int i :: .ref a :: rest)) :=
  va_aldq F.1 F.2.1 hK.1 hP q0 2 ha rfl hin hd kk
theorem b_put (F : CX p s m args meth c cc rt nL own) (hK : KK g s) (hw : WD g A H0 (pre ++ swl sa K su wi wd ch tc) H locs) (hj : j < 5) (hK5 : ∀ i, K i < 5) (k : Nat) (hk : k < 5) (hl : Cond.fieldLink own idx "SecondSilence$Bidder" (TX0 k).2.1 (TX0 k).2.2.1 ∈ Gw) (hfin : (TX0 k).2.2.2 = false) (hty : tyX0 k = .int) {x : Int32} {su' wi' wd' ch' tc' : Nat → Int32} (hs : ∀ i, i < 5 → (if i = j then (sa i, .inr (K i, (bfs (su j) (wi j) (wd j) (ch j) (tc j)).set k (.int x))) else sw sa K su wi wd ch tc i) = sw sa K su' wi' wd' ch' tc' i) (hd : decode cc pc = .ok (.putfield idx, 3))
    (kk : ∀ (H1 : Heap) (locs1 : List Loc), WD g A H0 (pre ++ swl sa K su' wi' wd' ch' tc') H1 locs1 → W p l e R s m args below meth c H1 locs1 cells slots Q (F0 m (pc + 3) ls rest)) : W p l e R s m args below meth c H locs cells slots Q (F0 m pc ls (.int x :: .ref (sa j) :: rest)) := by
  obtain ⟨C, hc, fb⟩ := kd_fb (hK5 j)
  refine w_put F hK hw fb _ (s_at pre hj) hc k hk hl (by rw [tx0_1]; exact fun _ h => h) hfin hty rfl rfl hk ?_ hd kk
  rw [List.set_append_right _ _ (Nat.le_add_right _ _), Nat.add_sub_cancel_left]
  congr 1
  have h0 := hs 0 (by decide)
  have h1 := hs 1 (by decide)
  have h2 := hs 2 (by decide)
  have h3 := hs 3 (by decide)
  have h4 := hs 4 (by decide)
  unfold swl
  rw [← h0, ← h1, ← h2, ← h3, ← h4]
  exact five (P := fun j => List.set [sw sa K su wi wd ch tc 0, sw sa K su wi wd ch tc 1, sw sa K su wi wd ch tc 2, sw sa K su wi wd ch tc 3, sw sa K su wi wd ch tc 4] j (sa j, .inr (K j, (bfs (su j) (wi j) (wd j) (ch j) (tc j)).set k (.int x))) = [if 0 = j then (sa 0, .inr (K 0, (bfs (su j) (wi j) (wd j) (ch j) (tc j)).set k (.int x))) else sw sa K su wi wd ch tc 0, if 1 = j then (sa 1, .inr (K 1, (bfs (su j) (wi j) (wd j) (ch j) (tc j)).set k (.int x))) else sw sa K su wi wd ch tc 1, if 2 = j then (sa 2, .inr (K 2, (bfs (su j) (wi j) (wd j) (ch j) (tc j)).set k (.int x))) else sw sa K su wi wd ch tc 2, if 3 = j then (sa 3, .inr (K 3, (bfs (su j) (wi j) (wd j) (ch j) (tc j)).set k (.int x))) else sw sa K su wi wd ch tc 3, if 4 = j then (sa 4, .inr (K 4, (bfs (su j) (wi j) (wd j) (ch j) (tc j)).set k (.int x))) else sw sa K su wi wd ch tc 4]) hj rfl rfl rfl rfl rfl
theorem s_put_wind (F : CX p s m args meth c cc rt nL own) (hK : KK g s) (hw : WD g A H0 (pre ++ swl sa K su wi wd ch tc) H locs) (hj : j < 5) (hK5 : ∀ i, K i < 5) (hl : Cond.fieldLink own idx "SecondSilence$Bidder" "wind" "I" ∈ Gw) {x : Int32} (hd : decode cc pc = .ok (.putfield idx, 3))
    (kk : ∀ (H1 : Heap) (locs1 : List Loc), WD g A H0 (pre ++ swl sa K su wi (upd wd j x) ch tc) H1 locs1 → W p l e R s m args below meth c H1 locs1 cells slots Q (F0 m (pc + 3) ls rest)) : W p l e R s m args below meth c H locs cells slots Q (F0 m pc ls (.int x :: .ref (sa j) :: rest)) :=
  b_put F hK hw hj hK5 2 (by decide) hl rfl rfl (fun i hi => by by_cases h : i = j <;> simp [h, upd]) hd kk
theorem s_put_choice (F : CX p s m args meth c cc rt nL own) (hK : KK g s) (hw : WD g A H0 (pre ++ swl sa K su wi wd ch tc) H locs) (hj : j < 5) (hK5 : ∀ i, K i < 5) (hl : Cond.fieldLink own idx "SecondSilence$Bidder" "choice" "I" ∈ Gw) {x : Int32} (hd : decode cc pc = .ok (.putfield idx, 3))
    (kk : ∀ (H1 : Heap) (locs1 : List Loc), WD g A H0 (pre ++ swl sa K su wi wd (upd ch j x) tc) H1 locs1 → W p l e R s m args below meth c H1 locs1 cells slots Q (F0 m (pc + 3) ls rest)) : W p l e R s m args below meth c H locs cells slots Q (F0 m pc ls (.int x :: .ref (sa j) :: rest)) :=
  b_put F hK hw hj hK5 3 (by decide) hl rfl rfl (fun i hi => by by_cases h : i = j <;> simp [h, upd]) hd kk
theorem s_put_touchers (F : CX p s m args meth c cc rt nL own) (hK : KK g s) (hw : WD g A H0 (pre ++ swl sa K su wi wd ch tc) H locs) (hj : j < 5) (hK5 : ∀ i, K i < 5) (hl : Cond.fieldLink own idx "SecondSilence$Bidder" "touchers" "I" ∈ Gw) {x : Int32} (hd : decode cc pc = .ok (.putfield idx, 3))
    (kk : ∀ (H1 : Heap) (locs1 : List Loc), WD g A H0 (pre ++ swl sa K su wi wd ch (upd tc j x)) H1 locs1 → W p l e R s m args below meth c H1 locs1 cells slots Q (F0 m (pc + 3) ls rest)) : W p l e R s m args below meth c H locs cells slots Q (F0 m pc ls (.int x :: .ref (sa j) :: rest)) :=
  b_put F hK hw hj hK5 4 (by decide) hl rfl rfl (fun i hi => by by_cases h : i = j <;> simp [h, upd]) hd kk
/-- invokevirtual by the receiver's kind -/
theorem k_rX (F : CX p s m args meth c cc rt nL own) (hM : MR l g y b n rt' fr lo (.ref a :: As) wc v) (cw : va_CU R s args own C owner idx x y b n rt' (.code y b n rt' :: Gw) (rmc fr 0 0 lo) 0 0 k) (hP : PP g wc H) (hK : KK g s) (hrc : ∃ cell : Cell, H[a]? = some cell ∧ cell.vm.isStatics = false ∧ s.vm.findClass C = some cell.cls) (hn : As.length = k) (hsz : ls.size = nL) (hst : st = As.reverse ++ .ref a :: rest) (hW : (rest.map fun v => v.category).sum ≤ 8) (hd : decode cc pc = .ok (.invokevirtual idx, 3)) (hf : cells ≤ R.cells ∧ slots ≤ R.slots)
    (kk : W p l e R s m args below meth c H locs cells slots Q (F0 m (pc + 3) ls (v.toList ++ rest))) : W p l e R s m args below meth c H locs cells slots Q (F0 m pc ls st) :=
  k_r (va_runU (g := F0 m pc ls st) (cx_fix F) hM cw ⟨pc_blindR, hrc, fun U hU hW => ⟨rfl, by rw [hU]; exact hP, hK.warm hW⟩⟩ rfl hn hsz hst (lv_room hW) hd hf) kk
end
theorem cw_endBy_0_in : ∀ w ∈ va_wsU RX2 50 RX0 RX0 yX0_endBy yX0_endBy (.code yX0_endBy cX0_endBy 4 (some .int) :: Gw), w ∈ Gw := gw_code (gw_2 (List.mem_of_getElem? (i := 215) rfl) rfl) (List.forall_mem_cons.mpr ⟨ml_X2_50, List.forall_mem_cons.mpr ⟨gw_2 (List.mem_of_getElem? (i := 210) rfl) rfl, List.forall_mem_cons.mpr ⟨gw_2 (List.mem_of_getElem? (i := 209) rfl) rfl, List.forall_mem_cons.mpr ⟨gw_2 (List.mem_of_getElem? (i := 208) rfl) rfl, List.forall_mem_cons.mpr ⟨in_X0, fun _ h => absurd h List.not_mem_nil⟩⟩⟩⟩⟩)
theorem cw_endBy_0 {R : Room} {s : State} {args : Array Value} (hts : ∀ w ∈ Gw, w.before args s = true) (hR : 1 + 1 ≤ R.frames ∧ 8 + (4 + 11) + 21 ≤ R.locals) : va_CU R s args RX2 RX0 RX0 50 yX0_endBy yX0_endBy cX0_endBy 4 (some .int) (.code yX0_endBy cX0_endBy 4 (some .int) :: Gw) (rmc 1 0 0 21) 0 0 2 := va_cwU 2 hts (gw_in cw_endBy_0_in) rfl rfl rfl rfl (by decide +kernel) hR
theorem cw_endBy_1_in : ∀ w ∈ va_wsU RX2 50 RX10 RX0 yX0_endBy yX0_endBy (.code yX0_endBy cX0_endBy 4 (some .int) :: Gw), w ∈ Gw := gw_code (gw_2 (List.mem_of_getElem? (i := 215) rfl) rfl) (List.forall_mem_cons.mpr ⟨ml_X2_50, List.forall_mem_cons.mpr ⟨gw_2 (List.mem_of_getElem? (i := 210) rfl) rfl, List.forall_mem_cons.mpr ⟨gw_2 (List.mem_of_getElem? (i := 214) rfl) rfl, List.forall_mem_cons.mpr ⟨gw_2 (List.mem_of_getElem? (i := 208) rfl) rfl, List.forall_mem_cons.mpr ⟨in_X0, fun _ h => absurd h List.not_mem_nil⟩⟩⟩⟩⟩)
theorem cw_endBy_1 {R : Room} {s : State} {args : Array Value} (hts : ∀ w ∈ Gw, w.before args s = true) (hR : 1 + 1 ≤ R.frames ∧ 8 + (4 + 11) + 21 ≤ R.locals) : va_CU R s args RX2 RX10 RX0 50 yX0_endBy yX0_endBy cX0_endBy 4 (some .int) (.code yX0_endBy cX0_endBy 4 (some .int) :: Gw) (rmc 1 0 0 21) 0 0 2 := va_cwU 2 hts (gw_in cw_endBy_1_in) rfl rfl rfl rfl (by decide +kernel) hR
theorem cw_endBy_2_in : ∀ w ∈ va_wsU RX2 50 RX9 RX0 yX0_endBy yX0_endBy (.code yX0_endBy cX0_endBy 4 (some .int) :: Gw), w ∈ Gw := gw_code (gw_2 (List.mem_of_getElem? (i := 215) rfl) rfl) (List.forall_mem_cons.mpr ⟨ml_X2_50, List.forall_mem_cons.mpr ⟨gw_2 (List.mem_of_getElem? (i := 210) rfl) rfl, List.forall_mem_cons.mpr ⟨gw_2 (List.mem_of_getElem? (i := 213) rfl) rfl, List.forall_mem_cons.mpr ⟨gw_2 (List.mem_of_getElem? (i := 208) rfl) rfl, List.forall_mem_cons.mpr ⟨in_X0, fun _ h => absurd h List.not_mem_nil⟩⟩⟩⟩⟩)
theorem cw_endBy_2 {R : Room} {s : State} {args : Array Value} (hts : ∀ w ∈ Gw, w.before args s = true) (hR : 1 + 1 ≤ R.frames ∧ 8 + (4 + 11) + 21 ≤ R.locals) : va_CU R s args RX2 RX9 RX0 50 yX0_endBy yX0_endBy cX0_endBy 4 (some .int) (.code yX0_endBy cX0_endBy 4 (some .int) :: Gw) (rmc 1 0 0 21) 0 0 2 := va_cwU 2 hts (gw_in cw_endBy_2_in) rfl rfl rfl rfl (by decide +kernel) hR
theorem cw_endBy_3_in : ∀ w ∈ va_wsU RX2 50 RX3 RX0 yX0_endBy yX0_endBy (.code yX0_endBy cX0_endBy 4 (some .int) :: Gw), w ∈ Gw := gw_code (gw_2 (List.mem_of_getElem? (i := 215) rfl) rfl) (List.forall_mem_cons.mpr ⟨ml_X2_50, List.forall_mem_cons.mpr ⟨gw_2 (List.mem_of_getElem? (i := 210) rfl) rfl, List.forall_mem_cons.mpr ⟨gw_2 (List.mem_of_getElem? (i := 212) rfl) rfl, List.forall_mem_cons.mpr ⟨gw_2 (List.mem_of_getElem? (i := 208) rfl) rfl, List.forall_mem_cons.mpr ⟨in_X0, fun _ h => absurd h List.not_mem_nil⟩⟩⟩⟩⟩)
theorem cw_endBy_3 {R : Room} {s : State} {args : Array Value} (hts : ∀ w ∈ Gw, w.before args s = true) (hR : 1 + 1 ≤ R.frames ∧ 8 + (4 + 11) + 21 ≤ R.locals) : va_CU R s args RX2 RX3 RX0 50 yX0_endBy yX0_endBy cX0_endBy 4 (some .int) (.code yX0_endBy cX0_endBy 4 (some .int) :: Gw) (rmc 1 0 0 21) 0 0 2 := va_cwU 2 hts (gw_in cw_endBy_3_in) rfl rfl rfl rfl (by decide +kernel) hR
theorem cw_endBy_4_in : ∀ w ∈ va_wsU RX2 50 RX1 RX0 yX0_endBy yX0_endBy (.code yX0_endBy cX0_endBy 4 (some .int) :: Gw), w ∈ Gw := gw_code (gw_2 (List.mem_of_getElem? (i := 215) rfl) rfl) (List.forall_mem_cons.mpr ⟨ml_X2_50, List.forall_mem_cons.mpr ⟨gw_2 (List.mem_of_getElem? (i := 210) rfl) rfl, List.forall_mem_cons.mpr ⟨gw_2 (List.mem_of_getElem? (i := 211) rfl) rfl, List.forall_mem_cons.mpr ⟨gw_2 (List.mem_of_getElem? (i := 208) rfl) rfl, List.forall_mem_cons.mpr ⟨in_X0, fun _ h => absurd h List.not_mem_nil⟩⟩⟩⟩⟩)
theorem cw_endBy_4 {R : Room} {s : State} {args : Array Value} (hts : ∀ w ∈ Gw, w.before args s = true) (hR : 1 + 1 ≤ R.frames ∧ 8 + (4 + 11) + 21 ≤ R.locals) : va_CU R s args RX2 RX1 RX0 50 yX0_endBy yX0_endBy cX0_endBy 4 (some .int) (.code yX0_endBy cX0_endBy 4 (some .int) :: Gw) (rmc 1 0 0 21) 0 0 2 := va_cwU 2 hts (gw_in cw_endBy_4_in) rfl rfl rfl rfl (by decide +kernel) hR
theorem cw_echo_0_in : ∀ w ∈ va_wsU RX2 65 RX0 RX0 yX0_echo yX0_echo (.code yX0_echo cX0_echo 1 (some .int) :: Gw), w ∈ Gw := gw_code (gw_3 (List.mem_of_getElem? (i := 13) rfl) rfl) (List.forall_mem_cons.mpr ⟨ml_X2_65, List.forall_mem_cons.mpr ⟨gw_3 (List.mem_of_getElem? (i := 6) rfl) rfl, List.forall_mem_cons.mpr ⟨gw_3 (List.mem_of_getElem? (i := 5) rfl) rfl, List.forall_mem_cons.mpr ⟨gw_3 (List.mem_of_getElem? (i := 4) rfl) rfl, List.forall_mem_cons.mpr ⟨in_X0, fun _ h => absurd h List.not_mem_nil⟩⟩⟩⟩⟩)
theorem cw_echo_0 {R : Room} {s : State} {args : Array Value} (hts : ∀ w ∈ Gw, w.before args s = true) (hR : 0 + 1 ≤ R.frames ∧ 8 + (1 + 11) + 0 ≤ R.locals) : va_CU R s args RX2 RX0 RX0 65 yX0_echo yX0_echo cX0_echo 1 (some .int) (.code yX0_echo cX0_echo 1 (some .int) :: Gw) (rmc 0 0 0 0) 0 0 0 := va_cwU 0 hts (gw_in cw_echo_0_in) rfl rfl rfl rfl (by decide +kernel) hR
theorem cw_echo_1_in : ∀ w ∈ va_wsU RX2 65 RX10 RX0 yX0_echo yX0_echo (.code yX0_echo cX0_echo 1 (some .int) :: Gw), w ∈ Gw := gw_code (gw_3 (List.mem_of_getElem? (i := 13) rfl) rfl) (List.forall_mem_cons.mpr ⟨ml_X2_65, List.forall_mem_cons.mpr ⟨gw_3 (List.mem_of_getElem? (i := 6) rfl) rfl, List.forall_mem_cons.mpr ⟨gw_3 (List.mem_of_getElem? (i := 12) rfl) rfl, List.forall_mem_cons.mpr ⟨gw_3 (List.mem_of_getElem? (i := 4) rfl) rfl, List.forall_mem_cons.mpr ⟨in_X0, fun _ h => absurd h List.not_mem_nil⟩⟩⟩⟩⟩)
theorem cw_echo_1 {R : Room} {s : State} {args : Array Value} (hts : ∀ w ∈ Gw, w.before args s = true) (hR : 0 + 1 ≤ R.frames ∧ 8 + (1 + 11) + 0 ≤ R.locals) : va_CU R s args RX2 RX10 RX0 65 yX0_echo yX0_echo cX0_echo 1 (some .int) (.code yX0_echo cX0_echo 1 (some .int) :: Gw) (rmc 0 0 0 0) 0 0 0 := va_cwU 0 hts (gw_in cw_echo_1_in) rfl rfl rfl rfl (by decide +kernel) hR
theorem cw_echo_2_in : ∀ w ∈ va_wsU RX2 65 RX9 RX0 yX0_echo yX0_echo (.code yX0_echo cX0_echo 1 (some .int) :: Gw), w ∈ Gw := gw_code (gw_3 (List.mem_of_getElem? (i := 13) rfl) rfl) (List.forall_mem_cons.mpr ⟨ml_X2_65, List.forall_mem_cons.mpr ⟨gw_3 (List.mem_of_getElem? (i := 6) rfl) rfl, List.forall_mem_cons.mpr ⟨gw_3 (List.mem_of_getElem? (i := 11) rfl) rfl, List.forall_mem_cons.mpr ⟨gw_3 (List.mem_of_getElem? (i := 4) rfl) rfl, List.forall_mem_cons.mpr ⟨in_X0, fun _ h => absurd h List.not_mem_nil⟩⟩⟩⟩⟩)
theorem cw_echo_2 {R : Room} {s : State} {args : Array Value} (hts : ∀ w ∈ Gw, w.before args s = true) (hR : 0 + 1 ≤ R.frames ∧ 8 + (1 + 11) + 0 ≤ R.locals) : va_CU R s args RX2 RX9 RX0 65 yX0_echo yX0_echo cX0_echo 1 (some .int) (.code yX0_echo cX0_echo 1 (some .int) :: Gw) (rmc 0 0 0 0) 0 0 0 := va_cwU 0 hts (gw_in cw_echo_2_in) rfl rfl rfl rfl (by decide +kernel) hR
theorem cw_echo_3_in : ∀ w ∈ va_wsO RX2 65 RX3 RX0 yX0_echo yX3_echo (.code yX3_echo cX3_echo 1 (some .int) :: Gw), w ∈ Gw := gw_code (gw_3 (List.mem_of_getElem? (i := 10) rfl) rfl) (List.forall_mem_cons.mpr ⟨ml_X2_65, List.forall_mem_cons.mpr ⟨gw_3 (List.mem_of_getElem? (i := 6) rfl) rfl, List.forall_mem_cons.mpr ⟨im_X0_echo, List.forall_mem_cons.mpr ⟨gw_3 (List.mem_of_getElem? (i := 8) rfl) rfl, List.forall_mem_cons.mpr ⟨gw_3 (List.mem_of_getElem? (i := 9) rfl) rfl, List.forall_mem_cons.mpr ⟨in_X3, fun _ h => absurd h List.not_mem_nil⟩⟩⟩⟩⟩⟩)
theorem cw_echo_3 {R : Room} {s : State} {args : Array Value} (hts : ∀ w ∈ Gw, w.before args s = true) (hR : 0 + 1 ≤ R.frames ∧ 8 + (1 + 11) + 0 ≤ R.locals) : va_CU R s args RX2 RX3 RX0 65 yX0_echo yX3_echo cX3_echo 1 (some .int) (.code yX3_echo cX3_echo 1 (some .int) :: Gw) (rmc 0 0 0 0) 0 0 0 := va_cwO 0 hts (gw_in cw_echo_3_in) rfl rfl rfl co_X0_echo (by decide +kernel) hR
theorem cw_echo_4_in : ∀ w ∈ va_wsU RX2 65 RX1 RX0 yX0_echo yX0_echo (.code yX0_echo cX0_echo 1 (some .int) :: Gw), w ∈ Gw := gw_code (gw_3 (List.mem_of_getElem? (i := 13) rfl) rfl) (List.forall_mem_cons.mpr ⟨ml_X2_65, List.forall_mem_cons.mpr ⟨gw_3 (List.mem_of_getElem? (i := 6) rfl) rfl, List.forall_mem_cons.mpr ⟨gw_3 (List.mem_of_getElem? (i := 7) rfl) rfl, List.forall_mem_cons.mpr ⟨gw_3 (List.mem_of_getElem? (i := 4) rfl) rfl, List.forall_mem_cons.mpr ⟨in_X0, fun _ h => absurd h List.not_mem_nil⟩⟩⟩⟩⟩)
theorem cw_echo_4 {R : Room} {s : State} {args : Array Value} (hts : ∀ w ∈ Gw, w.before args s = true) (hR : 0 + 1 ≤ R.frames ∧ 8 + (1 + 11) + 0 ≤ R.locals) : va_CU R s args RX2 RX1 RX0 65 yX0_echo yX0_echo cX0_echo 1 (some .int) (.code yX0_echo cX0_echo 1 (some .int) :: Gw) (rmc 0 0 0 0) 0 0 0 := va_cwU 0 hts (gw_in cw_echo_4_in) rfl rfl rfl rfl (by decide +kernel) hR
theorem cw_priceAt_0_in : ∀ w ∈ va_wsU RX2 84 RX0 RX0 yX0_priceAt yX0_priceAt (.code yX0_priceAt cX0_priceAt 3 (some .int) :: Gw), w ∈ Gw := gw_code (gw_3 (List.mem_of_getElem? (i := 49) rfl) rfl) (List.forall_mem_cons.mpr ⟨ml_X2_84, List.forall_mem_cons.mpr ⟨gw_3 (List.mem_of_getElem? (i := 42) rfl) rfl, List.forall_mem_cons.mpr ⟨gw_3 (List.mem_of_getElem? (i := 41) rfl) rfl, List.forall_mem_cons.mpr ⟨gw_3 (List.mem_of_getElem? (i := 40) rfl) rfl, List.forall_mem_cons.mpr ⟨in_X0, fun _ h => absurd h List.not_mem_nil⟩⟩⟩⟩⟩)
theorem cw_priceAt_0 {R : Room} {s : State} {args : Array Value} (hts : ∀ w ∈ Gw, w.before args s = true) (hR : 1 + 1 ≤ R.frames ∧ 8 + (3 + 11) + 21 ≤ R.locals) : va_CU R s args RX2 RX0 RX0 84 yX0_priceAt yX0_priceAt cX0_priceAt 3 (some .int) (.code yX0_priceAt cX0_priceAt 3 (some .int) :: Gw) (rmc 1 0 0 21) 0 0 2 := va_cwU 2 hts (gw_in cw_priceAt_0_in) rfl rfl rfl rfl (by decide +kernel) hR
theorem cw_priceAt_1_in : ∀ w ∈ va_wsU RX2 84 RX10 RX0 yX0_priceAt yX0_priceAt (.code yX0_priceAt cX0_priceAt 3 (some .int) :: Gw), w ∈ Gw := gw_code (gw_3 (List.mem_of_getElem? (i := 49) rfl) rfl) (List.forall_mem_cons.mpr ⟨ml_X2_84, List.forall_mem_cons.mpr ⟨gw_3 (List.mem_of_getElem? (i := 42) rfl) rfl, List.forall_mem_cons.mpr ⟨gw_3 (List.mem_of_getElem? (i := 48) rfl) rfl, List.forall_mem_cons.mpr ⟨gw_3 (List.mem_of_getElem? (i := 40) rfl) rfl, List.forall_mem_cons.mpr ⟨in_X0, fun _ h => absurd h List.not_mem_nil⟩⟩⟩⟩⟩)
theorem cw_priceAt_1 {R : Room} {s : State} {args : Array Value} (hts : ∀ w ∈ Gw, w.before args s = true) (hR : 1 + 1 ≤ R.frames ∧ 8 + (3 + 11) + 21 ≤ R.locals) : va_CU R s args RX2 RX10 RX0 84 yX0_priceAt yX0_priceAt cX0_priceAt 3 (some .int) (.code yX0_priceAt cX0_priceAt 3 (some .int) :: Gw) (rmc 1 0 0 21) 0 0 2 := va_cwU 2 hts (gw_in cw_priceAt_1_in) rfl rfl rfl rfl (by decide +kernel) hR
theorem cw_priceAt_2_in : ∀ w ∈ va_wsU RX2 84 RX9 RX0 yX0_priceAt yX0_priceAt (.code yX0_priceAt cX0_priceAt 3 (some .int) :: Gw), w ∈ Gw := gw_code (gw_3 (List.mem_of_getElem? (i := 49) rfl) rfl) (List.forall_mem_cons.mpr ⟨ml_X2_84, List.forall_mem_cons.mpr ⟨gw_3 (List.mem_of_getElem? (i := 42) rfl) rfl, List.forall_mem_cons.mpr ⟨gw_3 (List.mem_of_getElem? (i := 47) rfl) rfl, List.forall_mem_cons.mpr ⟨gw_3 (List.mem_of_getElem? (i := 40) rfl) rfl, List.forall_mem_cons.mpr ⟨in_X0, fun _ h => absurd h List.not_mem_nil⟩⟩⟩⟩⟩)
theorem cw_priceAt_2 {R : Room} {s : State} {args : Array Value} (hts : ∀ w ∈ Gw, w.before args s = true) (hR : 1 + 1 ≤ R.frames ∧ 8 + (3 + 11) + 21 ≤ R.locals) : va_CU R s args RX2 RX9 RX0 84 yX0_priceAt yX0_priceAt cX0_priceAt 3 (some .int) (.code yX0_priceAt cX0_priceAt 3 (some .int) :: Gw) (rmc 1 0 0 21) 0 0 2 := va_cwU 2 hts (gw_in cw_priceAt_2_in) rfl rfl rfl rfl (by decide +kernel) hR
theorem cw_priceAt_3_in : ∀ w ∈ va_wsU RX2 84 RX3 RX0 yX0_priceAt yX0_priceAt (.code yX0_priceAt cX0_priceAt 3 (some .int) :: Gw), w ∈ Gw := gw_code (gw_3 (List.mem_of_getElem? (i := 49) rfl) rfl) (List.forall_mem_cons.mpr ⟨ml_X2_84, List.forall_mem_cons.mpr ⟨gw_3 (List.mem_of_getElem? (i := 42) rfl) rfl, List.forall_mem_cons.mpr ⟨gw_3 (List.mem_of_getElem? (i := 46) rfl) rfl, List.forall_mem_cons.mpr ⟨gw_3 (List.mem_of_getElem? (i := 40) rfl) rfl, List.forall_mem_cons.mpr ⟨in_X0, fun _ h => absurd h List.not_mem_nil⟩⟩⟩⟩⟩)
theorem cw_priceAt_3 {R : Room} {s : State} {args : Array Value} (hts : ∀ w ∈ Gw, w.before args s = true) (hR : 1 + 1 ≤ R.frames ∧ 8 + (3 + 11) + 21 ≤ R.locals) : va_CU R s args RX2 RX3 RX0 84 yX0_priceAt yX0_priceAt cX0_priceAt 3 (some .int) (.code yX0_priceAt cX0_priceAt 3 (some .int) :: Gw) (rmc 1 0 0 21) 0 0 2 := va_cwU 2 hts (gw_in cw_priceAt_3_in) rfl rfl rfl rfl (by decide +kernel) hR
theorem cw_priceAt_4_in : ∀ w ∈ va_wsO RX2 84 RX1 RX0 yX0_priceAt yX1_priceAt (.code yX1_priceAt cX1_priceAt 3 (some .int) :: Gw), w ∈ Gw := gw_code (gw_3 (List.mem_of_getElem? (i := 45) rfl) rfl) (List.forall_mem_cons.mpr ⟨ml_X2_84, List.forall_mem_cons.mpr ⟨gw_3 (List.mem_of_getElem? (i := 42) rfl) rfl, List.forall_mem_cons.mpr ⟨im_X0_priceAt, List.forall_mem_cons.mpr ⟨gw_3 (List.mem_of_getElem? (i := 43) rfl) rfl, List.forall_mem_cons.mpr ⟨gw_3 (List.mem_of_getElem? (i := 44) rfl) rfl, List.forall_mem_cons.mpr ⟨in_X1, fun _ h => absurd h List.not_mem_nil⟩⟩⟩⟩⟩⟩)
theorem cw_priceAt_4 {R : Room} {s : State} {args : Array Value} (hts : ∀ w ∈ Gw, w.before args s = true) (hR : 0 + 1 ≤ R.frames ∧ 8 + (3 + 11) + 0 ≤ R.locals) : va_CU R s args RX2 RX1 RX0 84 yX0_priceAt yX1_priceAt cX1_priceAt 3 (some .int) (.code yX1_priceAt cX1_priceAt 3 (some .int) :: Gw) (rmc 0 0 0 0) 0 0 2 := va_cwO 2 hts (gw_in cw_priceAt_4_in) rfl rfl rfl co_X0_priceAt (by decide +kernel) hR
theorem cw_kind_0_in : ∀ w ∈ va_wsU RX11 92 RX0 RX0 yX0_kind yX0_kind (.code yX0_kind cX0_kind 1 (some .int) :: Gw), w ∈ Gw := gw_code (gw_3 (List.mem_of_getElem? (i := 34) rfl) rfl) (List.forall_mem_cons.mpr ⟨ml_X11_92, List.forall_mem_cons.mpr ⟨gw_3 (List.mem_of_getElem? (i := 21) rfl) rfl, List.forall_mem_cons.mpr ⟨gw_3 (List.mem_of_getElem? (i := 20) rfl) rfl, List.forall_mem_cons.mpr ⟨gw_3 (List.mem_of_getElem? (i := 19) rfl) rfl, List.forall_mem_cons.mpr ⟨in_X0, fun _ h => absurd h List.not_mem_nil⟩⟩⟩⟩⟩)
theorem cw_kind_0 {R : Room} {s : State} {args : Array Value} (hts : ∀ w ∈ Gw, w.before args s = true) (hR : 0 + 1 ≤ R.frames ∧ 8 + (1 + 11) + 0 ≤ R.locals) : va_CU R s args RX11 RX0 RX0 92 yX0_kind yX0_kind cX0_kind 1 (some .int) (.code yX0_kind cX0_kind 1 (some .int) :: Gw) (rmc 0 0 0 0) 0 0 0 := va_cwU 0 hts (gw_in cw_kind_0_in) rfl rfl rfl rfl (by decide +kernel) hR
theorem cw_kind_1_in : ∀ w ∈ va_wsO RX11 92 RX10 RX0 yX0_kind yX10_kind (.code yX10_kind cX10_kind 1 (some .int) :: Gw), w ∈ Gw := gw_code (gw_3 (List.mem_of_getElem? (i := 33) rfl) rfl) (List.forall_mem_cons.mpr ⟨ml_X11_92, List.forall_mem_cons.mpr ⟨gw_3 (List.mem_of_getElem? (i := 21) rfl) rfl, List.forall_mem_cons.mpr ⟨im_X0_kind, List.forall_mem_cons.mpr ⟨gw_3 (List.mem_of_getElem? (i := 31) rfl) rfl, List.forall_mem_cons.mpr ⟨gw_3 (List.mem_of_getElem? (i := 32) rfl) rfl, List.forall_mem_cons.mpr ⟨in_X10, fun _ h => absurd h List.not_mem_nil⟩⟩⟩⟩⟩⟩)
theorem cw_kind_1 {R : Room} {s : State} {args : Array Value} (hts : ∀ w ∈ Gw, w.before args s = true) (hR : 0 + 1 ≤ R.frames ∧ 8 + (1 + 11) + 0 ≤ R.locals) : va_CU R s args RX11 RX10 RX0 92 yX0_kind yX10_kind cX10_kind 1 (some .int) (.code yX10_kind cX10_kind 1 (some .int) :: Gw) (rmc 0 0 0 0) 0 0 0 := va_cwO 0 hts (gw_in cw_kind_1_in) rfl rfl rfl co_X0_kind (by decide +kernel) hR
theorem cw_kind_2_in : ∀ w ∈ va_wsO RX11 92 RX9 RX0 yX0_kind yX9_kind (.code yX9_kind cX9_kind 1 (some .int) :: Gw), w ∈ Gw := gw_code (gw_3 (List.mem_of_getElem? (i := 30) rfl) rfl) (List.forall_mem_cons.mpr ⟨ml_X11_92, List.forall_mem_cons.mpr ⟨gw_3 (List.mem_of_getElem? (i := 21) rfl) rfl, List.forall_mem_cons.mpr ⟨im_X0_kind, List.forall_mem_cons.mpr ⟨gw_3 (List.mem_of_getElem? (i := 28) rfl) rfl, List.forall_mem_cons.mpr ⟨gw_3 (List.mem_of_getElem? (i := 29) rfl) rfl, List.forall_mem_cons.mpr ⟨in_X9, fun _ h => absurd h List.not_mem_nil⟩⟩⟩⟩⟩⟩)
theorem cw_kind_2 {R : Room} {s : State} {args : Array Value} (hts : ∀ w ∈ Gw, w.before args s = true) (hR : 0 + 1 ≤ R.frames ∧ 8 + (1 + 11) + 0 ≤ R.locals) : va_CU R s args RX11 RX9 RX0 92 yX0_kind yX9_kind cX9_kind 1 (some .int) (.code yX9_kind cX9_kind 1 (some .int) :: Gw) (rmc 0 0 0 0) 0 0 0 := va_cwO 0 hts (gw_in cw_kind_2_in) rfl rfl rfl co_X0_kind (by decide +kernel) hR
theorem cw_kind_3_in : ∀ w ∈ va_wsO RX11 92 RX3 RX0 yX0_kind yX3_kind (.code yX3_kind cX3_kind 1 (some .int) :: Gw), w ∈ Gw := gw_code (gw_3 (List.mem_of_getElem? (i := 27) rfl) rfl) (List.forall_mem_cons.mpr ⟨ml_X11_92, List.forall_mem_cons.mpr ⟨gw_3 (List.mem_of_getElem? (i := 21) rfl) rfl, List.forall_mem_cons.mpr ⟨im_X0_kind, List.forall_mem_cons.mpr ⟨gw_3 (List.mem_of_getElem? (i := 25) rfl) rfl, List.forall_mem_cons.mpr ⟨gw_3 (List.mem_of_getElem? (i := 26) rfl) rfl, List.forall_mem_cons.mpr ⟨in_X3, fun _ h => absurd h List.not_mem_nil⟩⟩⟩⟩⟩⟩)
theorem cw_kind_3 {R : Room} {s : State} {args : Array Value} (hts : ∀ w ∈ Gw, w.before args s = true) (hR : 0 + 1 ≤ R.frames ∧ 8 + (1 + 11) + 0 ≤ R.locals) : va_CU R s args RX11 RX3 RX0 92 yX0_kind yX3_kind cX3_kind 1 (some .int) (.code yX3_kind cX3_kind 1 (some .int) :: Gw) (rmc 0 0 0 0) 0 0 0 := va_cwO 0 hts (gw_in cw_kind_3_in) rfl rfl rfl co_X0_kind (by decide +kernel) hR
theorem cw_kind_4_in : ∀ w ∈ va_wsO RX11 92 RX1 RX0 yX0_kind yX1_kind (.code yX1_kind cX1_kind 1 (some .int) :: Gw), w ∈ Gw := gw_code (gw_3 (List.mem_of_getElem? (i := 24) rfl) rfl) (List.forall_mem_cons.mpr ⟨ml_X11_92, List.forall_mem_cons.mpr ⟨gw_3 (List.mem_of_getElem? (i := 21) rfl) rfl, List.forall_mem_cons.mpr ⟨im_X0_kind, List.forall_mem_cons.mpr ⟨gw_3 (List.mem_of_getElem? (i := 22) rfl) rfl, List.forall_mem_cons.mpr ⟨gw_3 (List.mem_of_getElem? (i := 23) rfl) rfl, List.forall_mem_cons.mpr ⟨in_X1, fun _ h => absurd h List.not_mem_nil⟩⟩⟩⟩⟩⟩)
theorem cw_kind_4 {R : Room} {s : State} {args : Array Value} (hts : ∀ w ∈ Gw, w.before args s = true) (hR : 0 + 1 ≤ R.frames ∧ 8 + (1 + 11) + 0 ≤ R.locals) : va_CU R s args RX11 RX1 RX0 92 yX0_kind yX1_kind cX1_kind 1 (some .int) (.code yX1_kind cX1_kind 1 (some .int) :: Gw) (rmc 0 0 0 0) 0 0 0 := va_cwO 0 hts (gw_in cw_kind_4_in) rfl rfl rfl co_X0_kind (by decide +kernel) hR
theorem cw_breathsOf_0_in : ∀ w ∈ va_wsU RX0 24 RX0 RX0 yX0_breathsOf yX0_breathsOf (.code yX0_breathsOf cX0_breathsOf 2 (some .int) :: Gw), w ∈ Gw := gw_code (gw_2 (List.mem_of_getElem? (i := 228) rfl) rfl) (List.forall_mem_cons.mpr ⟨ml_X0_24, List.forall_mem_cons.mpr ⟨gw_2 (List.mem_of_getElem? (i := 219) rfl) rfl, List.forall_mem_cons.mpr ⟨gw_2 (List.mem_of_getElem? (i := 218) rfl) rfl, List.forall_mem_cons.mpr ⟨gw_2 (List.mem_of_getElem? (i := 217) rfl) rfl, List.forall_mem_cons.mpr ⟨in_X0, fun _ h => absurd h List.not_mem_nil⟩⟩⟩⟩⟩)
theorem cw_breathsOf_0 {R : Room} {s : State} {args : Array Value} (hts : ∀ w ∈ Gw, w.before args s = true) (hR : 0 + 1 ≤ R.frames ∧ 8 + (2 + 11) + 0 ≤ R.locals) : va_CU R s args RX0 RX0 RX0 24 yX0_breathsOf yX0_breathsOf cX0_breathsOf 2 (some .int) (.code yX0_breathsOf cX0_breathsOf 2 (some .int) :: Gw) (rmc 0 0 0 0) 0 0 1 := va_cwU 1 hts (gw_in cw_breathsOf_0_in) rfl rfl rfl rfl (by decide +kernel) hR
theorem cw_breathsOf_1_in : ∀ w ∈ va_wsO RX0 24 RX10 RX0 yX0_breathsOf yX10_breathsOf (.code yX10_breathsOf cX10_breathsOf 2 (some .int) :: Gw), w ∈ Gw := gw_code (gw_2 (List.mem_of_getElem? (i := 222) rfl) rfl) (List.forall_mem_cons.mpr ⟨ml_X0_24, List.forall_mem_cons.mpr ⟨gw_2 (List.mem_of_getElem? (i := 219) rfl) rfl, List.forall_mem_cons.mpr ⟨im_X0_breathsOf, List.forall_mem_cons.mpr ⟨gw_2 (List.mem_of_getElem? (i := 227) rfl) rfl, List.forall_mem_cons.mpr ⟨gw_2 (List.mem_of_getElem? (i := 221) rfl) rfl, List.forall_mem_cons.mpr ⟨in_X10, fun _ h => absurd h List.not_mem_nil⟩⟩⟩⟩⟩⟩)
theorem cw_breathsOf_1 {R : Room} {s : State} {args : Array Value} (hts : ∀ w ∈ Gw, w.before args s = true) (hR : 0 + 1 ≤ R.frames ∧ 8 + (2 + 11) + 0 ≤ R.locals) : va_CU R s args RX0 RX10 RX0 24 yX0_breathsOf yX10_breathsOf cX10_breathsOf 2 (some .int) (.code yX10_breathsOf cX10_breathsOf 2 (some .int) :: Gw) (rmc 0 0 0 0) 0 0 1 := va_cwO 1 hts (gw_in cw_breathsOf_1_in) rfl rfl rfl co_X0_breathsOf (by decide +kernel) hR
theorem cw_breathsOf_2_in : ∀ w ∈ va_wsO RX0 24 RX9 RX0 yX0_breathsOf yX9_breathsOf (.code yX9_breathsOf cX9_breathsOf 2 (some .int) :: Gw), w ∈ Gw := gw_code (gw_2 (List.mem_of_getElem? (i := 226) rfl) rfl) (List.forall_mem_cons.mpr ⟨ml_X0_24, List.forall_mem_cons.mpr ⟨gw_2 (List.mem_of_getElem? (i := 219) rfl) rfl, List.forall_mem_cons.mpr ⟨im_X0_breathsOf, List.forall_mem_cons.mpr ⟨gw_2 (List.mem_of_getElem? (i := 224) rfl) rfl, List.forall_mem_cons.mpr ⟨gw_2 (List.mem_of_getElem? (i := 225) rfl) rfl, List.forall_mem_cons.mpr ⟨in_X9, fun _ h => absurd h List.not_mem_nil⟩⟩⟩⟩⟩⟩)
theorem cw_breathsOf_2 {R : Room} {s : State} {args : Array Value} (hts : ∀ w ∈ Gw, w.before args s = true) (hR : 0 + 1 ≤ R.frames ∧ 8 + (2 + 11) + 0 ≤ R.locals) : va_CU R s args RX0 RX9 RX0 24 yX0_breathsOf yX9_breathsOf cX9_breathsOf 2 (some .int) (.code yX9_breathsOf cX9_breathsOf 2 (some .int) :: Gw) (rmc 0 0 0 0) 0 0 1 := va_cwO 1 hts (gw_in cw_breathsOf_2_in) rfl rfl rfl co_X0_breathsOf (by decide +kernel) hR
theorem cw_breathsOf_3_in : ∀ w ∈ va_wsU RX0 24 RX3 RX0 yX0_breathsOf yX0_breathsOf (.code yX0_breathsOf cX0_breathsOf 2 (some .int) :: Gw), w ∈ Gw := gw_code (gw_2 (List.mem_of_getElem? (i := 228) rfl) rfl) (List.forall_mem_cons.mpr ⟨ml_X0_24, List.forall_mem_cons.mpr ⟨gw_2 (List.mem_of_getElem? (i := 219) rfl) rfl, List.forall_mem_cons.mpr ⟨gw_2 (List.mem_of_getElem? (i := 223) rfl) rfl, List.forall_mem_cons.mpr ⟨gw_2 (List.mem_of_getElem? (i := 217) rfl) rfl, List.forall_mem_cons.mpr ⟨in_X0, fun _ h => absurd h List.not_mem_nil⟩⟩⟩⟩⟩)
theorem cw_breathsOf_3 {R : Room} {s : State} {args : Array Value} (hts : ∀ w ∈ Gw, w.before args s = true) (hR : 0 + 1 ≤ R.frames ∧ 8 + (2 + 11) + 0 ≤ R.locals) : va_CU R s args RX0 RX3 RX0 24 yX0_breathsOf yX0_breathsOf cX0_breathsOf 2 (some .int) (.code yX0_breathsOf cX0_breathsOf 2 (some .int) :: Gw) (rmc 0 0 0 0) 0 0 1 := va_cwU 1 hts (gw_in cw_breathsOf_3_in) rfl rfl rfl rfl (by decide +kernel) hR
theorem cw_breathsOf_4_in : ∀ w ∈ va_wsO RX0 24 RX1 RX0 yX0_breathsOf yX10_breathsOf (.code yX10_breathsOf cX10_breathsOf 2 (some .int) :: Gw), w ∈ Gw := gw_code (gw_2 (List.mem_of_getElem? (i := 222) rfl) rfl) (List.forall_mem_cons.mpr ⟨ml_X0_24, List.forall_mem_cons.mpr ⟨gw_2 (List.mem_of_getElem? (i := 219) rfl) rfl, List.forall_mem_cons.mpr ⟨im_X0_breathsOf, List.forall_mem_cons.mpr ⟨gw_2 (List.mem_of_getElem? (i := 220) rfl) rfl, List.forall_mem_cons.mpr ⟨gw_2 (List.mem_of_getElem? (i := 221) rfl) rfl, List.forall_mem_cons.mpr ⟨in_X10, fun _ h => absurd h List.not_mem_nil⟩⟩⟩⟩⟩⟩)
theorem cw_breathsOf_4 {R : Room} {s : State} {args : Array Value} (hts : ∀ w ∈ Gw, w.before args s = true) (hR : 0 + 1 ≤ R.frames ∧ 8 + (2 + 11) + 0 ≤ R.locals) : va_CU R s args RX0 RX1 RX0 24 yX0_breathsOf yX10_breathsOf cX10_breathsOf 2 (some .int) (.code yX10_breathsOf cX10_breathsOf 2 (some .int) :: Gw) (rmc 0 0 0 0) 0 0 1 := va_cwO 1 hts (gw_in cw_breathsOf_4_in) rfl rfl rfl co_X0_breathsOf (by decide +kernel) hR
theorem v_kind {p : Program} {l : Launch} {e : Env} {R : Room} {s : State} {m : MethodId} {args : Array Value} {below : List Frame} {meth : Method} {c : Code} {H : Heap} {locs : List Loc} {cells slots pc nL : Nat} {Q : State → Prop} {ls : Array Slot} {rest : List Value} {cc : ByteArray} {a kd : Nat} {g : GG} {rt : Option FieldType} {su wi wd ch tc : Int32}  (F : CX p s m args meth c cc rt nL RX11) (hK : KK g s) (hP : PP g [(a, .inr (kd, bfs su wi wd ch tc))] H) (h5 : kd < 5) (hsz : ls.size = nL) (hR1 : 1 ≤ R.frames) (hR2 : 20 ≤ R.locals) (hc1 : cells ≤ R.cells) (hc2 : slots ≤ R.slots) (hW : (rest.map fun v => v.category).sum ≤ 8) (hd : decode cc pc = .ok (.invokevirtual 92, 3))
    (kk : W p l e R s m args below meth c H locs cells slots Q (F0 m (pc + 3) ls (.int (kinF kd) :: rest))) : W p l e R s m args below meth c H locs cells slots Q (F0 m pc ls (.ref a :: rest)) := by
  have hts := F.2.2.2.2.2.1
  match kd, h5 with
  | 0, _ => exact k_rX F (c_X0_kind l g a (r0 := kinF 0) rfl) (cw_kind_0 hts ⟨by omega, by omega⟩) (hP.sub [] rfl) hK (va_recv hK.1 hP (ci := 0) (q0 := 0) rfl rfl) rfl hsz rfl hW hd ⟨hc1, hc2⟩ kk
  | 1, _ => exact k_rX F (c_X10_kind l g a (r0 := kinF 1) rfl) (cw_kind_1 hts ⟨by omega, by omega⟩) (hP.sub [] rfl) hK (va_recv hK.1 hP (ci := 1) (q0 := 0) rfl rfl) rfl hsz rfl hW hd ⟨hc1, hc2⟩ kk
  | 2, _ => exact k_rX F (c_X9_kind l g a (r0 := kinF 2) rfl) (cw_kind_2 hts ⟨by omega, by omega⟩) (hP.sub [] rfl) hK (va_recv hK.1 hP (ci := 2) (q0 := 0) rfl rfl) rfl hsz rfl hW hd ⟨hc1, hc2⟩ kk
  | 3, _ => exact k_rX F (c_X3_kind l g a (r0 := kinF 3) rfl) (cw_kind_3 hts ⟨by omega, by omega⟩) (hP.sub [] rfl) hK (va_recv hK.1 hP (ci := 3) (q0 := 0) rfl rfl) rfl hsz rfl hW hd ⟨hc1, hc2⟩ kk
  | 4, _ => exact k_rX F (c_X1_kind l g a (r0 := kinF 4) rfl) (cw_kind_4 hts ⟨by omega, by omega⟩) (hP.sub [] rfl) hK (va_recv hK.1 hP (ci := 4) (q0 := 0) rfl rfl) rfl hsz rfl hW hd ⟨hc1, hc2⟩ kk
theorem v_echo {p : Program} {l : Launch} {e : Env} {R : Room} {s : State} {m : MethodId} {args : Array Value} {below : List Frame} {meth : Method} {c : Code} {H : Heap} {locs : List Loc} {cells slots pc nL : Nat} {Q : State → Prop} {ls : Array Slot} {rest : List Value} {cc : ByteArray} {a kd : Nat} {g : GG} {rt : Option FieldType} {su wi wd ch tc : Int32}  (F : CX p s m args meth c cc rt nL RX2) (hK : KK g s) (hP : PP g [(a, .inr (kd, bfs su wi wd ch tc))] H) (h5 : kd < 5) (hsz : ls.size = nL) (hR1 : 1 ≤ R.frames) (hR2 : 20 ≤ R.locals) (hc1 : cells ≤ R.cells) (hc2 : slots ≤ R.slots) (hW : (rest.map fun v => v.category).sum ≤ 8) (hd : decode cc pc = .ok (.invokevirtual 65, 3))
    (kk : W p l e R s m args below meth c H locs cells slots Q (F0 m (pc + 3) ls (.int (echF kd) :: rest))) : W p l e R s m args below meth c H locs cells slots Q (F0 m pc ls (.ref a :: rest)) := by
  have hts := F.2.2.2.2.2.1
  match kd, h5 with
  | 0, _ => exact k_rX F (c_X0_echo l g a (r0 := echF 0) rfl) (cw_echo_0 hts ⟨by omega, by omega⟩) (hP.sub [] rfl) hK (va_recv hK.1 hP (ci := 0) (q0 := 0) rfl rfl) rfl hsz rfl hW hd ⟨hc1, hc2⟩ kk
  | 1, _ => exact k_rX F (c_X0_echo l g a (r0 := echF 1) rfl) (cw_echo_1 hts ⟨by omega, by omega⟩) (hP.sub [] rfl) hK (va_recv hK.1 hP (ci := 1) (q0 := 0) rfl rfl) rfl hsz rfl hW hd ⟨hc1, hc2⟩ kk
  | 2, _ => exact k_rX F (c_X0_echo l g a (r0 := echF 2) rfl) (cw_echo_2 hts ⟨by omega, by omega⟩) (hP.sub [] rfl) hK (va_recv hK.1 hP (ci := 2) (q0 := 0) rfl rfl) rfl hsz rfl hW hd ⟨hc1, hc2⟩ kk
  | 3, _ => exact k_rX F (c_X3_echo l g a (r0 := echF 3) rfl) (cw_echo_3 hts ⟨by omega, by omega⟩) (hP.sub [] rfl) hK (va_recv hK.1 hP (ci := 3) (q0 := 0) rfl rfl) rfl hsz rfl hW hd ⟨hc1, hc2⟩ kk
  | 4, _ => exact k_rX F (c_X0_echo l g a (r0 := echF 4) rfl) (cw_echo_4 hts ⟨by omega, by omega⟩) (hP.sub [] rfl) hK (va_recv hK.1 hP (ci := 4) (q0 := 0) rfl rfl) rfl hsz rfl hW hd ⟨hc1, hc2⟩ kk
theorem v_breathsOf {p : Program} {l : Launch} {e : Env} {R : Room} {s : State} {m : MethodId} {args : Array Value} {below : List Frame} {meth : Method} {c : Code} {H : Heap} {locs : List Loc} {cells slots pc nL : Nat} {Q : State → Prop} {ls : Array Slot} {rest : List Value} {cc : ByteArray} {a kd : Nat} {g : GG} {rt : Option FieldType} {su wi wd ch tc : Int32} {x : Int32} (F : CX p s m args meth c cc rt nL RX0) (hK : KK g s) (hP : PP g [(a, .inr (kd, bfs su wi wd ch tc))] H) (h5 : kd < 5) (hsz : ls.size = nL) (hR1 : 1 ≤ R.frames) (hR2 : 21 ≤ R.locals) (hc1 : cells ≤ R.cells) (hc2 : slots ≤ R.slots) (hW : (rest.map fun v => v.category).sum ≤ 8) (hd : decode cc pc = .ok (.invokevirtual 24, 3))
    (kk : W p l e R s m args below meth c H locs cells slots Q (F0 m (pc + 3) ls (.int (brF kd x) :: rest))) : W p l e R s m args below meth c H locs cells slots Q (F0 m pc ls (.int x :: .ref a :: rest)) := by
  have hts := F.2.2.2.2.2.1
  match kd, h5 with
  | 0, _ => exact k_rX F (c_X0_breathsOf l g a x (r0 := brF 0 x) rfl) (cw_breathsOf_0 hts ⟨by omega, by omega⟩) (hP.sub [] rfl) hK (va_recv hK.1 hP (ci := 0) (q0 := 0) rfl rfl) rfl hsz rfl hW hd ⟨hc1, hc2⟩ kk
  | 1, _ => exact k_rX F (c_X10_breathsOf l g a x (r0 := brF 1 x) rfl) (cw_breathsOf_1 hts ⟨by omega, by omega⟩) (hP.sub [] rfl) hK (va_recv hK.1 hP (ci := 1) (q0 := 0) rfl rfl) rfl hsz rfl hW hd ⟨hc1, hc2⟩ kk
  | 2, _ => exact k_rX F (c_X9_breathsOf l g a x (r0 := brF 2 x) rfl) (cw_breathsOf_2 hts ⟨by omega, by omega⟩) (hP.sub [] rfl) hK (va_recv hK.1 hP (ci := 2) (q0 := 0) rfl rfl) rfl hsz rfl hW hd ⟨hc1, hc2⟩ kk
  | 3, _ => exact k_rX F (c_X0_breathsOf l g a x (r0 := brF 3 x) rfl) (cw_breathsOf_3 hts ⟨by omega, by omega⟩) (hP.sub [] rfl) hK (va_recv hK.1 hP (ci := 3) (q0 := 0) rfl rfl) rfl hsz rfl hW hd ⟨hc1, hc2⟩ kk
  | 4, _ => exact k_rX F (c_X10_breathsOf l g a x (r0 := brF 4 x) rfl) (cw_breathsOf_4 hts ⟨by omega, by omega⟩) (hP.sub [] rfl) hK (va_recv hK.1 hP (ci := 4) (q0 := 0) rfl rfl) rfl hsz rfl hW hd ⟨hc1, hc2⟩ kk
set_option maxRecDepth 100000 in
set_option maxHeartbeats 4000000 in
theorem c_X0_endBy (l : Launch) (g : GG) (a kd : Nat) (x1 x2 su wi wd ch tc : Int32) (h5 : kd < 5) : MR l g yX0_endBy cX0_endBy 4 (some .int) 1 21 [.ref a, .int x1, .int x2] [(a, .inr (kd, bfs su wi wd ch tc))] (some (.int (endF kd x1 x2))) := by
  refine MR.mk (by decide) (Nat.le_of_ble_eq_true rfl) ?_
  intro p e s m args below meth c ls Q F hK hP hl hQ
  have hx := F.1
  have hb := F.2.1
  have hml := F.2.2.2.1
  have hown := F.2.2.2.2.1
  have hts := F.2.2.2.2.2.1
  have hl : lv_has ls 4 [(0, .ref a), (1, .int x1), (2, .int x2)] := hl
  refine lv_aload_n hx hb dX0_endBy_0 rfl (lv_at hl 0 rfl) ?_
  refine lv_iload_n hx hb dX0_endBy_1 rfl (lv_at hl 2 rfl) ?_
  refine v_breathsOf F hK hP h5 hl.1 (Nat.le_of_ble_eq_true rfl) (Nat.le_of_ble_eq_true rfl) (Nat.le_of_ble_eq_true rfl) (Nat.le_of_ble_eq_true rfl) (Nat.le_of_ble_eq_true rfl) dX0_endBy_2 ?_
  refine lv_iconst (v := 1) hx hb dX0_endBy_5 (by decide) ?_
  refine lv_iadd hx hb dX0_endBy_6 ?_
  refine lv_istore_n (lv' := [(3, .int (brF kd x2 + 1)), (0, .ref a), (1, .int x1), (2, .int x2)]) hx hb dX0_endBy_7 rfl hl (by decide) rfl (fun ls hl => ?_)
  refine lv_iload_n hx hb dX0_endBy_8 rfl (lv_at hl 2 rfl) ?_
  refine lv_iconst (v := (-1)) hx hb dX0_endBy_9 (by decide) ?_
  refine lv_icmp_ne (tgt := 17) hx hb dX0_endBy_10 (by decide) (fun h1 => ?_) (fun h1 => ?_)
  · refine lv_iload_n hx hb dX0_endBy_17 rfl (lv_at hl 2 rfl) ?_
    refine lv_iload_n hx hb dX0_endBy_18 rfl (lv_at hl 0 rfl) ?_
    refine va_mmin hx hb (hml.trans hl.1.symm) hown (hts _ ml_X0_28) (hts _ mm_st_min) (hts _ mm_in) (hts _ mm_co_min) (Nat.le_of_ble_eq_true rfl) (Nat.le_of_ble_eq_true rfl) (Nat.le_of_ble_eq_true rfl) (Nat.le_of_ble_eq_true rfl) dX0_endBy_19 ?_
    exact r_ri F hQ (by rw [endF, if_neg h1]) dX0_endBy_22
  · refine lv_iload_n hx hb dX0_endBy_13 rfl (lv_at hl 0 rfl) ?_
    refine lv_goto (tgt := 22) hx hb dX0_endBy_14 (by decide) ?_
    exact r_ri F hQ (by rw [endF, if_pos h1]) dX0_endBy_22
set_option maxRecDepth 100000 in
set_option maxHeartbeats 4000000 in
theorem c_X0_priceAt (l : Launch) (g : GG) (a kd : Nat) (x1 x2 su wi wd ch tc : Int32) (h5 : kd < 5) (h4 : ¬ kd = 4) : MR l g yX0_priceAt cX0_priceAt 3 (some .int) 1 21 [.ref a, .int x1, .int x2] [(a, .inr (kd, bfs su wi wd ch tc))] (some (.int (priF kd su x1 x2))) := by
  refine MR.mk (by decide) (Nat.le_of_ble_eq_true rfl) ?_
  intro p e s m args below meth c ls Q F hK hP hl hQ
  have hx := F.1
  have hb := F.2.1
  have hml := F.2.2.2.1
  have hown := F.2.2.2.2.1
  have hts := F.2.2.2.2.2.1
  have hl : lv_has ls 3 [(0, .ref a), (1, .int x1), (2, .int x2)] := hl
  refine lv_iconst (v := 0) hx hb dX0_priceAt_0 (by decide) ?_
  refine lv_bipush (v := 10) hx hb dX0_priceAt_1 (by decide) ?_
  refine lv_aload_n hx hb dX0_priceAt_3 rfl (lv_at hl 0 rfl) ?_
  refine b_get F hK hP 0 rfl h5 0 (by decide) fl_X0_18 rfl dX0_priceAt_4 ?_
  refine lv_imul hx hb dX0_priceAt_7 ?_
  refine lv_iload_n hx hb dX0_priceAt_8 rfl (lv_at hl 2 rfl) ?_
  refine lv_iload_n hx hb dX0_priceAt_9 rfl (lv_at hl 1 rfl) ?_
  refine lv_iconst (v := 1) hx hb dX0_priceAt_10 (by decide) ?_
  refine lv_isub hx hb dX0_priceAt_11 ?_
  refine lv_imul hx hb dX0_priceAt_12 ?_
  refine lv_isub hx hb dX0_priceAt_13 ?_
  refine va_mmax hx hb (hml.trans hl.1.symm) hown (hts _ ml_X0_34) (hts _ mm_st_max) (hts _ mm_in) (hts _ mm_co_max) (Nat.le_of_ble_eq_true rfl) (Nat.le_of_ble_eq_true rfl) (Nat.le_of_ble_eq_true rfl) (Nat.le_of_ble_eq_true rfl) dX0_priceAt_14 ?_
  exact r_ri F hQ (by rw [priF, if_neg h4]) dX0_priceAt_17
theorem sf_X1 : Cond.sameField "SecondSilence$ChoirMan" "SecondSilence$Bidder" "sum" "I" ∈ Gw := gw_1 (List.mem_of_getElem? (i := 66) rfl) rfl
set_option maxRecDepth 100000 in
set_option maxHeartbeats 4000000 in
theorem c_X1_priceAt (l : Launch) (g : GG) (a : Nat) (x1 x2 su wi wd ch tc : Int32) : MR l g yX1_priceAt cX1_priceAt 3 (some .int) 0 0 [.ref a, .int x1, .int x2] [(a, .inr (4, bfs su wi wd ch tc))] (some (.int (priF 4 su x1 x2))) := by
  refine MR.mk (by decide) (Nat.le_of_ble_eq_true rfl) ?_
  intro p e s m args below meth c ls Q F hK hP hl hQ
  have hx := F.1
  have hb := F.2.1
  have hts := F.2.2.2.2.2.1
  have hl : lv_has ls 3 [(0, .ref a), (1, .int x1), (2, .int x2)] := hl
  refine lv_bipush (v := 10) hx hb dX1_priceAt_0 (by decide) ?_
  refine lv_aload_n hx hb dX1_priceAt_2 rfl (lv_at hl 0 rfl) ?_
  refine w_get (ci := 4) F hK hP fb_X1 0 rfl rfl 0 (by decide) fl_X1_9 (fun x h => u_same (hts _ sf_X1) x h) rfl dX1_priceAt_3 ?_
  refine lv_imul hx hb dX1_priceAt_6 ?_
  exact r_ri F hQ (by rw [priF, if_pos rfl]) dX1_priceAt_7
theorem v_endBy {p : Program} {l : Launch} {e : Env} {R : Room} {s : State} {m : MethodId} {args : Array Value} {below : List Frame} {meth : Method} {c : Code} {H : Heap} {locs : List Loc} {cells slots pc nL : Nat} {Q : State → Prop} {ls : Array Slot} {rest : List Value} {cc : ByteArray} {a kd : Nat} {g : GG} {rt : Option FieldType} {su wi wd ch tc : Int32} {x : Int32} {y : Int32} (F : CX p s m args meth c cc rt nL RX2) (hK : KK g s) (hP : PP g [(a, .inr (kd, bfs su wi wd ch tc))] H) (h5 : kd < 5) (hsz : ls.size = nL) (hR1 : 2 ≤ R.frames) (hR2 : 44 ≤ R.locals) (hc1 : cells ≤ R.cells) (hc2 : slots ≤ R.slots) (hW : (rest.map fun v => v.category).sum ≤ 8) (hd : decode cc pc = .ok (.invokevirtual 50, 3))
    (kk : W p l e R s m args below meth c H locs cells slots Q (F0 m (pc + 3) ls (.int (endF kd x y) :: rest))) : W p l e R s m args below meth c H locs cells slots Q (F0 m pc ls (.int y :: .int x :: .ref a :: rest)) := by
  have hts := F.2.2.2.2.2.1
  match kd, h5 with
  | 0, _ => exact k_rX F (c_X0_endBy l g a 0 x y su wi wd ch tc (by decide)) (cw_endBy_0 hts ⟨by omega, by omega⟩) (hP.sub [0] rfl) hK (va_recv hK.1 hP (ci := 0) (q0 := 0) rfl rfl) rfl hsz rfl hW hd ⟨hc1, hc2⟩ kk
  | 1, _ => exact k_rX F (c_X0_endBy l g a 1 x y su wi wd ch tc (by decide)) (cw_endBy_1 hts ⟨by omega, by omega⟩) (hP.sub [0] rfl) hK (va_recv hK.1 hP (ci := 1) (q0 := 0) rfl rfl) rfl hsz rfl hW hd ⟨hc1, hc2⟩ kk
  | 2, _ => exact k_rX F (c_X0_endBy l g a 2 x y su wi wd ch tc (by decide)) (cw_endBy_2 hts ⟨by omega, by omega⟩) (hP.sub [0] rfl) hK (va_recv hK.1 hP (ci := 2) (q0 := 0) rfl rfl) rfl hsz rfl hW hd ⟨hc1, hc2⟩ kk
  | 3, _ => exact k_rX F (c_X0_endBy l g a 3 x y su wi wd ch tc (by decide)) (cw_endBy_3 hts ⟨by omega, by omega⟩) (hP.sub [0] rfl) hK (va_recv hK.1 hP (ci := 3) (q0 := 0) rfl rfl) rfl hsz rfl hW hd ⟨hc1, hc2⟩ kk
  | 4, _ => exact k_rX F (c_X0_endBy l g a 4 x y su wi wd ch tc (by decide)) (cw_endBy_4 hts ⟨by omega, by omega⟩) (hP.sub [0] rfl) hK (va_recv hK.1 hP (ci := 4) (q0 := 0) rfl rfl) rfl hsz rfl hW hd ⟨hc1, hc2⟩ kk
theorem v_priceAt {p : Program} {l : Launch} {e : Env} {R : Room} {s : State} {m : MethodId} {args : Array Value} {below : List Frame} {meth : Method} {c : Code} {H : Heap} {locs : List Loc} {cells slots pc nL : Nat} {Q : State → Prop} {ls : Array Slot} {rest : List Value} {cc : ByteArray} {a kd : Nat} {g : GG} {rt : Option FieldType} {su wi wd ch tc : Int32} {x : Int32} {y : Int32} (F : CX p s m args meth c cc rt nL RX2) (hK : KK g s) (hP : PP g [(a, .inr (kd, bfs su wi wd ch tc))] H) (h5 : kd < 5) (hsz : ls.size = nL) (hR1 : 2 ≤ R.frames) (hR2 : 43 ≤ R.locals) (hc1 : cells ≤ R.cells) (hc2 : slots ≤ R.slots) (hW : (rest.map fun v => v.category).sum ≤ 8) (hd : decode cc pc = .ok (.invokevirtual 84, 3))
    (kk : W p l e R s m args below meth c H locs cells slots Q (F0 m (pc + 3) ls (.int (priF kd su x y) :: rest))) : W p l e R s m args below meth c H locs cells slots Q (F0 m pc ls (.int y :: .int x :: .ref a :: rest)) := by
  have hts := F.2.2.2.2.2.1
  match kd, h5 with
  | 0, _ => exact k_rX F (c_X0_priceAt l g a 0 x y su wi wd ch tc (by decide) (by decide)) (cw_priceAt_0 hts ⟨by omega, by omega⟩) (hP.sub [0] rfl) hK (va_recv hK.1 hP (ci := 0) (q0 := 0) rfl rfl) rfl hsz rfl hW hd ⟨hc1, hc2⟩ kk
  | 1, _ => exact k_rX F (c_X0_priceAt l g a 1 x y su wi wd ch tc (by decide) (by decide)) (cw_priceAt_1 hts ⟨by omega, by omega⟩) (hP.sub [0] rfl) hK (va_recv hK.1 hP (ci := 1) (q0 := 0) rfl rfl) rfl hsz rfl hW hd ⟨hc1, hc2⟩ kk
  | 2, _ => exact k_rX F (c_X0_priceAt l g a 2 x y su wi wd ch tc (by decide) (by decide)) (cw_priceAt_2 hts ⟨by omega, by omega⟩) (hP.sub [0] rfl) hK (va_recv hK.1 hP (ci := 2) (q0 := 0) rfl rfl) rfl hsz rfl hW hd ⟨hc1, hc2⟩ kk
  | 3, _ => exact k_rX F (c_X0_priceAt l g a 3 x y su wi wd ch tc (by decide) (by decide)) (cw_priceAt_3 hts ⟨by omega, by omega⟩) (hP.sub [0] rfl) hK (va_recv hK.1 hP (ci := 3) (q0 := 0) rfl rfl) rfl hsz rfl hW hd ⟨hc1, hc2⟩ kk
  | 4, _ => exact k_rX F (c_X1_priceAt l g a x y su wi wd ch tc) (cw_priceAt_4 hts ⟨by omega, by omega⟩) (hP.sub [0] rfl) hK (va_recv hK.1 hP (ci := 4) (q0 := 0) rfl rfl) rfl hsz rfl hW hd ⟨hc1, hc2⟩ kk
theorem s_kind {p : Program} {l : Launch} {e : Env} {R : Room} {s : State} {m : MethodId} {args : Array Value} {below : List Frame} {meth : Method} {c : Code} {H : Heap} {locs : List Loc} {cells slots pc nL : Nat} {Q : State → Prop} {ls : Array Slot} {rest : List Value} {cc : ByteArray} {j : Nat} {pre : va_W} {sa K : Nat → Nat} {g : GG} {rt : Option FieldType} {su wi wd ch tc : Nat → Int32}  (F : CX p s m args meth c cc rt nL RX11) (hK : KK g s) (hP : PP g (pre ++ swl sa K su wi wd ch tc) H) (hj : j < 5) (hK5 : ∀ i, K i < 5) (hsz : ls.size = nL) (hR1 : 1 ≤ R.frames) (hR2 : 20 ≤ R.locals) (hc1 : cells ≤ R.cells) (hc2 : slots ≤ R.slots) (hW : (rest.map fun v => v.category).sum ≤ 8) (hd : decode cc pc = .ok (.invokevirtual 92, 3))
    (kk : W p l e R s m args below meth c H locs cells slots Q (F0 m (pc + 3) ls (.int (kinF (K j)) :: rest))) : W p l e R s m args below meth c H locs cells slots Q (F0 m pc ls (.ref (sa j) :: rest)) := v_kind F hK (pp1 hP (s_at pre hj)) (hK5 j) hsz hR1 hR2 hc1 hc2 hW hd kk
theorem s_echo {p : Program} {l : Launch} {e : Env} {R : Room} {s : State} {m : MethodId} {args : Array Value} {below : List Frame} {meth : Method} {c : Code} {H : Heap} {locs : List Loc} {cells slots pc nL : Nat} {Q : State → Prop} {ls : Array Slot} {rest : List Value} {cc : ByteArray} {j : Nat} {pre : va_W} {sa K : Nat → Nat} {g : GG} {rt : Option FieldType} {su wi wd ch tc : Nat → Int32}  (F : CX p s m args meth c cc rt nL RX2) (hK : KK g s) (hP : PP g (pre ++ swl sa K su wi wd ch tc) H) (hj : j < 5) (hK5 : ∀ i, K i < 5) (hsz : ls.size = nL) (hR1 : 1 ≤ R.frames) (hR2 : 20 ≤ R.locals) (hc1 : cells ≤ R.cells) (hc2 : slots ≤ R.slots) (hW : (rest.map fun v => v.category).sum ≤ 8) (hd : decode cc pc = .ok (.invokevirtual 65, 3))
    (kk : W p l e R s m args below meth c H locs cells slots Q (F0 m (pc + 3) ls (.int (echF (K j)) :: rest))) : W p l e R s m args below meth c H locs cells slots Q (F0 m pc ls (.ref (sa j) :: rest)) := v_echo F hK (pp1 hP (s_at pre hj)) (hK5 j) hsz hR1 hR2 hc1 hc2 hW hd kk
theorem s_endBy {p : Program} {l : Launch} {e : Env} {R : Room} {s : State} {m : MethodId} {args : Array Value} {below : List Frame} {meth : Method} {c : Code} {H : Heap} {locs : List Loc} {cells slots pc nL : Nat} {Q : State → Prop} {ls : Array Slot} {rest : List Value} {cc : ByteArray} {j : Nat} {pre : va_W} {sa K : Nat → Nat} {g : GG} {rt : Option FieldType} {su wi wd ch tc : Nat → Int32} {x : Int32} {y : Int32} (F : CX p s m args meth c cc rt nL RX2) (hK : KK g s) (hP : PP g (pre ++ swl sa K su wi wd ch tc) H) (hj : j < 5) (hK5 : ∀ i, K i < 5) (hsz : ls.size = nL) (hR1 : 2 ≤ R.frames) (hR2 : 44 ≤ R.locals) (hc1 : cells ≤ R.cells) (hc2 : slots ≤ R.slots) (hW : (rest.map fun v => v.category).sum ≤ 8) (hd : decode cc pc = .ok (.invokevirtual 50, 3))
    (kk : W p l e R s m args below meth c H locs cells slots Q (F0 m (pc + 3) ls (.int (endF (K j) x y) :: rest))) : W p l e R s m args below meth c H locs cells slots Q (F0 m pc ls (.int y :: .int x :: .ref (sa j) :: rest)) := v_endBy F hK (pp1 hP (s_at pre hj)) (hK5 j) hsz hR1 hR2 hc1 hc2 hW hd kk
theorem s_priceAt {p : Program} {l : Launch} {e : Env} {R : Room} {s : State} {m : MethodId} {args : Array Value} {below : List Frame} {meth : Method} {c : Code} {H : Heap} {locs : List Loc} {cells slots pc nL : Nat} {Q : State → Prop} {ls : Array Slot} {rest : List Value} {cc : ByteArray} {j : Nat} {pre : va_W} {sa K : Nat → Nat} {g : GG} {rt : Option FieldType} {su wi wd ch tc : Nat → Int32} {x : Int32} {y : Int32} (F : CX p s m args meth c cc rt nL RX2) (hK : KK g s) (hP : PP g (pre ++ swl sa K su wi wd ch tc) H) (hj : j < 5) (hK5 : ∀ i, K i < 5) (hsz : ls.size = nL) (hR1 : 2 ≤ R.frames) (hR2 : 43 ≤ R.locals) (hc1 : cells ≤ R.cells) (hc2 : slots ≤ R.slots) (hW : (rest.map fun v => v.category).sum ≤ 8) (hd : decode cc pc = .ok (.invokevirtual 84, 3))
    (kk : W p l e R s m args below meth c H locs cells slots Q (F0 m (pc + 3) ls (.int (priF (K j) (su j) x y) :: rest))) : W p l e R s m args below meth c H locs cells slots Q (F0 m pc ls (.int y :: .int x :: .ref (sa j) :: rest)) := v_priceAt F hK (pp1 hP (s_at pre hj)) (hK5 j) hsz hR1 hR2 hc1 hc2 hW hd kk
