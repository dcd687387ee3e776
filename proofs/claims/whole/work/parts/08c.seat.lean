section
def kdF (x : Int32) : Nat := if x = 1 then 1 else if x = 2 then 2 else if x = 3 then 3 else if x = 4 then 4 else 0
theorem kdF_lt (x : Int32) : kdF x < 5 := by unfold kdF; (repeat' split) <;> decide
end
section
variable {p : Program} {l : Launch} {e : Env} {R : Room} {s : State} {m : MethodId} {args : Array Value} {below : List Frame} {meth : Method} {c : Code} {H H0 : Heap} {locs : List Loc} {cells slots pc nL mc ms fr lo n k idx : Nat} {Q : State → Prop} {ls : Array Slot} {st rest As av fs : List Value} {cc b : ByteArray} {A : Nat → Prop} {ws wc wr ws' w1 : va_W} {a v kd : Nat} {g : GG} {own : String} {y : MethodName} {rt rt' : Option FieldType} {post : Option Value → va_W → Prop} {qs : Nat × Nat}
theorem w_aastK (F : CX p s m args meth c cc rt nL own) (hK : KK g s) (hw : WD g A H0 ws H locs) (q0 qk : Nat) {n : Nat} {f : Nat → Option Nat} (ha : ws[q0]? = some (a, .inl (g.2.2.2, n, .inr (.inr (.inr (.inr f)))))) (hv : ws[qk]? = some (v, .inr (kd, fs))) (h5 : kd < 5) {i : Int32} (hin : ¬ (i < 0 ∨ n ≤ i.toNatClampNeg)) (hws : ws.set q0 (a, .inl (g.2.2.2, n, .inr (.inr (.inr (.inr (va_up f i.toNatClampNeg (some v))))))) = ws') (hd : decode cc pc = .ok (.aastore, 1))
    (kk : ∀ (H1 : Heap) (locs1 : List Loc), WD g A H0 ws' H1 locs1 → W p l e R s m args below meth c H1 locs1 cells slots Q (F0 m (pc + 1) ls rest)) : W p l e R s m args below meth c H locs cells slots Q (F0 m pc ls (.ref v :: .int i :: .ref a :: rest)) := by
  subst hws
  match kd, h5, hv with
  | 0, _, hv => exact va_astq (r := (RX0, TX0, 5)) F.1 F.2.1 hK.1 hw.1 hw.2.1 hw.2.2 q0 2 qk 0 ha rfl hv rfl hin hd (fun H1 locs1 a1 a2 a3 => kk H1 locs1 ⟨a1, a2, a3⟩)
  | 1, _, hv => exact va_astqO (r := (RX10, TX10, 5)) F.1 F.2.1 hK.1 hw.1 hw.2.1 hw.2.2 q0 2 qk 1 ha rfl (hK.2.1 (RX10, RX0) (List.mem_of_getElem? (i := 4) rfl)) hv rfl hin hd (fun H1 locs1 a1 a2 a3 => kk H1 locs1 ⟨a1, a2, a3⟩)
  | 2, _, hv => exact va_astqO (r := (RX9, TX9, 5)) F.1 F.2.1 hK.1 hw.1 hw.2.1 hw.2.2 q0 2 qk 2 ha rfl (hK.2.1 (RX9, RX0) (List.mem_of_getElem? (i := 3) rfl)) hv rfl hin hd (fun H1 locs1 a1 a2 a3 => kk H1 locs1 ⟨a1, a2, a3⟩)
  | 3, _, hv => exact va_astqO (r := (RX3, TX3, 5)) F.1 F.2.1 hK.1 hw.1 hw.2.1 hw.2.2 q0 2 qk 3 ha rfl (hK.2.1 (RX3, RX0) (List.mem_of_getElem? (i := 2) rfl)) hv rfl hin hd (fun H1 locs1 a1 a2 a3 => kk H1 locs1 ⟨a1, a2, a3⟩)
  | 4, _, hv => exact va_astqO (r := (RX1, TX1, 5)) F.1 F.2.1 hK.1 hw.1 hw.2.1 hw.2.2 q0 2 qk 4 ha rfl (hK.2.1 (RX1, RX0) (List.mem_of_getElem? (i := 1) rfl)) hv rfl hin hd (fun H1 locs1 a1 a2 a3 => kk H1 locs1 ⟨a1, a2, a3⟩)
theorem in5_lt {i : Int32} (h : ¬ (i < 0 ∨ 5 ≤ i.toNatClampNeg)) : i < 5 := by
  have h1 : 0 ≤ i.toInt := by
    have := Int32.not_lt.mp (fun q => h (Or.inl q))
    simpa using Int32.le_iff_toInt_le.mp this
  have h2 : i.toNatClampNeg < 5 := Nat.not_le.mp fun q => h (Or.inr q)
  have h3 : i.toNatClampNeg = i.toInt.toNat := rfl
  rw [Int32.lt_iff_toInt_lt]
  show i.toInt < 5
  omega
theorem seat_w {c0 : Nat × va_E} {aS j : Nat} {sa K : Nat → Nat} {su wi wd ch tc : Nat → Int32} {x2 x3 x4 : Int32} (hj : j < 5) (hw : WD g A H0 (([c0, ra g aS 5 (va_up (fun i => some (sa i)) j (some a))] ++ swl sa K su wi wd ch tc) ++ [(a, .inr (kd, bfs x3 x4 x2 (-1) 0))]) H locs) : WD g A H0 ([c0, ra g aS 5 (fun i => some (va_up sa j a i))] ++ swl (va_up sa j a) (va_up K j kd) (upd su j x3) (upd wi j x4) (upd wd j x2) (upd ch j (-1)) (upd tc j 0)) H locs := by
  have e : (fun i => some (va_up sa j a i)) = va_up (fun i => some (sa i)) j (some a) := by
    funext i
    unfold va_up
    split <;> rfl
  rw [e]
  match j, hj, hw with
  | 0, _, hw => exact hw.sub [0, 1, 7, 3, 4, 5, 6] rfl rfl rfl
  | 1, _, hw => exact hw.sub [0, 1, 2, 7, 4, 5, 6] rfl rfl rfl
  | 2, _, hw => exact hw.sub [0, 1, 2, 3, 7, 5, 6] rfl rfl rfl
  | 3, _, hw => exact hw.sub [0, 1, 2, 3, 4, 7, 6] rfl rfl rfl
  | 4, _, hw => exact hw.sub [0, 1, 2, 3, 4, 5, 7] rfl rfl rfl
def MCX (l : Launch) (g : GG) (y : MethodName) (b : ByteArray) (n : Nat) (rt : Option FieldType) (fr lo mc ms : Nat) (av : List Value) (wc : va_W) (qs : Nat × Nat) (post : Option Value → va_W → Prop) : Prop :=
  ∀ sz : Nat, Met l y (.code y b n rt :: Gw) (rmc fr mc ms lo) (fun a U => PC g av wc sz a U ∧ SX qs (va_A wc sz) U U.heap) (QC g post wc sz) mc ms (va_A wc sz)
theorem MCX.mk (hy : plainName y.cls = true) (hn : (lg_sl av).length ≤ n)
    (body : ∀ (p : Program) (e : Env) (s : State) (m : MethodId) (args : Array Value) (below : List Frame) (meth : Method) (c : Code) (ls : Array Slot) (Q : State → Prop) (A : Nat → Prop), CX p s m args meth c b rt n y.cls → meth.name = y.name → KK g s → WD g A s.heap wc s.heap [] → (∀ q, s.heap.size ≤ q → A q) → SX qs A s s.heap → lv_has ls n (lv_args 0 av) → (Q = MQ below (QC g post wc s.heap.size) args s mc ms (va_A wc s.heap.size) ∧ A = va_A wc s.heap.size) → W p l e (rmc fr mc ms lo) s m args below meth c s.heap [] 0 0 Q (F0 m 0 ls [])) : MCX l g y b n rt fr lo mc ms av wc qs post := by
  intro sz
  refine Met.ofW (cc := b) (maxL := n) (ret := rt) hy rfl ?_
  intro p e s m args below meth c s₁ B hml hv
  obtain ⟨⟨rfl, hsz, hP, hK, hD⟩, hX⟩ := hv
  subst hsz
  have hl := lv_entry av (n := n) hn
  rw [lg_entry_eq]
  have hts := atoms_spec (ws := (.code y b n rt :: Gw)) B.pre
  exact body p e s m _ below meth c _ _ _ ⟨B.exec, B.bytes, B.returns, hml, findClass_of_methodNamed B.named, fun w hw => hts w (List.mem_cons_of_mem _ hw), B.notSynchronized⟩ (name_of_methodNamed B.named B.method).1 hK ⟨hP, hD.self, va_S.rf⟩ (fun q h => Or.inr h) hX hl ⟨rfl, rfl⟩
theorem SX.now (hX : SX qs A s H0) (hw : WD g A H0 ws H locs) : SX qs NoA s H := (hX.kept hw.2.2.2.1).narrow (fun _ h => absurd h id)
theorem k_xcV (F : CX p s m args meth c cc rt nL own) (hM : MCX l g y b n rt' fr lo mc ms (.ref a :: As) wc qs post) (q : QV y b n rt' k) (hl : Cond.methodLink own idx y ∈ Gw) (hw : WD g A H0 ws H locs) (hA : ∀ q, H0.size ≤ q → A q) (hK : KK g s) (hX : SX qs A s H0) (isC isR : List Nat) (hC : isC.map (fun i => ws[i]?) = wc.map some) (hCn : va_nd isC = true) (hCf : isC.filterMap (fun i => ws[i]?) = wc) (hRr : isR.map (fun i => ws[i]?) = wr.map some) (hnd : va_nd isR = true) (hdis : ∀ i ∈ isR, i ∉ isC) (hrc : ∃ cell : Cell, H[a]? = some cell ∧ cell.vm.isStatics = false ∧ s.vm.findClass y.cls = some cell.cls) (hn : As.length = k) (hsz : ls.size = nL) (hst : st = As.reverse ++ .ref a :: rest) (hW : (rest.map fun v => v.category).sum ≤ 8) (hd : decode cc pc = .ok (.invokevirtual idx, 3)) (hR : fr + 1 ≤ R.frames ∧ 8 + (n + 11) + lo ≤ R.locals) (hf : cells + mc ≤ R.cells ∧ slots + ms ≤ R.slots)
    (kk : ∀ (v : Option Value) (w1 : va_W) (H1 : Heap) (locs1 : List Loc), post v w1 → WD g A H0 (wr ++ w1) H1 locs1 → W p l e R s m args below meth c H1 locs1 (cells + mc) (slots + ms) Q (F0 m (pc + 3) ls (v.toList ++ rest))) : W p l e R s m args below meth c H locs cells slots Q (F0 m pc ls st) := by
  have hF := va_free (wc := wc) hw.2.1 hw.2.2 hA isC hC
  refine k_c (va_runV (g := F0 m pc ls st) (cx_fix F) (hM H.size) (cwV k F.2.2.2.2.2.1 (gw_V hl q) rfl rfl rfl ⟨rfl, q.1⟩ hR) ⟨?_, hrc, fun U hU hW => ⟨⟨rfl, by rw [hU], by rw [hU]; exact hw.1.sub isC hCf, hK.warm hW, (hw.2.1.sub isC hCn hC).weaken (fun _ _ _ _ => trivial)⟩, ?_⟩⟩ rfl hn hsz hst (lv_room hW) hd hf) hw hA isC isR hC hRr hnd hdis kk
  · exact fun a U gf mk q => ⟨pc_blindC a U gf mk q.1, SX.same (s := U) (U := U.calling gf mk a) rfl q.2⟩
  · rw [hU]
    exact ((hX.kept hw.2.2.2.1).narrow hF).warm hW
end
set_option maxRecDepth 100000 in
set_option maxHeartbeats 4000000 in
theorem c_X4_newBidder (l : Launch) (g : GG) (x0 x1 x2 x3 : Int32) : MC l g yX4_newBidder cX4_newBidder 4 (some (.object "SecondSilence$Bidder")) 4 81 1 5 [.int x0, .int x1, .int x2, .int x3] [] (fun v w1 => ∃ a : Nat, v = some (.ref a) ∧ w1 = [(a, .inr (kdF x0, bfs x2 x3 x1 (-1) 0))]) := by
  refine MC.mk (by decide) (Nat.le_of_ble_eq_true rfl) ?_
  intro p e s m args below meth c ls Q A F hnm hK hw hA hl hQ
  have hx := F.1
  have hb := F.2.1
  have hml := F.2.2.2.1
  have hown := F.2.2.2.2.1
  have hts := F.2.2.2.2.2.1
  have hl : lv_has ls 4 [(0, .int x0), (1, .int x1), (2, .int x2), (3, .int x3)] := hl
  refine lv_iload_n hx hb dX4_newBidder_0 rfl (lv_at hl 0 rfl) ?_
  by_cases h1 : x0 = 1
  · refine lv_tableIn (off := 31) (tgt := 32) hx hb dX4_newBidder_1 (by rw [h1]; decide) (by rw [h1]; decide) (by rw [h1]; rfl) (by decide) ?_
    refine w_new (ci := 1) (fs := bfs 0 0 0 0 0) F hK hw hA fb_X10 rfl cl_X4_28 ist_X10 in_X10 (fun j hj => by rcases (show j = 0 ∨ j = 1 ∨ j = 2 ∨ j = 3 ∨ j = 4 by omega) with rfl | rfl | rfl | rfl | rfl <;> rfl) (Nat.le_of_ble_eq_true rfl) (Nat.le_of_ble_eq_true rfl) dX4_newBidder_32 (fun a H hw => ?_)
    have hw : WD g A s.heap [(a, .inr (1, bfs 0 0 0 0 0))] H _ := hw
    refine lv_dup hx hb dX4_newBidder_35 rfl ?_
    refine lv_iload_n hx hb dX4_newBidder_36 rfl (lv_at hl 1 rfl) ?_
    refine lv_iload_n hx hb dX4_newBidder_37 rfl (lv_at hl 2 rfl) ?_
    refine lv_iload_n hx hb dX4_newBidder_38 rfl (lv_at hl 3 rfl) ?_
    refine k_cI (wr := []) F (c_X10_init l g a 1 x1 x2 x3 (by decide)) qi_X10_init ml_X4_30 hw hA hK [0] [] rfl rfl rfl rfl rfl (by decide) rfl hl.1 rfl (Nat.le_of_ble_eq_true rfl) dX4_newBidder_39 ⟨(Nat.le_of_ble_eq_true rfl), (Nat.le_of_ble_eq_true rfl)⟩ ⟨(Nat.le_of_ble_eq_true rfl), (Nat.le_of_ble_eq_true rfl)⟩ (fun v w1 H locs hpo hw => ?_)
    obtain ⟨rfl, rfl⟩ := hpo
    refine W.eq (g2 := F0 m 42 ls [.ref a]) rfl ?_
    exact r_ca F hQ ⟨a, rfl, by rw [kdF, if_pos h1]; rfl⟩ hw dX4_newBidder_42
  · skip
    by_cases h2 : x0 = 2
    · refine lv_tableIn (off := 42) (tgt := 43) hx hb dX4_newBidder_1 (by rw [h2]; decide) (by rw [h2]; decide) (by rw [h2]; rfl) (by decide) ?_
      refine w_new (ci := 2) (fs := bfs 0 0 0 0 0) F hK hw hA fb_X9 rfl cl_X4_31 ist_X9 in_X9 (fun j hj => by rcases (show j = 0 ∨ j = 1 ∨ j = 2 ∨ j = 3 ∨ j = 4 by omega) with rfl | rfl | rfl | rfl | rfl <;> rfl) (Nat.le_of_ble_eq_true rfl) (Nat.le_of_ble_eq_true rfl) dX4_newBidder_43 (fun a H hw => ?_)
      have hw : WD g A s.heap [(a, .inr (2, bfs 0 0 0 0 0))] H _ := hw
      refine lv_dup hx hb dX4_newBidder_46 rfl ?_
      refine lv_iload_n hx hb dX4_newBidder_47 rfl (lv_at hl 1 rfl) ?_
      refine lv_iload_n hx hb dX4_newBidder_48 rfl (lv_at hl 2 rfl) ?_
      refine lv_iload_n hx hb dX4_newBidder_49 rfl (lv_at hl 3 rfl) ?_
      refine k_cI (wr := []) F (c_X9_init l g a 2 x1 x2 x3 (by decide)) qi_X9_init ml_X4_33 hw hA hK [0] [] rfl rfl rfl rfl rfl (by decide) rfl hl.1 rfl (Nat.le_of_ble_eq_true rfl) dX4_newBidder_50 ⟨(Nat.le_of_ble_eq_true rfl), (Nat.le_of_ble_eq_true rfl)⟩ ⟨(Nat.le_of_ble_eq_true rfl), (Nat.le_of_ble_eq_true rfl)⟩ (fun v w1 H locs hpo hw => ?_)
      obtain ⟨rfl, rfl⟩ := hpo
      refine W.eq (g2 := F0 m 53 ls [.ref a]) rfl ?_
      exact r_ca F hQ ⟨a, rfl, by rw [kdF, if_neg h1, if_pos h2]; rfl⟩ hw dX4_newBidder_53
    · skip
      by_cases h3 : x0 = 3
      · refine lv_tableIn (off := 53) (tgt := 54) hx hb dX4_newBidder_1 (by rw [h3]; decide) (by rw [h3]; decide) (by rw [h3]; rfl) (by decide) ?_
        refine w_new (ci := 3) (fs := bfs 0 0 0 0 0) F hK hw hA fb_X3 rfl cl_X4_34 ist_X3 in_X3 (fun j hj => by rcases (show j = 0 ∨ j = 1 ∨ j = 2 ∨ j = 3 ∨ j = 4 by omega) with rfl | rfl | rfl | rfl | rfl <;> rfl) (Nat.le_of_ble_eq_true rfl) (Nat.le_of_ble_eq_true rfl) dX4_newBidder_54 (fun a H hw => ?_)
        have hw : WD g A s.heap [(a, .inr (3, bfs 0 0 0 0 0))] H _ := hw
        refine lv_dup hx hb dX4_newBidder_57 rfl ?_
        refine lv_iload_n hx hb dX4_newBidder_58 rfl (lv_at hl 1 rfl) ?_
        refine lv_iload_n hx hb dX4_newBidder_59 rfl (lv_at hl 2 rfl) ?_
        refine lv_iload_n hx hb dX4_newBidder_60 rfl (lv_at hl 3 rfl) ?_
        refine k_cI (wr := []) F (c_X3_init l g a 3 x1 x2 x3 (by decide)) qi_X3_init ml_X4_36 hw hA hK [0] [] rfl rfl rfl rfl rfl (by decide) rfl hl.1 rfl (Nat.le_of_ble_eq_true rfl) dX4_newBidder_61 ⟨(Nat.le_of_ble_eq_true rfl), (Nat.le_of_ble_eq_true rfl)⟩ ⟨(Nat.le_of_ble_eq_true rfl), (Nat.le_of_ble_eq_true rfl)⟩ (fun v w1 H locs hpo hw => ?_)
        obtain ⟨rfl, rfl⟩ := hpo
        refine W.eq (g2 := F0 m 64 ls [.ref a]) rfl ?_
        exact r_ca F hQ ⟨a, rfl, by rw [kdF, if_neg h1, if_neg h2, if_pos h3]; rfl⟩ hw dX4_newBidder_64
      · skip
        by_cases h4 : x0 = 4
        · refine lv_tableIn (off := 64) (tgt := 65) hx hb dX4_newBidder_1 (by rw [h4]; decide) (by rw [h4]; decide) (by rw [h4]; rfl) (by decide) ?_
          refine w_new (ci := 4) (fs := bfs 0 0 0 0 0) F hK hw hA fb_X1 rfl cl_X4_37 ist_X1 in_X1 (fun j hj => by rcases (show j = 0 ∨ j = 1 ∨ j = 2 ∨ j = 3 ∨ j = 4 by omega) with rfl | rfl | rfl | rfl | rfl <;> rfl) (Nat.le_of_ble_eq_true rfl) (Nat.le_of_ble_eq_true rfl) dX4_newBidder_65 (fun a H hw => ?_)
          have hw : WD g A s.heap [(a, .inr (4, bfs 0 0 0 0 0))] H _ := hw
          refine lv_dup hx hb dX4_newBidder_68 rfl ?_
          refine lv_iload_n hx hb dX4_newBidder_69 rfl (lv_at hl 1 rfl) ?_
          refine lv_iload_n hx hb dX4_newBidder_70 rfl (lv_at hl 2 rfl) ?_
          refine lv_iload_n hx hb dX4_newBidder_71 rfl (lv_at hl 3 rfl) ?_
          refine k_cI (wr := []) F (c_X1_init l g a 4 x1 x2 x3 (by decide)) qi_X1_init ml_X4_39 hw hA hK [0] [] rfl rfl rfl rfl rfl (by decide) rfl hl.1 rfl (Nat.le_of_ble_eq_true rfl) dX4_newBidder_72 ⟨(Nat.le_of_ble_eq_true rfl), (Nat.le_of_ble_eq_true rfl)⟩ ⟨(Nat.le_of_ble_eq_true rfl), (Nat.le_of_ble_eq_true rfl)⟩ (fun v w1 H locs hpo hw => ?_)
          obtain ⟨rfl, rfl⟩ := hpo
          refine W.eq (g2 := F0 m 75 ls [.ref a]) rfl ?_
          exact r_ca F hQ ⟨a, rfl, by rw [kdF, if_neg h1, if_neg h2, if_neg h3, if_pos h4]; rfl⟩ hw dX4_newBidder_75
        · skip
          refine lv_tableOut (tgt := 76) hx hb dX4_newBidder_1 (by have := tI h1 (k := 1) rfl; have := tI h2 (k := 2) rfl; have := tI h3 (k := 3) rfl; have := tI h4 (k := 4) rfl; omega) (by decide) ?_
          refine w_new (ci := 0) (fs := bfs 0 0 0 0 0) F hK hw hA fb_X0 rfl cl_X4_9 ist_X0 in_X0 (fun j hj => by rcases (show j = 0 ∨ j = 1 ∨ j = 2 ∨ j = 3 ∨ j = 4 by omega) with rfl | rfl | rfl | rfl | rfl <;> rfl) (Nat.le_of_ble_eq_true rfl) (Nat.le_of_ble_eq_true rfl) dX4_newBidder_76 (fun a H hw => ?_)
          have hw : WD g A s.heap [(a, .inr (0, bfs 0 0 0 0 0))] H _ := hw
          refine lv_dup hx hb dX4_newBidder_79 rfl ?_
          refine lv_iload_n hx hb dX4_newBidder_80 rfl (lv_at hl 1 rfl) ?_
          refine lv_iload_n hx hb dX4_newBidder_81 rfl (lv_at hl 2 rfl) ?_
          refine lv_iload_n hx hb dX4_newBidder_82 rfl (lv_at hl 3 rfl) ?_
          refine k_cI (wr := []) F (c_X0_init l g a 0 x1 x2 x3 (by decide)) qi_X0_init ml_X4_17 hw hA hK [0] [] rfl rfl rfl rfl rfl (by decide) rfl hl.1 rfl (Nat.le_of_ble_eq_true rfl) dX4_newBidder_83 ⟨(Nat.le_of_ble_eq_true rfl), (Nat.le_of_ble_eq_true rfl)⟩ ⟨(Nat.le_of_ble_eq_true rfl), (Nat.le_of_ble_eq_true rfl)⟩ (fun v w1 H locs hpo hw => ?_)
          obtain ⟨rfl, rfl⟩ := hpo
          refine W.eq (g2 := F0 m 86 ls [.ref a]) rfl ?_
          exact r_ca F hQ ⟨a, rfl, by rw [kdF, if_neg h1, if_neg h2, if_neg h3, if_neg h4]; rfl⟩ hw dX4_newBidder_86
set_option maxRecDepth 100000 in
set_option maxHeartbeats 4000000 in
theorem c_X4_seat (l : Launch) (g : GG) (aH aS : Nat) (x1 x2 x3 x4 size fall : Int32) (sa K : Nat → Nat) (su wi wd ch tc : Nat → Int32) (hin : ¬ (size < 0 ∨ 5 ≤ size.toNatClampNeg)) : MC l g yX4_seat cX4_seat 5 none 5 104 1 5 [.ref aH, .int x1, .int x2, .int x3, .int x4] ([ob aH 6 [.ref aS, .int size, .int fall], ra g aS 5 (fun i => some (sa i))] ++ swl sa K su wi wd ch tc) (fun v w1 => v = none ∧ ∃ a : Nat, w1 = [ob aH 6 [.ref aS, .int (size + 1), .int fall], ra g aS 5 (fun i => some (va_up sa size.toNatClampNeg a i))] ++ swl (va_up sa size.toNatClampNeg a) (va_up K size.toNatClampNeg (kdF x1)) (upd su size.toNatClampNeg x3) (upd wi size.toNatClampNeg x4) (upd wd size.toNatClampNeg x2) (upd ch size.toNatClampNeg (-1)) (upd tc size.toNatClampNeg 0)) := by
  refine MC.mk (by decide) (Nat.le_of_ble_eq_true rfl) ?_
  intro p e s m args below meth c ls Q A F hnm hK hw hA hl hQ
  have hx := F.1
  have hb := F.2.1
  have hml := F.2.2.2.1
  have hown := F.2.2.2.2.1
  have hts := F.2.2.2.2.2.1
  have hl : lv_has ls 5 [(0, .ref aH), (1, .int x1), (2, .int x2), (3, .int x3), (4, .int x4)] := hl
  refine lv_aload_n hx hb dX4_seat_0 rfl (lv_at hl 0 rfl) ?_
  refine w_get (ci := 6) F hK hw.1 fb_X4 0 rfl rfl 1 (by decide) fl_X4_20 (fun _ h => h) rfl dX4_seat_1 ?_
  refine lv_iconst (v := 5) hx hb dX4_seat_4 (by decide) ?_
  refine lv_icmp_ge (tgt := 35) hx hb dX4_seat_5 (by decide) (fun h1 => absurd (in5_lt hin) (Int32.not_lt.mpr h1)) (fun h1 => ?_)
  refine lv_aload_n hx hb dX4_seat_8 rfl (lv_at hl 0 rfl) ?_
  refine w_get (ci := 6) F hK hw.1 fb_X4 0 rfl rfl 0 (by decide) fl_X4_11 (fun _ h => h) rfl dX4_seat_9 ?_
  refine lv_aload_n hx hb dX4_seat_12 rfl (lv_at hl 0 rfl) ?_
  refine w_get (ci := 6) F hK hw.1 fb_X4 0 rfl rfl 1 (by decide) fl_X4_20 (fun _ h => h) rfl dX4_seat_13 ?_
  refine lv_iload_n hx hb dX4_seat_16 rfl (lv_at hl 1 rfl) ?_
  refine lv_iload_n hx hb dX4_seat_17 rfl (lv_at hl 2 rfl) ?_
  refine lv_iload_n hx hb dX4_seat_18 rfl (lv_at hl 3 rfl) ?_
  refine lv_iload hx hb dX4_seat_19 (lv_at hl 4 rfl) ?_
  refine k_cS (wr := [ob aH 6 [.ref aS, .int size, .int fall], ra g aS 5 (fun i => some (sa i))] ++ swl sa K su wi wd ch tc) F (c_X4_newBidder l g x1 x2 x3 x4) qs_X4_newBidder ml_X4_24 hw hA hK [] [0, 1, 2, 3, 4, 5, 6] rfl rfl rfl rfl rfl (by decide) rfl hl.1 rfl (Nat.le_of_ble_eq_true rfl) dX4_seat_21 ⟨(Nat.le_of_ble_eq_true rfl), (Nat.le_of_ble_eq_true rfl)⟩ ⟨(Nat.le_of_ble_eq_true rfl), (Nat.le_of_ble_eq_true rfl)⟩ (fun v w1 H locs hpo hw => ?_)
  obtain ⟨a, rfl, rfl⟩ := hpo
  refine W.eq (g2 := F0 m 24 ls [.ref a, .int size, .ref aS]) rfl ?_
  refine w_aastK (ws' := ([ob aH 6 [.ref aS, .int size, .int fall], ra g aS 5 (va_up (fun i => some (sa i)) size.toNatClampNeg (some a))] ++ swl sa K su wi wd ch tc) ++ [(a, .inr (kdF x1, bfs x3 x4 x2 (-1) 0))]) F hK hw 1 7 rfl rfl (kdF_lt x1) hin rfl dX4_seat_24 (fun H locs hw => ?_)
  have hw := seat_w (in5 hin) hw
  refine lv_aload_n hx hb dX4_seat_25 rfl (lv_at hl 0 rfl) ?_
  refine lv_dup hx hb dX4_seat_26 rfl ?_
  refine w_get (ci := 6) F hK hw.1 fb_X4 0 rfl rfl 1 (by decide) fl_X4_20 (fun _ h => h) rfl dX4_seat_27 ?_
  refine lv_iconst (v := 1) hx hb dX4_seat_30 (by decide) ?_
  refine lv_iadd hx hb dX4_seat_31 ?_
  refine w_put (ci := 6) (ws' := [ob aH 6 [.ref aS, .int (size + 1), .int fall], ra g aS 5 (fun i => some (va_up sa size.toNatClampNeg a i))] ++ swl (va_up sa size.toNatClampNeg a) (va_up K size.toNatClampNeg (kdF x1)) (upd su size.toNatClampNeg x3) (upd wi size.toNatClampNeg x4) (upd wd size.toNatClampNeg x2) (upd ch size.toNatClampNeg (-1)) (upd tc size.toNatClampNeg 0)) F hK hw fb_X4 0 rfl rfl 1 (by decide) fl_X4_20 (fun _ h => h) rfl rfl rfl rfl (Nat.le_of_ble_eq_true rfl) rfl dX4_seat_32 (fun H locs hw => ?_)
  exact r_cv F hQ ⟨rfl, a, rfl⟩ hw dX4_seat_35
