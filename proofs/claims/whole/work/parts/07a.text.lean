section
def btF : Nat → Value := fun j => .int (([98, 116, 115, 101, 99] : List Int32).getD j 0)
/-- the text "btsec": where it stands, and that nobody writes there -/
def SX (q : Nat × Nat) (A : Nat → Prop) (U : State) (H : Heap) : Prop := va_Z "java/lang/String" "COMPACT_STRINGS" "Z" (.int 1) A U H ∧ vk_R RX7 35 "btsec" q.1 U ∧ va_O "java/lang/String" q.1 A U H ∧ va_OF "java/lang/String" "coder" "B" (.int 0) q.1 A U H ∧ va_OF "java/lang/String" "value" "[B" (.ref q.2) q.1 A U H ∧ va_T .byte q.2 5 btF A U H
theorem SX.warm {q : Nat × Nat} {A : Nat → Prop} {s U : State} {H : Heap} (hW : s.WarmedH U.vm) (h : SX q A s H) : SX q A U H := ⟨va_Z.moved hW.alike h.1, h.2.1.warm hW, va_O.moved hW.alike h.2.2.1, va_OF.moved hW.alike h.2.2.2.1, va_OF.moved hW.alike h.2.2.2.2.1, va_T.moved hW.alike h.2.2.2.2.2⟩
theorem SX.same {q : Nat × Nat} {A : Nat → Prop} {s U : State} {H : Heap} (hv : s.vm = U.vm) (h : SX q A s H) : SX q A U H := by
  have ha : s.vm.Alike U.vm := by rw [hv]; exact Vm.Alike.refl _
  exact ⟨va_Z.moved ha h.1, h.2.1.same hv.symm, va_O.moved ha h.2.2.1, va_OF.moved ha h.2.2.2.1, va_OF.moved ha h.2.2.2.2.1, va_T.moved ha h.2.2.2.2.2⟩
theorem SX.kept {q : Nat × Nat} {A : Nat → Prop} {U : State} {H H1 : Heap} (h : SX q A U H) (hq : ∀ a : Nat, a < H.size → ¬ A a → H1[a]? = H[a]?) : SX q A U H1 := ⟨h.1.kept hq, h.2.1, h.2.2.1.kept hq, h.2.2.2.1.kept hq, h.2.2.2.2.1.kept hq, h.2.2.2.2.2.kept hq⟩
theorem SX.narrow {q : Nat × Nat} {A B : Nat → Prop} {U : State} {H : Heap} (h : SX q A U H) (hAB : ∀ q, B q → A q) : SX q B U H := ⟨h.1.narrow hAB, h.2.1, h.2.2.1.narrow hAB, h.2.2.2.1.narrow hAB, h.2.2.2.2.1.narrow hAB, h.2.2.2.2.2.narrow hAB⟩
theorem SX.rc {q : Nat × Nat} {A : Nat → Prop} {U : State} {H : Heap} (h : SX q A U H) : ∃ ce : Cell, H[q.1]? = some ce ∧ ce.vm.isStatics = false ∧ U.vm.findClass "java/lang/String" = some ce.cls := by
  obtain ⟨ce, h1, h2, h3, h4⟩ := h.2.2.1
  exact ⟨ce, h1, h2, h3⟩
abbrev NoA : Nat → Prop := fun _ => False
def MRX (l : Launch) (g : GG) (y : MethodName) (b : ByteArray) (n : Nat) (rt : Option FieldType) (fr lo : Nat) (av : List Value) (wc : va_W) (q : Nat × Nat) (v : Option Value) : Prop :=
  Met l y (.code y b n rt :: Gw) (rmc fr 0 0 lo) (va_Pc av (fun U => (PP g wc U.heap ∧ KK g U) ∧ SX q NoA U U.heap)) (fun _ st o t => o = .returned v ∧ t.heap = st.heap) 0 0 (fun _ => False)
theorem pc_blindX {g : GG} {av : List Value} {wc : va_W} {q : Nat × Nat} : FrameBlind (va_Pc av (fun U => (PP g wc U.heap ∧ KK g U) ∧ SX q NoA U U.heap)) := fun a U gf mk q => by
  obtain ⟨q0, ⟨qP, qK⟩, qX⟩ := q
  exact ⟨q0, ⟨qP, qK.call⟩, SX.same (s := U) (U := U.calling gf mk a) rfl qX⟩
end
section
variable {p : Program} {l : Launch} {e : Env} {R : Room} {s : State} {m : MethodId} {args : Array Value} {below : List Frame} {meth : Method} {c : Code} {H H0 : Heap} {locs : List Loc} {cells slots pc nL fr lo n k idx : Nat} {Q : State → Prop} {ls : Array Slot} {st rest As av : List Value} {cc b : ByteArray} {wc : va_W} {a : Nat} {g : GG} {own : String} {y : MethodName} {rt rt' : Option FieldType} {v : Option Value} {qs : Nat × Nat}
theorem k_xV (F : CX p s m args meth c cc rt nL own) (hM : MRX l g y b n rt' fr lo (.ref a :: As) wc qs v) (q : QV y b n rt' k) (hl : Cond.methodLink own idx y ∈ Gw) (hP : PP g wc H) (hK : KK g s) (hX : SX qs NoA s H) (hrc : ∃ cell : Cell, H[a]? = some cell ∧ cell.vm.isStatics = false ∧ s.vm.findClass y.cls = some cell.cls) (hn : As.length = k) (hsz : ls.size = nL) (hst : st = As.reverse ++ .ref a :: rest) (hW : (rest.map fun v => v.category).sum ≤ 8) (hd : decode cc pc = .ok (.invokevirtual idx, 3)) (hR : fr + 1 ≤ R.frames ∧ 8 + (n + 11) + lo ≤ R.locals) (hf : cells ≤ R.cells ∧ slots ≤ R.slots)
    (kk : W p l e R s m args below meth c H locs cells slots Q (F0 m (pc + 3) ls (v.toList ++ rest))) : W p l e R s m args below meth c H locs cells slots Q (F0 m pc ls st) :=
  k_r (va_runV (g := F0 m pc ls st) (cx_fix F) hM (cwV k F.2.2.2.2.2.1 (gw_V hl q) rfl rfl rfl ⟨rfl, q.1⟩ hR) ⟨pc_blindX, hrc, fun U hU hW => ⟨rfl, ⟨by rw [hU]; exact hP, hK.warm hW⟩, by rw [hU]; exact hX.warm hW⟩⟩ rfl hn hsz hst (lv_room hW) hd hf) kk
theorem k_xS (F : CX p s m args meth c cc rt nL own) (hM : MRX l g y b n rt' fr lo As wc qs v) (q : QS y b n rt' k) (hl : Cond.methodLink own idx y ∈ Gw) (hP : PP g wc H) (hK : KK g s) (hX : SX qs NoA s H) (hn : As.length = k) (hsz : ls.size = nL) (hst : st = As.reverse ++ rest) (hW : (rest.map fun v => v.category).sum ≤ 8) (hd : decode cc pc = .ok (.invokestatic idx, 3)) (hR : fr + 1 ≤ R.frames ∧ 8 + (n + 11) + lo ≤ R.locals) (hf : cells ≤ R.cells ∧ slots ≤ R.slots)
    (kk : W p l e R s m args below meth c H locs cells slots Q (F0 m (pc + 3) ls (v.toList ++ rest))) : W p l e R s m args below meth c H locs cells slots Q (F0 m pc ls st) :=
  k_r (va_runS (g := F0 m pc ls st) (cx_fix F) hM (va_cwS k F.2.2.2.2.2.1 (gw_S hl q) rfl rfl rfl q.1 hR) ⟨pc_blindX, fun U hU hW => ⟨rfl, ⟨by rw [hU]; exact hP, hK.warm hW⟩, by rw [hU]; exact hX.warm hW⟩⟩ rfl hn hsz hst (lv_room hW) hd hf) kk
theorem MRX.mk (hy : plainName y.cls = true) (hn : (lg_sl av).length ≤ n)
    (body : ∀ (p : Program) (e : Env) (s : State) (m : MethodId) (args : Array Value) (below : List Frame) (meth : Method) (c : Code) (ls : Array Slot) (Q : State → Prop), CX p s m args meth c b rt n y.cls → KK g s → PP g wc s.heap → SX qs NoA s s.heap → lv_has ls n (lv_args 0 av) → Q = MQ below (fun _ st o t => o = .returned v ∧ t.heap = st.heap) args s 0 0 (fun _ => False) → W p l e (rmc fr 0 0 lo) s m args below meth c s.heap [] 0 0 Q (F0 m 0 ls [])) : MRX l g y b n rt fr lo av wc qs v := by
  refine Met.ofW (cc := b) (maxL := n) (ret := rt) hy rfl ?_
  intro p e s m args below meth c s₁ B hml hv
  obtain ⟨rfl, ⟨hP, hK⟩, hX⟩ := hv
  have hl := lv_entry av (n := n) hn
  rw [lg_entry_eq]
  have hts := atoms_spec (ws := (.code y b n rt :: Gw)) B.pre
  exact body p e s m _ below meth c _ _ ⟨B.exec, B.bytes, B.returns, hml, findClass_of_methodNamed B.named, fun w hw => hts w (List.mem_cons_of_mem _ hw), B.notSynchronized⟩ hK hP hX hl rfl
theorem r_rx {r x : Int32} {ty : FieldType} (F : CX p s m args meth c b (some ty) nL own) (hQ : Q = MQ below (fun _ st o t => o = .returned (some (.int r)) ∧ t.heap = st.heap) args s 0 0 (fun _ => False)) (hn : narrow ty (.int x) = .int x) (h : x = r) (hd : decode b pc = .ok (.ireturn, 1)) : W p l e R s m args below meth c s.heap [] 0 0 Q (F0 m pc ls [.int x]) := by
  have hlk := F.2.2.2.2.2.2
  subst h; subst hQ
  exact W.zret F.1 F.2.1 F.2.2.1 hn (fun t ht hW => ⟨rfl, ht⟩) (fun _ h => by cases h) hd
end
theorem qv_J0_coder_7d493 : QV yJ0_coder_7d493 cJ0_coder_7d493 1 (some .byte) 0 := ⟨(by decide +kernel), gw_2 (List.mem_of_getElem? (i := 52) rfl) rfl, gw_2 (List.mem_of_getElem? (i := 53) rfl) rfl, gw_1 (List.mem_of_getElem? (i := 10) rfl) rfl, gw_2 (List.mem_of_getElem? (i := 54) rfl) rfl⟩
theorem qv_J0_length_8abf5 : QV yJ0_length_8abf5 cJ0_length_8abf5 1 (some .int) 0 := ⟨(by decide +kernel), gw_2 (List.mem_of_getElem? (i := 48) rfl) rfl, gw_2 (List.mem_of_getElem? (i := 49) rfl) rfl, gw_1 (List.mem_of_getElem? (i := 10) rfl) rfl, gw_2 (List.mem_of_getElem? (i := 50) rfl) rfl⟩
theorem qv_J0_isLatin1_aae02 : QV yJ0_isLatin1_aae02 cJ0_isLatin1_aae02 1 (some .boolean) 0 := ⟨(by decide +kernel), gw_2 (List.mem_of_getElem? (i := 42) rfl) rfl, gw_2 (List.mem_of_getElem? (i := 43) rfl) rfl, gw_1 (List.mem_of_getElem? (i := 10) rfl) rfl, gw_2 (List.mem_of_getElem? (i := 44) rfl) rfl⟩
theorem qv_J0_indexOf_7cf53 : QV yJ0_indexOf_7cf53 cJ0_indexOf_7cf53 3 (some .int) 2 := ⟨(by decide +kernel), gw_2 (List.mem_of_getElem? (i := 38) rfl) rfl, gw_2 (List.mem_of_getElem? (i := 39) rfl) rfl, gw_1 (List.mem_of_getElem? (i := 10) rfl) rfl, gw_2 (List.mem_of_getElem? (i := 40) rfl) rfl⟩
theorem qv_J0_indexOf_0f7a4 : QV yJ0_indexOf_0f7a4 cJ0_indexOf_0f7a4 2 (some .int) 1 := ⟨(by decide +kernel), gw_2 (List.mem_of_getElem? (i := 34) rfl) rfl, gw_2 (List.mem_of_getElem? (i := 35) rfl) rfl, gw_1 (List.mem_of_getElem? (i := 10) rfl) rfl, gw_2 (List.mem_of_getElem? (i := 36) rfl) rfl⟩
theorem qs_J1_canEncode_9a6ad : QS yJ1_canEncode_9a6ad cJ1_canEncode_9a6ad 1 (some .boolean) 1 := ⟨(by decide +kernel), gw_2 (List.mem_of_getElem? (i := 59) rfl) rfl, gw_1 (List.mem_of_getElem? (i := 11) rfl) rfl, gw_2 (List.mem_of_getElem? (i := 60) rfl) rfl⟩
theorem qs_J1_indexOf_4cfef : QS yJ1_indexOf_4cfef cJ1_indexOf_4cfef 4 (some .int) 4 := ⟨(by decide +kernel), gw_2 (List.mem_of_getElem? (i := 56) rfl) rfl, gw_1 (List.mem_of_getElem? (i := 11) rfl) rfl, gw_2 (List.mem_of_getElem? (i := 57) rfl) rfl⟩
theorem qs_J1_indexOfChar_4cfef : QS yJ1_indexOfChar_4cfef cJ1_indexOfChar_4cfef 6 (some .int) 4 := ⟨(by decide +kernel), gw_2 (List.mem_of_getElem? (i := 68) rfl) rfl, gw_1 (List.mem_of_getElem? (i := 11) rfl) rfl, gw_2 (List.mem_of_getElem? (i := 69) rfl) rfl⟩
theorem fl_J0_9 : Cond.fieldLink RJ0 9 "java/lang/String" "value" "[B" ∈ Gw := gw_5 (List.mem_of_getElem? (i := 120) rfl) rfl
theorem fl_J0_15 : Cond.fieldLink RJ0 15 "java/lang/String" "coder" "B" ∈ Gw := gw_5 (List.mem_of_getElem? (i := 119) rfl) rfl
theorem fl_J0_38 : Cond.fieldLink RJ0 38 "java/lang/String" "COMPACT_STRINGS" "Z" ∈ Gw := gw_2 (List.mem_of_getElem? (i := 45) rfl) rfl
theorem ml_J0_335 : Cond.methodLink RJ0 335 yJ0_coder_7d493 ∈ Gw := gw_2 (List.mem_of_getElem? (i := 51) rfl) rfl
theorem ml_J0_492 : Cond.methodLink RJ0 492 yJ0_isLatin1_aae02 ∈ Gw := gw_2 (List.mem_of_getElem? (i := 41) rfl) rfl
theorem ml_J0_505 : Cond.methodLink RJ0 505 yJ0_length_8abf5 ∈ Gw := gw_2 (List.mem_of_getElem? (i := 47) rfl) rfl
theorem ml_J0_633 : Cond.methodLink RJ0 633 yJ0_indexOf_7cf53 ∈ Gw := gw_2 (List.mem_of_getElem? (i := 37) rfl) rfl
theorem ml_J0_637 : Cond.methodLink RJ0 637 yJ1_indexOf_4cfef ∈ Gw := gw_2 (List.mem_of_getElem? (i := 55) rfl) rfl
theorem ml_J0_1062 : Cond.methodLink RJ0 1062 yJ3_checkFromToIndex_8c36e ∈ Gw := gw_2 (List.mem_of_getElem? (i := 90) rfl) rfl
theorem ml_J1_38 : Cond.methodLink RJ1 38 yJ9_min_7cf53 ∈ Gw := gw_2 (List.mem_of_getElem? (i := 64) rfl) rfl
theorem ml_J1_88 : Cond.methodLink RJ1 88 yJ1_canEncode_9a6ad ∈ Gw := gw_2 (List.mem_of_getElem? (i := 58) rfl) rfl
theorem ml_J1_92 : Cond.methodLink RJ1 92 yJ9_max_7cf53 ∈ Gw := gw_2 (List.mem_of_getElem? (i := 61) rfl) rfl
theorem ml_J1_95 : Cond.methodLink RJ1 95 yJ1_indexOfChar_4cfef ∈ Gw := gw_2 (List.mem_of_getElem? (i := 67) rfl) rfl
set_option maxRecDepth 100000 in
set_option maxHeartbeats 4000000 in
theorem c_J0_coder_7d493 (l : Launch) (g : GG) (q : Nat × Nat)  : MRX l g yJ0_coder_7d493 cJ0_coder_7d493 1 (some .byte) 0 0 [.ref q.1] [] q (some (.int 0)) := by
  refine MRX.mk (by decide) (Nat.le_of_ble_eq_true rfl) ?_
  intro p e s m args below meth c ls Q F hK hP hX hl hQ
  have hx := F.1
  have hb := F.2.1
  have hml := F.2.2.2.1
  have hown := F.2.2.2.2.1
  have hts := F.2.2.2.2.2.1
  have hl : lv_has ls 1 [(0, .ref q.1)] := hl
  refine va_gets hx hb hX.1 va_S.rf hown (hts _ fl_J0_38) (fun _ h => h) dJ0_coder_7d493_0 ?_
  refine lv_if_eq (tgt := 13) hx hb dJ0_coder_7d493_3 (by decide) (fun h => absurd h (by decide)) (fun _ => ?_)
  refine lv_aload_n hx hb dJ0_coder_7d493_6 rfl (lv_at hl 0 rfl) ?_
  refine vk_getf hx hb hX.2.2.2.1 va_S.rf hown (hts _ fl_J0_15) (fun _ h => h) dJ0_coder_7d493_7 ?_
  refine lv_goto (tgt := 14) hx hb dJ0_coder_7d493_10 (by decide) ?_
  exact r_rx F hQ rfl rfl dJ0_coder_7d493_14
set_option maxRecDepth 100000 in
set_option maxHeartbeats 4000000 in
theorem c_J0_length_8abf5 (l : Launch) (g : GG) (q : Nat × Nat)  : MRX l g yJ0_length_8abf5 cJ0_length_8abf5 1 (some .int) 1 20 [.ref q.1] [] q (some (.int 5)) := by
  refine MRX.mk (by decide) (Nat.le_of_ble_eq_true rfl) ?_
  intro p e s m args below meth c ls Q F hK hP hX hl hQ
  have hx := F.1
  have hb := F.2.1
  have hml := F.2.2.2.1
  have hown := F.2.2.2.2.1
  have hts := F.2.2.2.2.2.1
  have hl : lv_has ls 1 [(0, .ref q.1)] := hl
  refine lv_aload_n hx hb dJ0_length_8abf5_0 rfl (lv_at hl 0 rfl) ?_
  refine vk_getf hx hb hX.2.2.2.2.1 va_S.rf hown (hts _ fl_J0_9) (fun _ h => h) dJ0_length_8abf5_1 ?_
  refine va_tlen hx hb hX.2.2.2.2.2 va_S.rf (v := 5) rfl dJ0_length_8abf5_4 ?_
  refine lv_aload_n hx hb dJ0_length_8abf5_5 rfl (lv_at hl 0 rfl) ?_
  refine k_xV F (c_J0_coder_7d493 l g q ) qv_J0_coder_7d493 ml_J0_335 (hP.sub [] rfl) hK hX hX.rc rfl hl.1 rfl (Nat.le_of_ble_eq_true rfl) dJ0_length_8abf5_6 ⟨(Nat.le_of_ble_eq_true rfl), (Nat.le_of_ble_eq_true rfl)⟩ ⟨(Nat.le_of_ble_eq_true rfl), (Nat.le_of_ble_eq_true rfl)⟩ ?_
  refine W.eq (g2 := F0 m 9 ls (.int 0 :: [.int 5])) rfl ?_
  refine lv_ishr hx hb dJ0_length_8abf5_9 ?_
  exact r_ri F hQ (by decide) dJ0_length_8abf5_10
set_option maxRecDepth 100000 in
set_option maxHeartbeats 4000000 in
theorem c_J0_isLatin1_aae02 (l : Launch) (g : GG) (q : Nat × Nat)  : MRX l g yJ0_isLatin1_aae02 cJ0_isLatin1_aae02 1 (some .boolean) 0 0 [.ref q.1] [] q (some (.int 1)) := by
  refine MRX.mk (by decide) (Nat.le_of_ble_eq_true rfl) ?_
  intro p e s m args below meth c ls Q F hK hP hX hl hQ
  have hx := F.1
  have hb := F.2.1
  have hml := F.2.2.2.1
  have hown := F.2.2.2.2.1
  have hts := F.2.2.2.2.2.1
  have hl : lv_has ls 1 [(0, .ref q.1)] := hl
  refine va_gets hx hb hX.1 va_S.rf hown (hts _ fl_J0_38) (fun _ h => h) dJ0_isLatin1_aae02_0 ?_
  refine lv_if_eq (tgt := 17) hx hb dJ0_isLatin1_aae02_3 (by decide) (fun h => absurd h (by decide)) (fun _ => ?_)
  refine lv_aload_n hx hb dJ0_isLatin1_aae02_6 rfl (lv_at hl 0 rfl) ?_
  refine vk_getf hx hb hX.2.2.2.1 va_S.rf hown (hts _ fl_J0_15) (fun _ h => h) dJ0_isLatin1_aae02_7 ?_
  refine lv_if_ne (tgt := 17) hx hb dJ0_isLatin1_aae02_10 (by decide) (fun h => absurd rfl h) (fun _ => ?_)
  refine lv_iconst (v := 1) hx hb dJ0_isLatin1_aae02_13 (by decide) ?_
  refine lv_goto (tgt := 18) hx hb dJ0_isLatin1_aae02_14 (by decide) ?_
  exact r_rz F hQ (by decide) rfl dJ0_isLatin1_aae02_18
def ceF (x : Int32) : Int32 := if x < 0 then 0 else if 255 < x then 0 else 1
set_option maxRecDepth 100000 in
set_option maxHeartbeats 4000000 in
theorem c_J1_canEncode_9a6ad (l : Launch) (g : GG) (q : Nat × Nat) (x : Int32) : MRX l g yJ1_canEncode_9a6ad cJ1_canEncode_9a6ad 1 (some .boolean) 0 0 [.int x] [] q (some (.int (ceF x))) := by
  refine MRX.mk (by decide) (Nat.le_of_ble_eq_true rfl) ?_
  intro p e s m args below meth c ls Q F hK hP hX hl hQ
  have hx := F.1
  have hb := F.2.1
  have hml := F.2.2.2.1
  have hown := F.2.2.2.2.1
  have hts := F.2.2.2.2.2.1
  have hl : lv_has ls 1 [(0, .int x)] := hl
  refine lv_iload_n hx hb dJ1_canEncode_9a6ad_0 rfl (lv_at hl 0 rfl) ?_
  refine lv_if_lt (tgt := 15) hx hb dJ1_canEncode_9a6ad_1 (by decide) (fun h1 => ?_) (fun h1 => ?_)
  · refine lv_iconst (v := 0) hx hb dJ1_canEncode_9a6ad_15 (by decide) ?_
    exact r_rz F hQ (by decide) (by rw [ceF, if_pos h1]) dJ1_canEncode_9a6ad_16
  · refine lv_iload_n hx hb dJ1_canEncode_9a6ad_4 rfl (lv_at hl 0 rfl) ?_
    refine lv_sipush (v := 255) hx hb dJ1_canEncode_9a6ad_5 (by decide) ?_
    refine lv_icmp_gt (tgt := 15) hx hb dJ1_canEncode_9a6ad_8 (by decide) (fun h2 => ?_) (fun h2 => ?_)
    · refine lv_iconst (v := 0) hx hb dJ1_canEncode_9a6ad_15 (by decide) ?_
      exact r_rz F hQ (by decide) (by rw [ceF, if_neg h1, if_pos h2]) dJ1_canEncode_9a6ad_16
    · refine lv_iconst (v := 1) hx hb dJ1_canEncode_9a6ad_11 (by decide) ?_
      refine lv_goto (tgt := 16) hx hb dJ1_canEncode_9a6ad_12 (by decide) ?_
      exact r_rz F hQ (by decide) (by rw [ceF, if_neg h1, if_neg h2]) dJ1_canEncode_9a6ad_16
def icF (b : Int32) : Int32 := if (98 : Int32) = b then 0 else if (116 : Int32) = b then 1 else if (115 : Int32) = b then 2 else if (101 : Int32) = b then 3 else if (99 : Int32) = b then 4 else (-1)
set_option maxRecDepth 100000 in
set_option maxHeartbeats 4000000 in
theorem c_J1_indexOfChar_4cfef (l : Launch) (g : GG) (q : Nat × Nat) (x : Int32) : MRX l g yJ1_indexOfChar_4cfef cJ1_indexOfChar_4cfef 6 (some .int) 0 0 [.ref q.2, .int x, .int 0, .int 5] [] q (some (.int (icF x.toInt8.toInt32))) := by
  refine MRX.mk (by decide) (Nat.le_of_ble_eq_true rfl) ?_
  intro p e s m args below meth c ls Q F hK hP hX hl hQ
  have hx := F.1
  have hb := F.2.1
  have hml := F.2.2.2.1
  have hown := F.2.2.2.2.1
  have hts := F.2.2.2.2.2.1
  have hl : lv_has ls 6 [(0, .ref q.2), (1, .int x), (2, .int 0), (3, .int 5)] := hl
  refine lv_iload_n hx hb dJ1_indexOfChar_4cfef_0 rfl (lv_at hl 1 rfl) ?_
  refine lv_i2b hx hb dJ1_indexOfChar_4cfef_1 rfl ?_
  refine lv_topi (fun z ez => ?_)
  refine lv_istore (lv' := [(4, .int z), (0, .ref q.2), (1, .int x), (2, .int 0), (3, .int 5)]) hx hb dJ1_indexOfChar_4cfef_2 hl (by decide) rfl (fun ls hl => ?_)
  refine lv_iload_n hx hb dJ1_indexOfChar_4cfef_4 rfl (lv_at hl 3 rfl) ?_
  refine lv_istore (lv' := [(5, .int 0), (4, .int z), (0, .ref q.2), (1, .int x), (2, .int 0), (3, .int 5)]) hx hb dJ1_indexOfChar_4cfef_5 hl (by decide) rfl (fun ls hl => ?_)
  refine lv_iload hx hb dJ1_indexOfChar_4cfef_7 (lv_at hl 0 rfl) ?_
  refine lv_iload_n hx hb dJ1_indexOfChar_4cfef_9 rfl (lv_at hl 5 rfl) ?_
  refine lv_icmp_ge (tgt := 31) hx hb dJ1_indexOfChar_4cfef_10 (by decide) (fun h => absurd h (by decide)) (fun _ => ?_)
  refine lv_aload_n hx hb dJ1_indexOfChar_4cfef_13 rfl (lv_at hl 2 rfl) ?_
  refine lv_iload hx hb dJ1_indexOfChar_4cfef_14 (lv_at hl 0 rfl) ?_
  refine va_tb hx hb hX.2.2.2.2.2 va_S.rf (by unfold vp_in; decide) (v := .int 98) rfl dJ1_indexOfChar_4cfef_16 ?_
  refine lv_iload hx hb dJ1_indexOfChar_4cfef_17 (lv_at hl 1 rfl) ?_
  refine lv_icmp_ne (tgt := 25) hx hb dJ1_indexOfChar_4cfef_19 (by decide) (fun h0 => ?_) (fun h0 => ?_)
  · refine lv_iinc (v := 1) (lv' := [(5, .int 1), (4, .int z), (0, .ref q.2), (1, .int x), (2, .int 0), (3, .int 5)]) hx hb dJ1_indexOfChar_4cfef_25 hl (k := 0) rfl (by decide) (by decide) rfl (fun ls hl => ?_)
    refine lv_goto (tgt := 7) hx hb dJ1_indexOfChar_4cfef_28 (by decide) ?_
    refine lv_iload hx hb dJ1_indexOfChar_4cfef_7 (lv_at hl 0 rfl) ?_
    refine lv_iload_n hx hb dJ1_indexOfChar_4cfef_9 rfl (lv_at hl 5 rfl) ?_
    refine lv_icmp_ge (tgt := 31) hx hb dJ1_indexOfChar_4cfef_10 (by decide) (fun h => absurd h (by decide)) (fun _ => ?_)
    refine lv_aload_n hx hb dJ1_indexOfChar_4cfef_13 rfl (lv_at hl 2 rfl) ?_
    refine lv_iload hx hb dJ1_indexOfChar_4cfef_14 (lv_at hl 0 rfl) ?_
    refine va_tb hx hb hX.2.2.2.2.2 va_S.rf (by unfold vp_in; decide) (v := .int 116) rfl dJ1_indexOfChar_4cfef_16 ?_
    refine lv_iload hx hb dJ1_indexOfChar_4cfef_17 (lv_at hl 1 rfl) ?_
    refine lv_icmp_ne (tgt := 25) hx hb dJ1_indexOfChar_4cfef_19 (by decide) (fun h1 => ?_) (fun h1 => ?_)
    · refine lv_iinc (v := 2) (lv' := [(5, .int 2), (4, .int z), (0, .ref q.2), (1, .int x), (2, .int 0), (3, .int 5)]) hx hb dJ1_indexOfChar_4cfef_25 hl (k := 0) rfl (by decide) (by decide) rfl (fun ls hl => ?_)
      refine lv_goto (tgt := 7) hx hb dJ1_indexOfChar_4cfef_28 (by decide) ?_
      refine lv_iload hx hb dJ1_indexOfChar_4cfef_7 (lv_at hl 0 rfl) ?_
      refine lv_iload_n hx hb dJ1_indexOfChar_4cfef_9 rfl (lv_at hl 5 rfl) ?_
      refine lv_icmp_ge (tgt := 31) hx hb dJ1_indexOfChar_4cfef_10 (by decide) (fun h => absurd h (by decide)) (fun _ => ?_)
      refine lv_aload_n hx hb dJ1_indexOfChar_4cfef_13 rfl (lv_at hl 2 rfl) ?_
      refine lv_iload hx hb dJ1_indexOfChar_4cfef_14 (lv_at hl 0 rfl) ?_
      refine va_tb hx hb hX.2.2.2.2.2 va_S.rf (by unfold vp_in; decide) (v := .int 115) rfl dJ1_indexOfChar_4cfef_16 ?_
      refine lv_iload hx hb dJ1_indexOfChar_4cfef_17 (lv_at hl 1 rfl) ?_
      refine lv_icmp_ne (tgt := 25) hx hb dJ1_indexOfChar_4cfef_19 (by decide) (fun h2 => ?_) (fun h2 => ?_)
      · refine lv_iinc (v := 3) (lv' := [(5, .int 3), (4, .int z), (0, .ref q.2), (1, .int x), (2, .int 0), (3, .int 5)]) hx hb dJ1_indexOfChar_4cfef_25 hl (k := 0) rfl (by decide) (by decide) rfl (fun ls hl => ?_)
        refine lv_goto (tgt := 7) hx hb dJ1_indexOfChar_4cfef_28 (by decide) ?_
        refine lv_iload hx hb dJ1_indexOfChar_4cfef_7 (lv_at hl 0 rfl) ?_
        refine lv_iload_n hx hb dJ1_indexOfChar_4cfef_9 rfl (lv_at hl 5 rfl) ?_
        refine lv_icmp_ge (tgt := 31) hx hb dJ1_indexOfChar_4cfef_10 (by decide) (fun h => absurd h (by decide)) (fun _ => ?_)
        refine lv_aload_n hx hb dJ1_indexOfChar_4cfef_13 rfl (lv_at hl 2 rfl) ?_
        refine lv_iload hx hb dJ1_indexOfChar_4cfef_14 (lv_at hl 0 rfl) ?_
        refine va_tb hx hb hX.2.2.2.2.2 va_S.rf (by unfold vp_in; decide) (v := .int 101) rfl dJ1_indexOfChar_4cfef_16 ?_
        refine lv_iload hx hb dJ1_indexOfChar_4cfef_17 (lv_at hl 1 rfl) ?_
        refine lv_icmp_ne (tgt := 25) hx hb dJ1_indexOfChar_4cfef_19 (by decide) (fun h3 => ?_) (fun h3 => ?_)
        · refine lv_iinc (v := 4) (lv' := [(5, .int 4), (4, .int z), (0, .ref q.2), (1, .int x), (2, .int 0), (3, .int 5)]) hx hb dJ1_indexOfChar_4cfef_25 hl (k := 0) rfl (by decide) (by decide) rfl (fun ls hl => ?_)
          refine lv_goto (tgt := 7) hx hb dJ1_indexOfChar_4cfef_28 (by decide) ?_
          refine lv_iload hx hb dJ1_indexOfChar_4cfef_7 (lv_at hl 0 rfl) ?_
          refine lv_iload_n hx hb dJ1_indexOfChar_4cfef_9 rfl (lv_at hl 5 rfl) ?_
          refine lv_icmp_ge (tgt := 31) hx hb dJ1_indexOfChar_4cfef_10 (by decide) (fun h => absurd h (by decide)) (fun _ => ?_)
          refine lv_aload_n hx hb dJ1_indexOfChar_4cfef_13 rfl (lv_at hl 2 rfl) ?_
          refine lv_iload hx hb dJ1_indexOfChar_4cfef_14 (lv_at hl 0 rfl) ?_
          refine va_tb hx hb hX.2.2.2.2.2 va_S.rf (by unfold vp_in; decide) (v := .int 99) rfl dJ1_indexOfChar_4cfef_16 ?_
          refine lv_iload hx hb dJ1_indexOfChar_4cfef_17 (lv_at hl 1 rfl) ?_
          refine lv_icmp_ne (tgt := 25) hx hb dJ1_indexOfChar_4cfef_19 (by decide) (fun h4 => ?_) (fun h4 => ?_)
          · refine lv_iinc (v := 5) (lv' := [(5, .int 5), (4, .int z), (0, .ref q.2), (1, .int x), (2, .int 0), (3, .int 5)]) hx hb dJ1_indexOfChar_4cfef_25 hl (k := 0) rfl (by decide) (by decide) rfl (fun ls hl => ?_)
            refine lv_goto (tgt := 7) hx hb dJ1_indexOfChar_4cfef_28 (by decide) ?_
            refine lv_iload hx hb dJ1_indexOfChar_4cfef_7 (lv_at hl 0 rfl) ?_
            refine lv_iload_n hx hb dJ1_indexOfChar_4cfef_9 rfl (lv_at hl 5 rfl) ?_
            refine lv_icmp_ge (tgt := 31) hx hb dJ1_indexOfChar_4cfef_10 (by decide) (fun _ => ?_) (fun h => absurd (by decide) h)
            refine lv_iconst (v := (-1)) hx hb dJ1_indexOfChar_4cfef_31 (by decide) ?_
            exact r_ri F hQ (by rw [← ez, icF, if_neg h0, if_neg h1, if_neg h2, if_neg h3, if_neg h4]) dJ1_indexOfChar_4cfef_32
          · refine lv_iload hx hb dJ1_indexOfChar_4cfef_22 (lv_at hl 0 rfl) ?_
            exact r_ri F hQ (by rw [← ez, icF, if_neg h0, if_neg h1, if_neg h2, if_neg h3, if_pos h4]) dJ1_indexOfChar_4cfef_24
        · refine lv_iload hx hb dJ1_indexOfChar_4cfef_22 (lv_at hl 0 rfl) ?_
          exact r_ri F hQ (by rw [← ez, icF, if_neg h0, if_neg h1, if_neg h2, if_pos h3]) dJ1_indexOfChar_4cfef_24
      · refine lv_iload hx hb dJ1_indexOfChar_4cfef_22 (lv_at hl 0 rfl) ?_
        exact r_ri F hQ (by rw [← ez, icF, if_neg h0, if_neg h1, if_pos h2]) dJ1_indexOfChar_4cfef_24
    · refine lv_iload hx hb dJ1_indexOfChar_4cfef_22 (lv_at hl 0 rfl) ?_
      exact r_ri F hQ (by rw [← ez, icF, if_neg h0, if_pos h1]) dJ1_indexOfChar_4cfef_24
  · refine lv_iload hx hb dJ1_indexOfChar_4cfef_22 (lv_at hl 0 rfl) ?_
    exact r_ri F hQ (by rw [← ez, icF, if_pos h0]) dJ1_indexOfChar_4cfef_24
def ixF (x : Int32) : Int32 := if ceF x = 0 then (-1) else icF x.toInt8.toInt32
set_option maxRecDepth 100000 in
set_option maxHeartbeats 4000000 in
theorem c_J1_indexOf_4cfef (l : Launch) (g : GG) (q : Nat × Nat) (x : Int32) : MRX l g yJ1_indexOf_4cfef cJ1_indexOf_4cfef 4 (some .int) 1 25 [.ref q.2, .int x, .int 0, .int 5] [] q (some (.int (ixF x))) := by
  refine MRX.mk (by decide) (Nat.le_of_ble_eq_true rfl) ?_
  intro p e s m args below meth c ls Q F hK hP hX hl hQ
  have hx := F.1
  have hb := F.2.1
  have hml := F.2.2.2.1
  have hown := F.2.2.2.2.1
  have hts := F.2.2.2.2.2.1
  have hl : lv_has ls 4 [(0, .ref q.2), (1, .int x), (2, .int 0), (3, .int 5)] := hl
  refine lv_iload_n hx hb dJ1_indexOf_4cfef_0 rfl (lv_at hl 1 rfl) ?_
  refine k_xS F (c_J1_canEncode_9a6ad l g q x) qs_J1_canEncode_9a6ad ml_J1_88 (hP.sub [] rfl) hK hX rfl hl.1 rfl (Nat.le_of_ble_eq_true rfl) dJ1_indexOf_4cfef_1 ⟨(Nat.le_of_ble_eq_true rfl), (Nat.le_of_ble_eq_true rfl)⟩ ⟨(Nat.le_of_ble_eq_true rfl), (Nat.le_of_ble_eq_true rfl)⟩ ?_
  refine W.eq (g2 := F0 m 4 ls (.int (ceF x) :: [])) rfl ?_
  refine lv_if_ne (tgt := 9) hx hb dJ1_indexOf_4cfef_4 (by decide) (fun h1 => ?_) (fun h1 => ?_)
  · refine lv_iload_n hx hb dJ1_indexOf_4cfef_9 rfl (lv_at hl 2 rfl) ?_
    refine lv_iconst (v := 0) hx hb dJ1_indexOf_4cfef_10 (by decide) ?_
    refine va_mmax hx hb (hml.trans hl.1.symm) hown (hts _ ml_J1_92) (hts _ mm_st_max) (hts _ mm_in) (hts _ mm_co_max) (Nat.le_of_ble_eq_true rfl) (Nat.le_of_ble_eq_true rfl) (Nat.le_of_ble_eq_true rfl) (Nat.le_of_ble_eq_true rfl) dJ1_indexOf_4cfef_11 ?_
    refine lv_istore_n (lv' := [(2, .int 0), (0, .ref q.2), (1, .int x), (3, .int 5)]) hx hb dJ1_indexOf_4cfef_14 rfl hl (by decide) rfl (fun ls hl => ?_)
    refine lv_iload_n hx hb dJ1_indexOf_4cfef_15 rfl (lv_at hl 3 rfl) ?_
    refine lv_aload_n hx hb dJ1_indexOf_4cfef_16 rfl (lv_at hl 1 rfl) ?_
    refine va_tlen hx hb hX.2.2.2.2.2 va_S.rf (v := 5) rfl dJ1_indexOf_4cfef_17 ?_
    refine va_mmin hx hb (hml.trans hl.1.symm) hown (hts _ ml_J1_38) (hts _ mm_st_min) (hts _ mm_in) (hts _ mm_co_min) (Nat.le_of_ble_eq_true rfl) (Nat.le_of_ble_eq_true rfl) (Nat.le_of_ble_eq_true rfl) (Nat.le_of_ble_eq_true rfl) dJ1_indexOf_4cfef_18 ?_
    refine lv_istore_n (lv' := [(3, .int 5), (2, .int 0), (0, .ref q.2), (1, .int x)]) hx hb dJ1_indexOf_4cfef_21 rfl hl (by decide) rfl (fun ls hl => ?_)
    refine lv_iload_n hx hb dJ1_indexOf_4cfef_22 rfl (lv_at hl 1 rfl) ?_
    refine lv_iload_n hx hb dJ1_indexOf_4cfef_23 rfl (lv_at hl 0 rfl) ?_
    refine lv_icmp_lt (tgt := 29) hx hb dJ1_indexOf_4cfef_24 (by decide) (fun _ => ?_) (fun h => absurd (by decide) h)
    refine lv_aload_n hx hb dJ1_indexOf_4cfef_29 rfl (lv_at hl 2 rfl) ?_
    refine lv_iload_n hx hb dJ1_indexOf_4cfef_30 rfl (lv_at hl 3 rfl) ?_
    refine lv_iload_n hx hb dJ1_indexOf_4cfef_31 rfl (lv_at hl 1 rfl) ?_
    refine lv_iload_n hx hb dJ1_indexOf_4cfef_32 rfl (lv_at hl 0 rfl) ?_
    refine k_xS F (c_J1_indexOfChar_4cfef l g q x) qs_J1_indexOfChar_4cfef ml_J1_95 (hP.sub [] rfl) hK hX rfl hl.1 rfl (Nat.le_of_ble_eq_true rfl) dJ1_indexOf_4cfef_33 ⟨(Nat.le_of_ble_eq_true rfl), (Nat.le_of_ble_eq_true rfl)⟩ ⟨(Nat.le_of_ble_eq_true rfl), (Nat.le_of_ble_eq_true rfl)⟩ ?_
    refine W.eq (g2 := F0 m 36 ls (.int (icF x.toInt8.toInt32) :: [])) rfl ?_
    exact r_ri F hQ (by rw [ixF, if_neg h1]) dJ1_indexOf_4cfef_36
  · refine lv_iconst (v := (-1)) hx hb dJ1_indexOf_4cfef_7 (by decide) ?_
    exact r_ri F hQ (by rw [ixF, if_pos h1]) dJ1_indexOf_4cfef_8
set_option maxRecDepth 100000 in
set_option maxHeartbeats 4000000 in
theorem c_J0_indexOf_7cf53 (l : Launch) (g : GG) (q : Nat × Nat) (x : Int32) : MRX l g yJ0_indexOf_7cf53 cJ0_indexOf_7cf53 3 (some .int) 2 48 [.ref q.1, .int x, .int 0] [] q (some (.int (ixF x))) := by
  refine MRX.mk (by decide) (Nat.le_of_ble_eq_true rfl) ?_
  intro p e s m args below meth c ls Q F hK hP hX hl hQ
  have hx := F.1
  have hb := F.2.1
  have hml := F.2.2.2.1
  have hown := F.2.2.2.2.1
  have hts := F.2.2.2.2.2.1
  have hl : lv_has ls 3 [(0, .ref q.1), (1, .int x), (2, .int 0)] := hl
  refine lv_aload_n hx hb dJ0_indexOf_7cf53_0 rfl (lv_at hl 0 rfl) ?_
  refine k_xV F (c_J0_isLatin1_aae02 l g q ) qv_J0_isLatin1_aae02 ml_J0_492 (hP.sub [] rfl) hK hX hX.rc rfl hl.1 rfl (Nat.le_of_ble_eq_true rfl) dJ0_indexOf_7cf53_1 ⟨(Nat.le_of_ble_eq_true rfl), (Nat.le_of_ble_eq_true rfl)⟩ ⟨(Nat.le_of_ble_eq_true rfl), (Nat.le_of_ble_eq_true rfl)⟩ ?_
  refine W.eq (g2 := F0 m 4 ls (.int 1 :: [])) rfl ?_
  refine lv_if_eq (tgt := 23) hx hb dJ0_indexOf_7cf53_4 (by decide) (fun h => absurd h (by decide)) (fun _ => ?_)
  refine lv_aload_n hx hb dJ0_indexOf_7cf53_7 rfl (lv_at hl 0 rfl) ?_
  refine vk_getf hx hb hX.2.2.2.2.1 va_S.rf hown (hts _ fl_J0_9) (fun _ h => h) dJ0_indexOf_7cf53_8 ?_
  refine lv_iload_n hx hb dJ0_indexOf_7cf53_11 rfl (lv_at hl 1 rfl) ?_
  refine lv_iload_n hx hb dJ0_indexOf_7cf53_12 rfl (lv_at hl 2 rfl) ?_
  refine lv_aload_n hx hb dJ0_indexOf_7cf53_13 rfl (lv_at hl 0 rfl) ?_
  refine k_xV F (c_J0_length_8abf5 l g q ) qv_J0_length_8abf5 ml_J0_505 (hP.sub [] rfl) hK hX hX.rc rfl hl.1 rfl (Nat.le_of_ble_eq_true rfl) dJ0_indexOf_7cf53_14 ⟨(Nat.le_of_ble_eq_true rfl), (Nat.le_of_ble_eq_true rfl)⟩ ⟨(Nat.le_of_ble_eq_true rfl), (Nat.le_of_ble_eq_true rfl)⟩ ?_
  refine W.eq (g2 := F0 m 17 ls (.int 5 :: [.int 0, .int x, .ref q.2])) rfl ?_
  refine k_xS F (c_J1_indexOf_4cfef l g q x) qs_J1_indexOf_4cfef ml_J0_637 (hP.sub [] rfl) hK hX rfl hl.1 rfl (Nat.le_of_ble_eq_true rfl) dJ0_indexOf_7cf53_17 ⟨(Nat.le_of_ble_eq_true rfl), (Nat.le_of_ble_eq_true rfl)⟩ ⟨(Nat.le_of_ble_eq_true rfl), (Nat.le_of_ble_eq_true rfl)⟩ ?_
  refine W.eq (g2 := F0 m 20 ls (.int (ixF x) :: [])) rfl ?_
  refine lv_goto (tgt := 36) hx hb dJ0_indexOf_7cf53_20 (by decide) ?_
  exact r_ri F hQ rfl dJ0_indexOf_7cf53_36
set_option maxRecDepth 100000 in
set_option maxHeartbeats 4000000 in
theorem c_J0_indexOf_0f7a4 (l : Launch) (g : GG) (q : Nat × Nat) (x : Int32) : MRX l g yJ0_indexOf_0f7a4 cJ0_indexOf_0f7a4 2 (some .int) 3 70 [.ref q.1, .int x] [] q (some (.int (ixF x))) := by
  refine MRX.mk (by decide) (Nat.le_of_ble_eq_true rfl) ?_
  intro p e s m args below meth c ls Q F hK hP hX hl hQ
  have hx := F.1
  have hb := F.2.1
  have hml := F.2.2.2.1
  have hown := F.2.2.2.2.1
  have hts := F.2.2.2.2.2.1
  have hl : lv_has ls 2 [(0, .ref q.1), (1, .int x)] := hl
  refine lv_aload_n hx hb dJ0_indexOf_0f7a4_0 rfl (lv_at hl 0 rfl) ?_
  refine lv_iload_n hx hb dJ0_indexOf_0f7a4_1 rfl (lv_at hl 1 rfl) ?_
  refine lv_iconst (v := 0) hx hb dJ0_indexOf_0f7a4_2 (by decide) ?_
  refine k_xV F (c_J0_indexOf_7cf53 l g q x) qv_J0_indexOf_7cf53 ml_J0_633 (hP.sub [] rfl) hK hX hX.rc rfl hl.1 rfl (Nat.le_of_ble_eq_true rfl) dJ0_indexOf_0f7a4_3 ⟨(Nat.le_of_ble_eq_true rfl), (Nat.le_of_ble_eq_true rfl)⟩ ⟨(Nat.le_of_ble_eq_true rfl), (Nat.le_of_ble_eq_true rfl)⟩ ?_
  refine W.eq (g2 := F0 m 6 ls (.int (ixF x) :: [])) rfl ?_
  exact r_ri F hQ rfl dJ0_indexOf_0f7a4_6
def f_X7_kindOf (x0 : Int32) : Option Int32 := some (ixF (x0.toUInt32 % 65536).toInt32)
set_option maxRecDepth 100000 in
set_option maxHeartbeats 4000000 in
theorem c_X7_kindOf0 (l : Launch) (g : GG) (q : Nat × Nat) (x0 : Int32) : MRX l g yX7_kindOf cX7_kindOf 1 (some .int) 4 91 [.int x0] [] q (some (.int (ixF (x0.toUInt32 % 65536).toInt32))) := by
  refine MRX.mk (by decide) (Nat.le_of_ble_eq_true rfl) ?_
  intro p e s m args below meth c ls Q F hK hP hX hl hQ
  have hx := F.1
  have hb := F.2.1
  have hml := F.2.2.2.1
  have hown := F.2.2.2.2.1
  have hts := F.2.2.2.2.2.1
  have hl : lv_has ls 1 [(0, .int x0)] := hl
  refine va_ldcS hx hb hown hX.2.1 dX7_kindOf_0 ?_
  refine lv_iload_n hx hb dX7_kindOf_2 rfl (lv_at hl 0 rfl) ?_
  refine lv_i2c hx hb dX7_kindOf_3 rfl ?_
  refine k_xV F (c_J0_indexOf_0f7a4 l g q ((x0.toUInt32 % 65536).toInt32)) qv_J0_indexOf_0f7a4 ml_X7_37 (hP.sub [] rfl) hK hX hX.rc rfl hl.1 rfl (Nat.le_of_ble_eq_true rfl) dX7_kindOf_4 ⟨(Nat.le_of_ble_eq_true rfl), (Nat.le_of_ble_eq_true rfl)⟩ ⟨(Nat.le_of_ble_eq_true rfl), (Nat.le_of_ble_eq_true rfl)⟩ ?_
  refine W.eq (g2 := F0 m 7 ls (.int (ixF (x0.toUInt32 % 65536).toInt32) :: [])) rfl ?_
  exact r_ri F hQ rfl dX7_kindOf_7
theorem c_X7_kindOf (l : Launch) (g : GG) (qs : Nat × Nat) (x0 : Int32) {r0 : Int32} (hf : f_X7_kindOf x0 = some r0) : MRX l g yX7_kindOf cX7_kindOf 1 (some .int) 4 91 [.int x0] [] qs (some (.int r0)) := by
  cases hf
  exact c_X7_kindOf0 l g qs x0
