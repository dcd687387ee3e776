section
/-- the words that may go along with every call -/
def Gw : List Cond := lw_tbl.filter goodWord
theorem gw_s {w : Cond} (h : w ∈ k2_sels lw_privs) (g : goodWord w = true) : w ∈ Gw := List.mem_filter.mpr ⟨List.mem_append_left _ h, g⟩
theorem gw_t {w : Cond} (h : w ∈ tables_1) (g : goodWord w = true) : w ∈ Gw := List.mem_filter.mpr ⟨List.mem_append_right _ h, g⟩
theorem gw_1 {w : Cond} (h : w ∈ tables_1_1) (g : goodWord w = true) : w ∈ Gw := gw_t (List.mem_append_left _ h) g
theorem gw_2 {w : Cond} (h : w ∈ tables_1_2) (g : goodWord w = true) : w ∈ Gw := gw_t (List.mem_append_right _ (List.mem_append_left _ h)) g
theorem gw_3 {w : Cond} (h : w ∈ tables_1_3) (g : goodWord w = true) : w ∈ Gw := gw_t (List.mem_append_right _ (List.mem_append_right _ (List.mem_append_left _ h))) g
theorem gw_4 {w : Cond} (h : w ∈ tables_1_4) (g : goodWord w = true) : w ∈ Gw := gw_t (List.mem_append_right _ (List.mem_append_right _ (List.mem_append_right _ (List.mem_append_left _ h)))) g
theorem gw_5 {w : Cond} (h : w ∈ tables_1_5) (g : goodWord w = true) : w ∈ Gw := gw_t (List.mem_append_right _ (List.mem_append_right _ (List.mem_append_right _ (List.mem_append_right _ h)))) g
theorem gw_good {w : Cond} (h : w ∈ Gw) : w ∈ lw_tbl ∧ ((w.onTables && w.keeps) = true ∨ ∃ ty, w = .arrayClass ty) := ⟨(List.mem_filter.mp h).1, good_of_word (List.mem_filter.mp h).2⟩
theorem gw_in {ws : List Cond} (h : ∀ w ∈ ws, w ∈ Gw) : GoodIn Gw ws := fun w hw => ⟨h w hw, (gw_good (h w hw)).2⟩
theorem gw_inL {ws : List Cond} (h : ∀ w ∈ ws, w ∈ Gw) : GoodIn lw_tbl ws := fun w hw => gw_good (h w hw)
/-- the kinds: 0 to 4 the bidders by KIND, then Page 5, Hall 6, Course 7, Hearing 8, Image 9, Rests 10, SecondSilence 11, SecondSilenceModel 12 -/
abbrev vcl : List vw_C := [(RX0, TX0, 5), (RX10, TX10, 5), (RX9, TX9, 5), (RX3, TX3, 5), (RX1, TX1, 5), (RX7, TX7, 2), (RX4, TX4, 3), (RX2, TX2, 6), (RX5, TX5, 3), (RX6, TX6, 5), (RX8, TX8, 8), (RX11, TX11, 8), (RX12, TX12, 29)]
abbrev GG : Type := va_G × ClassId × ClassId × ClassId
abbrev PP (g : GG) (ws : va_W) (H : Heap) : Prop := va_P g.1 vcl ws H
abbrev K0 (g : GG) (s : State) : Prop := va_K g.1 vcl [(g.2.1, .int), (g.2.2.1, .byte), (g.2.2.2, .object RX0)] s
def nx_c : List (String × String) := [(RX1, RX10), (RX1, RX0), (RX3, RX0), (RX9, RX0), (RX10, RX0)]
def nx_n : List (String × String) := [(RX0, RX10), (RX9, RX10), (RX3, RX10), (RX0, RX9), (RX10, RX9), (RX3, RX9), (RX1, RX9), (RX0, RX3), (RX10, RX3), (RX9, RX3), (RX1, RX3), (RX0, RX1), (RX10, RX1), (RX9, RX1), (RX3, RX1)]
def nx_l : List (String × Nat × MethodName × String) := [(RX11, 9, yX7_init, RX11), (RX11, 18, yX2_init, RX11), (RX11, 30, yX5_init, RX11), (RX11, 37, yX6_init, RX11), (RX6, 23, yX5_init, RX11), (RX11, 44, yX8_init, RX11)]
/-- what holds of the machine's classes beside the words -/
def NX (s : State) : Prop := (∀ q ∈ nx_c, va_Nw (.castable q.1 q.2) s) ∧ (∀ q ∈ nx_n, va_Nc q.1 q.2 s) ∧ (∀ q ∈ nx_l, va_Nw (.methodLinkNest q.1 q.2.1 q.2.2.1 q.2.2.2) s) ∧ va_AO RX0 s
theorem NX.warm {s U : State} (hW : s.WarmedH U.vm) (h : NX s) : NX U := ⟨fun q hq => va_Nw.warmC hW (h.1 q hq), fun q hq => va_Nc.moved hW.alike (h.2.1 q hq), fun q hq => va_Nw.warmM hW (h.2.2.1 q hq), va_AO.moved hW.alike h.2.2.2⟩
theorem NX.same {s U : State} (hv : s.vm = U.vm) (h : NX s) : NX U := ⟨fun q hq => va_Nw.same rfl hv (h.1 q hq), fun q hq => va_Nc.moved (by rw [hv]; exact Vm.Alike.refl _) (h.2.1 q hq), fun q hq => va_Nw.same rfl hv (h.2.2.1 q hq), va_AO.moved (by rw [hv]; exact Vm.Alike.refl _) h.2.2.2⟩
def KK (g : GG) (s : State) : Prop := K0 g s ∧ NX s
theorem KK.warm {g : GG} {s U : State} (hW : s.WarmedH U.vm) (h : KK g s) : KK g U := ⟨va_K.moved hW.alike h.1, h.2.warm hW⟩
theorem KK.call {g : GG} {U : State} {gf : JFrame} {mk : MethodId} {a : Array Value} (h : KK g U) : KK g (U.calling gf mk a) := ⟨va_K.moved (u := U) (U := U.calling gf mk a) (Vm.Alike.refl U.vm) h.1, NX.same (s := U) (U := U.calling gf mk a) rfl h.2⟩
abbrev rmc (f c s lo : Nat) : Room := { frames := f, cells := c, slots := s, locals := lo }
def WD (g : GG) (A : Nat → Prop) (H0 : Heap) (ws : va_W) (H : Heap) (locs : List Loc) : Prop := PP g ws H ∧ va_D A ws ∧ va_S A H0 H locs
abbrev ia (g : GG) (a n : Nat) (f : Nat → Int32) : Nat × va_E := (a, .inl (g.2.1, n, .inl f))
abbrev ba (g : GG) (a n : Nat) (f : Nat → Int32) : Nat × va_E := (a, .inl (g.2.2.1, n, .inl f))
abbrev ra (g : GG) (a n : Nat) (f : Nat → Option Nat) : Nat × va_E := (a, .inl (g.2.2.2, n, .inr (.inr (.inr (.inr f)))))
abbrev ob (a k : Nat) (fs : List Value) : Nat × va_E := (a, .inr (k, fs))
theorem WD.sub {g : GG} {A : Nat → Prop} {H0 H : Heap} {ws ws' : va_W} {locs : List Loc} (h : WD g A H0 ws H locs) (is : List Nat) (hn : va_nd is = true) (h1 : is.filterMap (fun i => ws[i]?) = ws') (h2 : is.map (fun i => ws[i]?) = ws'.map some) : WD g A H0 ws' H locs := ⟨h.1.sub is h1, h.2.1.sub is hn h2, h.2.2⟩
/-- what a body has of its machine -/
def CX (p : Program) (s : State) (m : MethodId) (args : Array Value) (meth : Method) (c : Code) (b : ByteArray) (rt : Option FieldType) (n : Nat) (own : String) : Prop :=
  p.tables.exec = Jvm.exec ∧ c.code = b ∧ meth.sig.returnType = rt ∧ c.maxLocals = n ∧ s.vm.findClass own = some m.cls ∧ (∀ w ∈ Gw, w.before args s = true) ∧ meth.locks = false
/-- a method that reads alone: it answers v -/
def MR (l : Launch) (g : GG) (y : MethodName) (b : ByteArray) (n : Nat) (rt : Option FieldType) (fr lo : Nat) (av : List Value) (wc : va_W) (v : Option Value) : Prop :=
  Met l y (.code y b n rt :: Gw) (rmc fr 0 0 lo) (va_Pc av (fun U => PP g wc U.heap ∧ KK g U)) (fun _ st o t => o = .returned v ∧ t.heap = st.heap) 0 0 (fun _ => False)
def QC (g : GG) (post : Option Value → va_W → Prop) (wc : va_W) (sz : Nat) : Array Value → State → Outcome → State → Prop := fun _ st o t => ∃ (v : Option Value) (w1 : va_W), o = .returned v ∧ post v w1 ∧ PP g w1 t.heap ∧ va_D (va_A wc sz) w1 ∧ va_F (va_A wc sz) st t
def PC (g : GG) (av : List Value) (wc : va_W) (sz : Nat) : Array Value → State → Prop := va_Pc av (fun U => U.heap.size = sz ∧ PP g wc U.heap ∧ KK g U ∧ va_D (fun _ => True) wc)
/-- a method that writes: it answers and leaves what post says -/
def MC (l : Launch) (g : GG) (y : MethodName) (b : ByteArray) (n : Nat) (rt : Option FieldType) (fr lo mc ms : Nat) (av : List Value) (wc : va_W) (post : Option Value → va_W → Prop) : Prop :=
  ∀ sz : Nat, Met l y (.code y b n rt :: Gw) (rmc fr mc ms lo) (PC g av wc sz) (QC g post wc sz) mc ms (va_A wc sz)
def QV (y : MethodName) (b : ByteArray) (n : Nat) (rt : Option FieldType) (k : Nat) : Prop :=
  (y.cls ≠ "java/lang/invoke/MethodHandle" ∧ y.cls ≠ "java/lang/invoke/VarHandle" ∧ (parseMethodDescriptor y.desc).map (fun d => d.parameters.length) = some k) ∧ Cond.instanceMethod y ∈ Gw ∧ Cond.selects y.cls y y ∈ Gw ∧ Cond.initialized y.cls ∈ Gw ∧ Cond.code y b n rt ∈ Gw
def QS (y : MethodName) (b : ByteArray) (n : Nat) (rt : Option FieldType) (k : Nat) : Prop :=
  (y.cls ≠ "java/lang/invoke/MethodHandle" ∧ y.cls ≠ "java/lang/invoke/VarHandle" ∧ (parseMethodDescriptor y.desc).map (fun d => d.parameters.length) = some k) ∧ Cond.static y ∈ Gw ∧ Cond.initialized y.cls ∈ Gw ∧ Cond.code y b n rt ∈ Gw
theorem pc_blindR {g : GG} {av : List Value} {wc : va_W} : FrameBlind (va_Pc av (fun U => PP g wc U.heap ∧ KK g U)) := fun a U gf mk q => by
  obtain ⟨q0, qP, qK⟩ := q
  exact ⟨q0, qP, qK.call⟩
theorem pc_blindC {g : GG} {av : List Value} {wc : va_W} {sz : Nat} : FrameBlind (PC g av wc sz) := fun a U gf mk q => by
  obtain ⟨q0, q1, qP, qK, qD⟩ := q
  exact ⟨q0, q1, qP, qK.call, qD⟩
theorem gw_code {y : MethodName} {b : ByteArray} {n : Nat} {rt : Option FieldType} (h : Cond.code y b n rt ∈ Gw) {pre : List Cond} (hp : ∀ w ∈ pre, w ∈ Gw) : ∀ w ∈ pre ++ (Cond.code y b n rt :: Gw), w ∈ Gw := fun w hw => by
  rcases List.mem_append.mp hw with h1 | h1
  · exact hp w h1
  · rcases List.mem_cons.mp h1 with h2 | h2
    · rw [h2]; exact h
    · exact h2
theorem gw_V {own : String} {idx : Nat} {y : MethodName} {b : ByteArray} {n k : Nat} {rt : Option FieldType} (hl : Cond.methodLink own idx y ∈ Gw) (q : QV y b n rt k) : GoodIn Gw (wsV own idx y.cls y (.code y b n rt :: Gw)) := gw_in (gw_code q.2.2.2.2 (by
  intro w hw
  simp only [List.mem_cons, List.not_mem_nil, or_false] at hw
  rcases hw with rfl | rfl | rfl | rfl
  · exact hl
  · exact q.2.1
  · exact q.2.2.1
  · exact q.2.2.2.1))
theorem gw_S {own : String} {idx : Nat} {y : MethodName} {b : ByteArray} {n k : Nat} {rt : Option FieldType} (hl : Cond.methodLink own idx y ∈ Gw) (q : QS y b n rt k) : GoodIn Gw (va_wsS own idx y (.code y b n rt :: Gw)) := gw_in (gw_code q.2.2.2 (by
  intro w hw
  simp only [List.mem_cons, List.not_mem_nil, or_false] at hw
  rcases hw with rfl | rfl | rfl
  · exact hl
  · exact q.2.1
  · exact q.2.2.1))

end
section
variable {p : Program} {l : Launch} {e : Env} {R : Room} {s : State} {m : MethodId} {args : Array Value} {below : List Frame} {meth : Method} {c : Code} {H H0 : Heap} {locs : List Loc} {cells slots pc nL mc ms fr lo n k idx : Nat} {Q : State → Prop} {ls : Array Slot} {st rest As av : List Value} {cc b : ByteArray} {A free : Nat → Prop} {ws wc wr : va_W} {a : Nat} {g : GG} {own C : String} {y : MethodName} {rt rt' : Option FieldType} {v : Option Value} {post : Option Value → va_W → Prop}
/-- behind a call that reads alone -/
theorem k_r (hr : va_Run p l e R s m args below meth c H locs cells slots 0 0 (F0 m pc ls st) rest (fun st o t => o = .returned v ∧ t.heap = st.heap) (fun _ => False)) (kk : W p l e R s m args below meth c H locs cells slots Q (F0 m (pc + 3) ls (v.toList ++ rest))) : W p l e R s m args below meth c H locs cells slots Q (F0 m pc ls st) := by
  intro T hT X
  obtain ⟨v1, st₀, t, T', L, h0, X', hL, e1, e2, ⟨hv, hh⟩, stp⟩ := hr T hT X
  cases hv
  have hL0 : L = [] := by
    cases L with
    | nil => rfl
    | cons q L => exact absurd (hL q List.mem_cons_self) id
  subst hL0
  rw [List.append_nil] at X'
  obtain ⟨t2, a1, b1⟩ := kk T' (by rw [e1, hh, h0]) X'
  exact ⟨t2, stp t2 a1, b1⟩
/-- behind a call that writes: what came back beside the rest -/
theorem k_c {args0 : Array Value} (hr : va_Run p l e R s m args below meth c H locs cells slots mc ms (F0 m pc ls st) rest (QC g post wc H.size args0) (va_A wc H.size)) (hw : WD g A H0 ws H locs) (hA : ∀ q, H0.size ≤ q → A q) (isC isR : List Nat) (hC : isC.map (fun i => ws[i]?) = wc.map some) (hR : isR.map (fun i => ws[i]?) = wr.map some) (hn : va_nd isR = true) (hdis : ∀ i ∈ isR, i ∉ isC)
    (kk : ∀ (v : Option Value) (w1 : va_W) (H1 : Heap) (locs1 : List Loc), post v w1 → WD g A H0 (wr ++ w1) H1 locs1 → W p l e R s m args below meth c H1 locs1 (cells + mc) (slots + ms) Q (F0 m (pc + 3) ls (v.toList ++ rest))) : W p l e R s m args below meth c H locs cells slots Q (F0 m pc ls st) := by
  intro T hT X
  obtain ⟨v1, st₀, t, T', L, h0, X', hL, e1, e2, ⟨v, w1, hv, hp, hP1, hD1, hz, hk⟩, stp⟩ := hr T hT X
  cases hv
  rw [h0] at hz hk
  obtain ⟨hP, hD, hS⟩ := hw
  have hF := va_free (wc := wc) hD hS hA isC hC
  obtain ⟨hP2, hD2⟩ := va_join (wr := wr) (w1 := w1) hP hD isC isR hC hR hn hdis (H1 := t.heap) hk hF hP1 hD1
  have hS2 : va_S A H0 t.heap (locs ++ L) := ⟨Nat.le_trans hS.1 hz, fun q h1 h2 => by rw [hk q (Nat.lt_of_lt_of_le h1 hS.1) (fun z => h2 (hF q z))]; exact hS.2.1 q h1 h2, fun q hq => by
      rcases List.mem_append.mp hq with h | h
      · exact hS.2.2 q h
      · exact hF _ (hL q h)⟩
  obtain ⟨t2, a1, b1⟩ := kk v1 w1 t.heap (locs ++ L) hp ⟨hP2, hD2, hS2⟩ T' e1 X'
  exact ⟨t2, stp t2 a1, b1⟩
theorem cx_fix (F : CX p s m args meth c cc rt nL own) : CallFix p m c cc nL s args Gw own := ⟨F.1, F.2.1, F.2.2.2.1, F.2.2.2.2.1, F.2.2.2.2.2.1⟩
/-- invokevirtual of a method of the receiver's own class -/
theorem k_rV (F : CX p s m args meth c cc rt nL own) (hM : MR l g y b n rt' fr lo (.ref a :: As) wc v) (q : QV y b n rt' k) (hl : Cond.methodLink own idx y ∈ Gw) (hP : PP g wc H) (hK : KK g s) (hrc : ∃ cell : Cell, H[a]? = some cell ∧ cell.vm.isStatics = false ∧ s.vm.findClass y.cls = some cell.cls) (hn : As.length = k) (hsz : ls.size = nL) (hst : st = As.reverse ++ .ref a :: rest) (hW : (rest.map fun v => v.category).sum ≤ 8) (hd : decode cc pc = .ok (.invokevirtual idx, 3)) (hR : fr + 1 ≤ R.frames ∧ 8 + (n + 11) + lo ≤ R.locals) (hf : cells ≤ R.cells ∧ slots ≤ R.slots)
    (kk : W p l e R s m args below meth c H locs cells slots Q (F0 m (pc + 3) ls (v.toList ++ rest))) : W p l e R s m args below meth c H locs cells slots Q (F0 m pc ls st) :=
  k_r (va_runV (g := F0 m pc ls st) (cx_fix F) hM (cwV k F.2.2.2.2.2.1 (gw_V hl q) rfl rfl rfl ⟨rfl, q.1⟩ hR) ⟨pc_blindR, hrc, fun U hU hW => ⟨rfl, by rw [hU]; exact hP, hK.warm hW⟩⟩ rfl hn hsz hst (lv_room hW) hd hf) kk
theorem k_cV (F : CX p s m args meth c cc rt nL own) (hM : MC l g y b n rt' fr lo mc ms (.ref a :: As) wc post) (q : QV y b n rt' k) (hl : Cond.methodLink own idx y ∈ Gw) (hw : WD g A H0 ws H locs) (hA : ∀ q, H0.size ≤ q → A q) (hK : KK g s) (isC isR : List Nat) (hC : isC.map (fun i => ws[i]?) = wc.map some) (hCn : va_nd isC = true) (hCf : isC.filterMap (fun i => ws[i]?) = wc) (hRr : isR.map (fun i => ws[i]?) = wr.map some) (hnd : va_nd isR = true) (hdis : ∀ i ∈ isR, i ∉ isC) (hrc : ∃ cell : Cell, H[a]? = some cell ∧ cell.vm.isStatics = false ∧ s.vm.findClass y.cls = some cell.cls) (hn : As.length = k) (hsz : ls.size = nL) (hst : st = As.reverse ++ .ref a :: rest) (hW : (rest.map fun v => v.category).sum ≤ 8) (hd : decode cc pc = .ok (.invokevirtual idx, 3)) (hR : fr + 1 ≤ R.frames ∧ 8 + (n + 11) + lo ≤ R.locals) (hf : cells + mc ≤ R.cells ∧ slots + ms ≤ R.slots)
    (kk : ∀ (v : Option Value) (w1 : va_W) (H1 : Heap) (locs1 : List Loc), post v w1 → WD g A H0 (wr ++ w1) H1 locs1 → W p l e R s m args below meth c H1 locs1 (cells + mc) (slots + ms) Q (F0 m (pc + 3) ls (v.toList ++ rest))) : W p l e R s m args below meth c H locs cells slots Q (F0 m pc ls st) :=
  k_c (va_runV (g := F0 m pc ls st) (cx_fix F) (hM H.size) (cwV k F.2.2.2.2.2.1 (gw_V hl q) rfl rfl rfl ⟨rfl, q.1⟩ hR) ⟨pc_blindC, hrc, fun U hU hW => ⟨rfl, by rw [hU], by rw [hU]; exact hw.1.sub isC hCf, hK.warm hW, (hw.2.1.sub isC hCn hC).weaken (fun _ _ _ _ => trivial)⟩⟩ rfl hn hsz hst (lv_room hW) hd hf) hw hA isC isR hC hRr hnd hdis kk
/-- invokestatic -/
theorem k_rS (F : CX p s m args meth c cc rt nL own) (hM : MR l g y b n rt' fr lo As wc v) (q : QS y b n rt' k) (hl : Cond.methodLink own idx y ∈ Gw) (hP : PP g wc H) (hK : KK g s) (hn : As.length = k) (hsz : ls.size = nL) (hst : st = As.reverse ++ rest) (hW : (rest.map fun v => v.category).sum ≤ 8) (hd : decode cc pc = .ok (.invokestatic idx, 3)) (hR : fr + 1 ≤ R.frames ∧ 8 + (n + 11) + lo ≤ R.locals) (hf : cells ≤ R.cells ∧ slots ≤ R.slots)
    (kk : W p l e R s m args below meth c H locs cells slots Q (F0 m (pc + 3) ls (v.toList ++ rest))) : W p l e R s m args below meth c H locs cells slots Q (F0 m pc ls st) :=
  k_r (va_runS (g := F0 m pc ls st) (cx_fix F) hM (va_cwS k F.2.2.2.2.2.1 (gw_S hl q) rfl rfl rfl q.1 hR) ⟨pc_blindR, fun U hU hW => ⟨rfl, by rw [hU]; exact hP, hK.warm hW⟩⟩ rfl hn hsz hst (lv_room hW) hd hf) kk
/-- a body that reads alone -/
theorem MR.mk (hy : plainName y.cls = true) (hn : (lg_sl av).length ≤ n)
    (body : ∀ (p : Program) (e : Env) (s : State) (m : MethodId) (args : Array Value) (below : List Frame) (meth : Method) (c : Code) (ls : Array Slot) (Q : State → Prop), CX p s m args meth c b rt n y.cls → KK g s → PP g wc s.heap → lv_has ls n (lv_args 0 av) → Q = MQ below (fun _ st o t => o = .returned v ∧ t.heap = st.heap) args s 0 0 (fun _ => False) → W p l e (rmc fr 0 0 lo) s m args below meth c s.heap [] 0 0 Q (F0 m 0 ls [])) : MR l g y b n rt fr lo av wc v := by
  refine Met.ofW (cc := b) (maxL := n) (ret := rt) hy rfl ?_
  intro p e s m args below meth c s₁ B hml hv
  obtain ⟨rfl, hP, hK⟩ := hv
  have hl := lv_entry av (n := n) hn
  rw [lg_entry_eq]
  have hts := atoms_spec (ws := (.code y b n rt :: Gw)) B.pre
  exact body p e s m _ below meth c _ _ ⟨B.exec, B.bytes, B.returns, hml, findClass_of_methodNamed B.named, fun w hw => hts w (List.mem_cons_of_mem _ hw), B.notSynchronized⟩ hK hP hl rfl
theorem r_ri {r x : Int32} (F : CX p s m args meth c b (some .int) nL own) (hQ : Q = MQ below (fun _ st o t => o = .returned (some (.int r)) ∧ t.heap = st.heap) args s 0 0 (fun _ => False)) (h : x = r) (hd : decode b pc = .ok (.ireturn, 1)) : W p l e R s m args below meth c s.heap [] 0 0 Q (F0 m pc ls [.int x]) := by
  have hlk := F.2.2.2.2.2.2
  subst h; subst hQ
  exact W.iret F.1 F.2.1 F.2.2.1 (fun t ht hW => ⟨rfl, ht⟩) (fun _ h => by cases h) hd
theorem r_rz {r x : Int32} (F : CX p s m args meth c b (some .boolean) nL own) (hQ : Q = MQ below (fun _ st o t => o = .returned (some (.int r)) ∧ t.heap = st.heap) args s 0 0 (fun _ => False)) (hz : x = 0 ∨ x = 1) (h : x = r) (hd : decode b pc = .ok (.ireturn, 1)) : W p l e R s m args below meth c s.heap [] 0 0 Q (F0 m pc ls [.int x]) := by
  have hlk := F.2.2.2.2.2.2
  subst h; subst hQ
  exact W.zret F.1 F.2.1 F.2.2.1 (by rcases hz with h | h <;> subst h <;> rfl) (fun t ht hW => ⟨rfl, ht⟩) (fun _ h => by cases h) hd
/-- a body that writes -/
theorem MC.mk (hy : plainName y.cls = true) (hn : (lg_sl av).length ≤ n)
    (body : ∀ (p : Program) (e : Env) (s : State) (m : MethodId) (args : Array Value) (below : List Frame) (meth : Method) (c : Code) (ls : Array Slot) (Q : State → Prop) (A : Nat → Prop), CX p s m args meth c b rt n y.cls → meth.name = y.name → KK g s → WD g A s.heap wc s.heap [] → (∀ q, s.heap.size ≤ q → A q) → lv_has ls n (lv_args 0 av) → (Q = MQ below (QC g post wc s.heap.size) args s mc ms (va_A wc s.heap.size) ∧ A = va_A wc s.heap.size) → W p l e (rmc fr mc ms lo) s m args below meth c s.heap [] 0 0 Q (F0 m 0 ls [])) : MC l g y b n rt fr lo mc ms av wc post := by
  intro sz
  refine Met.ofW (cc := b) (maxL := n) (ret := rt) hy rfl ?_
  intro p e s m args below meth c s₁ B hml hv
  obtain ⟨rfl, hsz, hP, hK, hD⟩ := hv
  subst hsz
  have hl := lv_entry av (n := n) hn
  rw [lg_entry_eq]
  have hts := atoms_spec (ws := (.code y b n rt :: Gw)) B.pre
  exact body p e s m _ below meth c _ _ _ ⟨B.exec, B.bytes, B.returns, hml, findClass_of_methodNamed B.named, fun w hw => hts w (List.mem_cons_of_mem _ hw), B.notSynchronized⟩ (name_of_methodNamed B.named B.method).1 hK ⟨hP, hD.self, va_S.rf⟩ (fun q h => Or.inr h) hl ⟨rfl, rfl⟩
theorem r_ci {x : Int32} {w1 : va_W} (F : CX p s m args meth c b (some .int) nL own) (hQ : Q = MQ below (QC g post wc s.heap.size) args s mc ms (va_A wc s.heap.size) ∧ A = va_A wc s.heap.size) (h : post (some (.int x)) w1) (hw : WD g A s.heap w1 H locs) (hd : decode b pc = .ok (.ireturn, 1)) : W p l e R s m args below meth c H locs mc ms Q (F0 m pc ls [.int x]) := by
  have hlk := F.2.2.2.2.2.2
  obtain ⟨rfl, rfl⟩ := hQ
  exact W.iret F.1 F.2.1 F.2.2.1 (fun t ht hW => ⟨_, w1, rfl, h, by rw [ht]; exact hw.1, hw.2.1, hw.2.2.F ht⟩) hw.2.2.2.2 hd
theorem r_cz {x : Int32} {w1 : va_W} (F : CX p s m args meth c b (some .boolean) nL own) (hQ : Q = MQ below (QC g post wc s.heap.size) args s mc ms (va_A wc s.heap.size) ∧ A = va_A wc s.heap.size) (hz : x = 0 ∨ x = 1) (h : post (some (.int x)) w1) (hw : WD g A s.heap w1 H locs) (hd : decode b pc = .ok (.ireturn, 1)) : W p l e R s m args below meth c H locs mc ms Q (F0 m pc ls [.int x]) := by
  have hlk := F.2.2.2.2.2.2
  obtain ⟨rfl, rfl⟩ := hQ
  exact W.zret F.1 F.2.1 F.2.2.1 (by rcases hz with h | h <;> subst h <;> rfl) (fun t ht hW => ⟨_, w1, rfl, h, by rw [ht]; exact hw.1, hw.2.1, hw.2.2.F ht⟩) hw.2.2.2.2 hd
theorem r_cl {x : Int64} {w1 : va_W} (F : CX p s m args meth c b (some .long) nL own) (hQ : Q = MQ below (QC g post wc s.heap.size) args s mc ms (va_A wc s.heap.size) ∧ A = va_A wc s.heap.size) (h : post (some (.long x)) w1) (hw : WD g A s.heap w1 H locs) (hd : decode b pc = .ok (.lreturn, 1)) : W p l e R s m args below meth c H locs mc ms Q (F0 m pc ls [.long x]) := by
  have hlk := F.2.2.2.2.2.2
  obtain ⟨rfl, rfl⟩ := hQ
  exact W.lret F.1 F.2.1 F.2.2.1 (fun t ht hW => ⟨_, w1, rfl, h, by rw [ht]; exact hw.1, hw.2.1, hw.2.2.F ht⟩) hw.2.2.2.2 hd
theorem r_cv {w1 : va_W} (F : CX p s m args meth c b none nL own) (hQ : Q = MQ below (QC g post wc s.heap.size) args s mc ms (va_A wc s.heap.size) ∧ A = va_A wc s.heap.size) (h : post none w1) (hw : WD g A s.heap w1 H locs) (hd : decode b pc = .ok (.return_, 1)) : W p l e R s m args below meth c H locs mc ms Q (F0 m pc ls []) := by
  have hlk := F.2.2.2.2.2.2
  obtain ⟨rfl, rfl⟩ := hQ
  exact W.vret F.1 F.2.1 F.2.2.1 (fun t ht hW => ⟨_, w1, rfl, h, by rw [ht]; exact hw.1, hw.2.1, hw.2.2.F ht⟩) hw.2.2.2.2 hd
end
