section
theorem w_oi : Cond.instanceMethod objectInit ∈ Gw := gw_1 (List.mem_of_getElem? (i := 27) rfl) rfl
theorem w_oc : Cond.code objectInit ⟨#[0xb1]⟩ 1 none ∈ Gw := gw_1 (List.mem_of_getElem? (i := 28) rfl) rfl
theorem w_ai : Cond.arrayClass .int ∈ Gw := gw_1 (List.mem_of_getElem? (i := 44) rfl) rfl
theorem w_ab : Cond.arrayClass .byte ∈ Gw := gw_2 (List.mem_of_getElem? (i := 122) rfl) rfl
def QI (y : MethodName) (b : ByteArray) (n k : Nat) : Prop := (y.cls ≠ "java/lang/invoke/MethodHandle" ∧ y.cls ≠ "java/lang/invoke/VarHandle" ∧ (parseMethodDescriptor y.desc).map (fun d => d.parameters.length) = some k) ∧ Cond.instanceMethod y ∈ Gw ∧ Cond.initialized y.cls ∈ Gw ∧ Cond.code y b n none ∈ Gw ∧ y.name = "<init>"
end
section
variable {p : Program} {l : Launch} {e : Env} {R : Room} {s : State} {m : MethodId} {args : Array Value} {below : List Frame} {meth : Method} {c : Code} {H H0 : Heap} {locs : List Loc} {cells slots pc nL mc ms fr lo n k idx ci N : Nat} {Q : State → Prop} {ls : Array Slot} {st rest As av fs : List Value} {cc b : ByteArray} {A free : Nat → Prop} {ws wc wr ws' w1 : va_W} {a : Nat} {g : GG} {own C ref : String} {T : u_T} {ty0 : Nat → FieldType} {y : MethodName} {rt rt' : Option FieldType} {v : Option Value} {post : Option Value → va_W → Prop}
theorem w_obj (F : CX p s m args meth c cc rt nL own) (hl : Cond.methodLink own idx objectInit ∈ Gw) (hsz : ls.size = nL) (hd : decode cc pc = .ok (.invokespecial idx, 3)) (hR1 : 1 ≤ R.frames) (hR2 : 12 ≤ R.locals) (kk : W p l e R s m args below meth c H locs cells slots Q (F0 m (pc + 3) ls [])) : W p l e R s m args below meth c H locs cells slots Q (F0 m pc ls [.ref a]) := by
  have hts := F.2.2.2.2.2.1
  exact W.objInit F.1 F.2.1 F.2.2.2.2.1 (hts _ hl) (hts _ w_oi) (hts _ w_oc) rfl (by rw [F.2.2.2.1]; exact hsz) rfl hd hR1 hR2 kk
theorem w_new (F : CX p s m args meth c cc rt nL own) (hK : KK g s) (hw : WD g A H0 ws H locs) (hA : ∀ q, H0.size ≤ q → A q) (fb : FB C T N ty0) (hc : vcl[ci]? = some (C, T, N)) (hcl : Cond.classLink own idx C ∈ Gw) (hin : Cond.instantiable C N ∈ Gw) (hini : Cond.initialized C ∈ Gw) (hfs : ∀ j, j < N → defaultValue (ty0 j) = vp_V fs j) (hcells : cells + 1 ≤ R.cells) (hslots : slots + N ≤ R.slots) (hd : decode cc pc = .ok (.new idx, 3))
    (kk : ∀ (q : Nat) (H1 : Heap), WD g A H0 (ws ++ [(q, .inr (ci, fs))]) H1 locs → W p l e R s m args below meth c H1 locs (cells + 1) (slots + N) Q (F0 m (pc + 3) ls (.ref q :: rest))) : W p l e R s m args below meth c H locs cells slots Q (F0 m pc ls rest) := by
  have hts := F.2.2.2.2.2.1
  exact va_new F.1 F.2.1 hts fb.1 ty0 fb.2.1 F.2.2.2.2.1 (hts _ hcl) (hts _ hin) (hts _ hini) hK.1 hw.1 hw.2.1 hw.2.2 hA hc hfs hcells hslots hd (fun q H1 a1 a2 a3 => kk q H1 ⟨a1, a2, a3⟩)
theorem w_newi (F : CX p s m args meth c cc rt nL own) (hK : KK g s) (hw : WD g A H0 ws H locs) (hA : ∀ q, H0.size ≤ q → A q) {n : Int32} {N : Nat} (hn : ¬ n < 0) (hN : n.toNatClampNeg = N) (hb4 : N * 4 ≤ 536870912) (hcells : cells + 1 ≤ R.cells) (hslots : slots + N ≤ R.slots) (hd : decode cc pc = .ok (.newarray .int, 2))
    (kk : ∀ (q : Nat) (H1 : Heap), WD g A H0 (ws ++ [ia g q N (fun _ => 0)]) H1 locs → W p l e R s m args below meth c H1 locs (cells + 1) (slots + N) Q (F0 m (pc + 2) ls (.ref q :: rest))) : W p l e R s m args below meth c H locs cells slots Q (F0 m pc ls (.int n :: rest)) := by
  have hts := F.2.2.2.2.2.1
  refine va_newa (atype := .int) (a0 := (N, .inl (fun _ => 0))) F.1 F.2.1 (hts _ w_ai) rfl hK.1 hw.1 hw.2.1 hw.2.2 hA (fun cA => rfl) hn hN hb4 hcells hslots hd (fun q cA H1 hK1 a1 a2 a3 => ?_)
  have e1 := (hK1.2 3 (cA, .int) rfl).2
  have e2 := (hK.1.2 0 (g.2.1, .int) rfl).2
  have e3 : cA = g.2.1 := Option.some.inj (e1.symm.trans e2)
  subst e3
  exact kk q H1 ⟨a1, a2, a3⟩
theorem w_newb (F : CX p s m args meth c cc rt nL own) (hK : KK g s) (hw : WD g A H0 ws H locs) (hA : ∀ q, H0.size ≤ q → A q) {n : Int32} {N : Nat} (hn : ¬ n < 0) (hN : n.toNatClampNeg = N) (hb4 : N * 1 ≤ 536870912) (hcells : cells + 1 ≤ R.cells) (hslots : slots + N ≤ R.slots) (hd : decode cc pc = .ok (.newarray .byte, 2))
    (kk : ∀ (q : Nat) (H1 : Heap), WD g A H0 (ws ++ [ba g q N (fun _ => 0)]) H1 locs → W p l e R s m args below meth c H1 locs (cells + 1) (slots + N) Q (F0 m (pc + 2) ls (.ref q :: rest))) : W p l e R s m args below meth c H locs cells slots Q (F0 m pc ls (.int n :: rest)) := by
  have hts := F.2.2.2.2.2.1
  refine va_newa (atype := .byte) (a0 := (N, .inl (fun _ => 0))) F.1 F.2.1 (hts _ w_ab) rfl hK.1 hw.1 hw.2.1 hw.2.2 hA (fun cA => rfl) hn hN hb4 hcells hslots hd (fun q cA H1 hK1 a1 a2 a3 => ?_)
  have e1 := (hK1.2 3 (cA, .byte) rfl).2
  have e2 := (hK.1.2 1 (g.2.2.1, .byte) rfl).2
  have e3 : cA = g.2.2.1 := Option.some.inj (e1.symm.trans e2)
  subst e3
  exact kk q H1 ⟨a1, a2, a3⟩
theorem w_newq (F : CX p s m args meth c cc rt nL own) (hK : KK g s) (hw : WD g A H0 ws H locs) (hA : ∀ q, H0.size ≤ q → A q) (hcl : Cond.classLink own idx RX0 ∈ Gw) {n : Int32} {N : Nat} (hn : ¬ n < 0) (hN : n.toNatClampNeg = N) (hb4 : N * 4 ≤ 536870912) (hcells : cells + 1 ≤ R.cells) (hslots : slots + N ≤ R.slots) (hd : decode cc pc = .ok (.anewarray idx, 3))
    (kk : ∀ (q : Nat) (H1 : Heap), WD g A H0 (ws ++ [ra g q N (fun _ => none)]) H1 locs → W p l e R s m args below meth c H1 locs (cells + 1) (slots + N) Q (F0 m (pc + 3) ls (.ref q :: rest))) : W p l e R s m args below meth c H locs cells slots Q (F0 m pc ls (.int n :: rest)) := by
  have hts := F.2.2.2.2.2.1
  refine va_newq F.1 F.2.1 F.2.2.2.2.1 (hts _ hcl) hK.2.2.2.2 hK.1 hw.1 hw.2.1 hw.2.2 hA hn hN hb4 hcells hslots hd (fun q cA H1 hK1 a1 a2 a3 => ?_)
  obtain ⟨k1, c1, -, -, -, e1⟩ := (hK1.2 3 (cA, .object RX0) rfl).2
  obtain ⟨k2, c2, -, -, -, e2⟩ := (hK.1.2 2 (g.2.2.2, .object RX0) rfl).2
  have e3 : cA = g.2.2.2 := Option.some.inj (e1.symm.trans e2)
  subst e3
  exact kk q H1 ⟨a1, a2, a3⟩
theorem w_putF (F : CX p s m args meth c cc rt nL own) (hnm : meth.name = "<init>") (hK : KK g s) (hw : WD g A H0 ws H locs) (fb : FB C T N ty0) (q0 : Nat) (he : ws[q0]? = some (a, .inr (ci, fs))) (hc : vcl[ci]? = some (C, T, N)) (k : Nat) (hk : k < N) (hl : Cond.fieldLink own idx ref (T k).2.1 (T k).2.2.1 ∈ Gw) (hsame : ∀ x, s.fieldFound? (T k).1 (T k).2.1 (T k).2.2.1 = some x → s.fieldFound? ref (T k).2.1 (T k).2.2.1 = some x) (hfin : (T k).2.2.2 = true) (hdecl : (T k).1 = own) {v : Value} {ty : FieldType} (hd0 : ty0 k = ty) (hn : narrow ty v = v) (hfit : fits ty v = true) (hlen : k < fs.length) (hws : ws.set q0 (a, .inr (ci, fs.set k v)) = ws') (hd : decode cc pc = .ok (.putfield idx, 3))
    (kk : ∀ (H1 : Heap) (locs1 : List Loc), WD g A H0 ws' H1 locs1 → W p l e R s m args below meth c H1 locs1 cells slots Q (F0 m (pc + 3) ls rest)) : W p l e R s m args below meth c H locs cells slots Q (F0 m pc ls (v :: .ref a :: rest)) := by
  subst hws
  subst hd0
  exact va_putF F.1 F.2.1 F.2.2.2.2.2.1 fb.1 ty0 fb.2.1 fb.2.2 F.2.2.2.2.1 hK.1 hw.1 hw.2.1 hw.2.2 q0 he hc k hk (F.2.2.2.2.2.1 _ hl) hsame hfin hnm hdecl (fb.2.1 k hk) hn hfit hlen hd (fun H1 locs1 a1 a2 a3 => kk H1 locs1 ⟨a1, a2, a3⟩)
/-- invokespecial of a constructor -/
theorem k_cI (F : CX p s m args meth c cc rt nL own) (hM : MC l g y b n none fr lo mc ms (.ref a :: As) wc post) (q : QI y b n k) (hl : Cond.methodLink own idx y ∈ Gw) (hw : WD g A H0 ws H locs) (hA : ∀ q, H0.size ≤ q → A q) (hK : KK g s) (isC isR : List Nat) (hC : isC.map (fun i => ws[i]?) = wc.map some) (hCn : va_nd isC = true) (hCf : isC.filterMap (fun i => ws[i]?) = wc) (hRr : isR.map (fun i => ws[i]?) = wr.map some) (hnd : va_nd isR = true) (hdis : ∀ i ∈ isR, i ∉ isC) (hn : As.length = k) (hsz : ls.size = nL) (hst : st = As.reverse ++ .ref a :: rest) (hW : (rest.map fun v => v.category).sum ≤ 8) (hd : decode cc pc = .ok (.invokespecial idx, 3)) (hR : fr + 1 ≤ R.frames ∧ 8 + (n + 11) + lo ≤ R.locals) (hf : cells + mc ≤ R.cells ∧ slots + ms ≤ R.slots)
    (kk : ∀ (v : Option Value) (w1 : va_W) (H1 : Heap) (locs1 : List Loc), post v w1 → WD g A H0 (wr ++ w1) H1 locs1 → W p l e R s m args below meth c H1 locs1 (cells + mc) (slots + ms) Q (F0 m (pc + 3) ls (v.toList ++ rest))) : W p l e R s m args below meth c H locs cells slots Q (F0 m pc ls st) := by
  have hts := F.2.2.2.2.2.1
  exact k_c (va_runI (g := F0 m pc ls st) (cx_fix F) (hM H.size) (cwI k hts (gw_in (gw_code (pre := []) q.2.2.2.1 (fun _ h => absurd h List.not_mem_nil))) rfl rfl rfl (hts _ q.2.2.1) (hts _ hl) (hts _ q.2.1) q.2.2.2.2 q.1 hR) ⟨pc_blindC, fun U hU hW => ⟨rfl, by rw [hU], by rw [hU]; exact hw.1.sub isC hCf, hK.warm hW, (hw.2.1.sub isC hCn hC).weaken (fun _ _ _ _ => trivial)⟩⟩ rfl hn hsz hst (lv_room hW) hd hf) hw hA isC isR hC hRr hnd hdis kk
theorem k_cIN {host : String} (F : CX p s m args meth c cc rt nL own) (hM : MC l g y b n none fr lo mc ms (.ref a :: As) wc post) (q : QI y b n k) (hl : va_Nw (.methodLinkNest own idx y host) s) (hw : WD g A H0 ws H locs) (hA : ∀ q, H0.size ≤ q → A q) (hK : KK g s) (isC isR : List Nat) (hC : isC.map (fun i => ws[i]?) = wc.map some) (hCn : va_nd isC = true) (hCf : isC.filterMap (fun i => ws[i]?) = wc) (hRr : isR.map (fun i => ws[i]?) = wr.map some) (hnd : va_nd isR = true) (hdis : ∀ i ∈ isR, i ∉ isC) (hn : As.length = k) (hsz : ls.size = nL) (hst : st = As.reverse ++ .ref a :: rest) (hW : (rest.map fun v => v.category).sum ≤ 8) (hd : decode cc pc = .ok (.invokespecial idx, 3)) (hR : fr + 1 ≤ R.frames ∧ 8 + (n + 11) + lo ≤ R.locals) (hf : cells + mc ≤ R.cells ∧ slots + ms ≤ R.slots)
    (kk : ∀ (v : Option Value) (w1 : va_W) (H1 : Heap) (locs1 : List Loc), post v w1 → WD g A H0 (wr ++ w1) H1 locs1 → W p l e R s m args below meth c H1 locs1 (cells + mc) (slots + ms) Q (F0 m (pc + 3) ls (v.toList ++ rest))) : W p l e R s m args below meth c H locs cells slots Q (F0 m pc ls st) := by
  have hts := F.2.2.2.2.2.1
  exact k_c (va_runIN (g := F0 m pc ls st) (cx_fix F) (hM H.size) ⟨va_cnB k hts (gw_in (gw_code (pre := []) q.2.2.2.1 (fun _ h => absurd h List.not_mem_nil))) rfl rfl rfl hl (hts _ q.2.2.1) q.1 hR, q.2.2.2.2, hts _ q.2.1⟩ ⟨pc_blindC, fun U hU hW => ⟨rfl, by rw [hU], by rw [hU]; exact hw.1.sub isC hCf, hK.warm hW, (hw.2.1.sub isC hCn hC).weaken (fun _ _ _ _ => trivial)⟩⟩ rfl hn hsz hst (lv_room hW) hd hf) hw hA isC isR hC hRr hnd hdis kk
/-- invokestatic of a method that writes -/
theorem k_cS (F : CX p s m args meth c cc rt nL own) (hM : MC l g y b n rt' fr lo mc ms As wc post) (q : QS y b n rt' k) (hl : Cond.methodLink own idx y ∈ Gw) (hw : WD g A H0 ws H locs) (hA : ∀ q, H0.size ≤ q → A q) (hK : KK g s) (isC isR : List Nat) (hC : isC.map (fun i => ws[i]?) = wc.map some) (hCn : va_nd isC = true) (hCf : isC.filterMap (fun i => ws[i]?) = wc) (hRr : isR.map (fun i => ws[i]?) = wr.map some) (hnd : va_nd isR = true) (hdis : ∀ i ∈ isR, i ∉ isC) (hn : As.length = k) (hsz : ls.size = nL) (hst : st = As.reverse ++ rest) (hW : (rest.map fun v => v.category).sum ≤ 8) (hd : decode cc pc = .ok (.invokestatic idx, 3)) (hR : fr + 1 ≤ R.frames ∧ 8 + (n + 11) + lo ≤ R.locals) (hf : cells + mc ≤ R.cells ∧ slots + ms ≤ R.slots)
    (kk : ∀ (v : Option Value) (w1 : va_W) (H1 : Heap) (locs1 : List Loc), post v w1 → WD g A H0 (wr ++ w1) H1 locs1 → W p l e R s m args below meth c H1 locs1 (cells + mc) (slots + ms) Q (F0 m (pc + 3) ls (v.toList ++ rest))) : W p l e R s m args below meth c H locs cells slots Q (F0 m pc ls st) :=
  k_c (va_runS (g := F0 m pc ls st) (cx_fix F) (hM H.size) (va_cwS k F.2.2.2.2.2.1 (gw_S hl q) rfl rfl rfl q.1 hR) ⟨pc_blindC, fun U hU hW => ⟨rfl, by rw [hU], by rw [hU]; exact hw.1.sub isC hCf, hK.warm hW, (hw.2.1.sub isC hCn hC).weaken (fun _ _ _ _ => trivial)⟩⟩ rfl hn hsz hst (lv_room hW) hd hf) hw hA isC isR hC hRr hnd hdis kk
theorem r_ca {x : Nat} {C : String} {w1 : va_W} (F : CX p s m args meth c b (some (.object C)) nL own) (hQ : Q = MQ below (QC g post wc s.heap.size) args s mc ms (va_A wc s.heap.size) ∧ A = va_A wc s.heap.size) (h : post (some (.ref x)) w1) (hw : WD g A s.heap w1 H locs) (hd : decode b pc = .ok (.areturn, 1)) : W p l e R s m args below meth c H locs mc ms Q (F0 m pc ls [.ref x]) := by
  have hlk := F.2.2.2.2.2.2
  obtain ⟨rfl, rfl⟩ := hQ
  exact W.aret F.1 F.2.1 F.2.2.1 (Or.inl ⟨_, rfl⟩) (Or.inr ⟨_, rfl⟩) (fun t ht hW => ⟨_, w1, rfl, h, by rw [ht]; exact hw.1, hw.2.1, hw.2.2.F ht⟩) hw.2.2.2.2 hd
end
