section
def bnd {α β : Type} (e : α) (k : α → Option β) : Option β := k e
theorem o_bnd {α β : Type} {e x : α} {k : α → Option β} {r : Option β} (hx : x = e) (h : bnd e k = r) : k x = r := by subst hx; exact h
theorem o_chk {α : Type} {c : Prop} {i : Decidable c} {x : Option α} {r : α} (h : (@ite _ c i none x) = some r) : ¬ c ∧ x = some r := by
  by_cases hc : c
  · rw [if_pos hc] at h; cases h
  · rw [if_neg hc] at h; exact ⟨hc, h⟩
theorem o_t {α : Type} {c : Prop} {i : Decidable c} {x y : α} {r : α} (hc : c) (h : (@ite _ c i x y) = r) : x = r := by rw [if_pos hc] at h; exact h
theorem o_f {α : Type} {c : Prop} {i : Decidable c} {x y : α} {r : α} (hc : ¬ c) (h : (@ite _ c i x y) = r) : y = r := by rw [if_neg hc] at h; exact h
theorem o_bind {α β : Type} {o : Option α} {k : α → Option β} {r : β} (h : o.bind k = some r) : ∃ q, o = some q ∧ k q = some r := Option.bind_eq_some_iff.mp h
theorem tI {x v : Int32} {k : Int} (h : ¬ x = v) (hv : v.toInt = k) : x.toInt ≠ k := fun e => h (Int32.toInt_inj.mp (by rw [e, hv]))
abbrev MD (l : Launch) (g : GG) (y : MethodName) (b : ByteArray) (n : Nat) (rt : Option FieldType) (fr lo : Nat) (av : List Value) (wc : va_W) (v : Option Value) (w1 : va_W) : Prop := MC l g y b n rt fr lo 0 0 av wc (fun v' w' => v' = v ∧ w' = w1)
def FB (C : String) (T : u_T) (N : Nat) (ty : Nat → FieldType) : Prop := (∀ w ∈ u_ws C T N, w ∈ Gw) ∧ (∀ k, k < N → parseFieldDescriptor (T k).2.2.1 = some (ty k)) ∧ (∀ a, a < N → ∀ b, b < N → a ≠ b → (T a).2.1 ≠ (T b).2.1)
end
section
variable {p : Program} {l : Launch} {e : Env} {R : Room} {s : State} {m : MethodId} {args : Array Value} {below : List Frame} {meth : Method} {c : Code} {H H0 : Heap} {locs : List Loc} {cells slots pc nL mc ms fr lo n k idx ci N : Nat} {Q : State → Prop} {ls : Array Slot} {st rest As av fs : List Value} {cc b : ByteArray} {A free : Nat → Prop} {ws wc wr ws' w1 : va_W} {a : Nat} {g : GG} {own C ref : String} {T : u_T} {ty0 : Nat → FieldType} {y : MethodName} {rt rt' : Option FieldType} {v : Option Value} {post : Option Value → va_W → Prop}
theorem w_get (F : CX p s m args meth c cc rt nL own) (hK : KK g s) (hP : PP g ws H) (fb : FB C T N ty0) (q0 : Nat) (he : ws[q0]? = some (a, .inr (ci, fs))) (hc : vcl[ci]? = some (C, T, N)) (k : Nat) (hk : k < N) (hl : Cond.fieldLink own idx ref (T k).2.1 (T k).2.2.1 ∈ Gw) (hsame : ∀ x, s.fieldFound? (T k).1 (T k).2.1 (T k).2.2.1 = some x → s.fieldFound? ref (T k).2.1 (T k).2.2.1 = some x) {v : Value} (hv : fs[k]? = some v) (hd : decode cc pc = .ok (.getfield idx, 3))
    (kk : W p l e R s m args below meth c H locs cells slots Q (F0 m (pc + 3) ls (v :: rest))) : W p l e R s m args below meth c H locs cells slots Q (F0 m pc ls (.ref a :: rest)) :=
  va_get F.1 F.2.1 F.2.2.2.2.2.1 fb.1 F.2.2.2.2.1 hK.1 hP q0 he hc k hk (F.2.2.2.2.2.1 _ hl) hsame hv hd kk
theorem w_put (F : CX p s m args meth c cc rt nL own) (hK : KK g s) (hw : WD g A H0 ws H locs) (fb : FB C T N ty0) (q0 : Nat) (he : ws[q0]? = some (a, .inr (ci, fs))) (hc : vcl[ci]? = some (C, T, N)) (k : Nat) (hk : k < N) (hl : Cond.fieldLink own idx ref (T k).2.1 (T k).2.2.1 ∈ Gw) (hsame : ∀ x, s.fieldFound? (T k).1 (T k).2.1 (T k).2.2.1 = some x → s.fieldFound? ref (T k).2.1 (T k).2.2.1 = some x) (hfin : (T k).2.2.2 = false) {v : Value} {ty : FieldType} (hd0 : ty0 k = ty) (hn : narrow ty v = v) (hfit : fits ty v = true) (hlen : k < fs.length) (hws : ws.set q0 (a, .inr (ci, fs.set k v)) = ws') (hd : decode cc pc = .ok (.putfield idx, 3))
    (kk : ∀ (H1 : Heap) (locs1 : List Loc), WD g A H0 ws' H1 locs1 → W p l e R s m args below meth c H1 locs1 cells slots Q (F0 m (pc + 3) ls rest)) : W p l e R s m args below meth c H locs cells slots Q (F0 m pc ls (v :: .ref a :: rest)) := by
  subst hws
  subst hd0
  exact va_put F.1 F.2.1 F.2.2.2.2.2.1 fb.1 ty0 fb.2.1 fb.2.2 F.2.2.2.2.1 hK.1 hw.1 hw.2.1 hw.2.2 q0 he hc k hk (F.2.2.2.2.2.1 _ hl) hsame hfin (fb.2.1 k hk) hn hfit hlen hd (fun H1 locs1 a1 a2 a3 => kk H1 locs1 ⟨a1, a2, a3⟩)
theorem w_iald (F : CX p s m args meth c cc rt nL own) (hK : KK g s) (hP : PP g ws H) (q0 : Nat) {n : Nat} {f : Nat → Int32} (ha : ws[q0]? = some (a, .inl (g.2.1, n, .inl f))) {i : Int32} (hin : ¬ (i < 0 ∨ n ≤ i.toNatClampNeg)) (hd : decode cc pc = .ok (.iaload, 1))
    (kk : W p l e R s m args below meth c H locs cells slots Q (F0 m (pc + 1) ls (.int (f i.toNatClampNeg) :: rest))) : W p l e R s m args below meth c H locs cells slots Q (F0 m pc ls (.int i :: .ref a :: rest)) :=
  va_iald F.1 F.2.1 hK.1 hP q0 0 ha rfl hin hd kk
theorem w_iast (F : CX p s m args meth c cc rt nL own) (hK : KK g s) (hw : WD g A H0 ws H locs) (q0 : Nat) {n : Nat} {f : Nat → Int32} (ha : ws[q0]? = some (a, .inl (g.2.1, n, .inl f))) {i x : Int32} (hin : ¬ (i < 0 ∨ n ≤ i.toNatClampNeg)) (hws : ws.set q0 (a, .inl (g.2.1, n, .inl (upd f i.toNatClampNeg x))) = ws') (hd : decode cc pc = .ok (.iastore, 1))
    (kk : ∀ (H1 : Heap) (locs1 : List Loc), WD g A H0 ws' H1 locs1 → W p l e R s m args below meth c H1 locs1 cells slots Q (F0 m (pc + 1) ls rest)) : W p l e R s m args below meth c H locs cells slots Q (F0 m pc ls (.int x :: .int i :: .ref a :: rest)) := by
  subst hws
  exact va_iast F.1 F.2.1 hK.1 hw.1 hw.2.1 hw.2.2 q0 0 ha rfl hin hd (fun H1 locs1 a1 a2 a3 => kk H1 locs1 ⟨a1, a2, a3⟩)
theorem w_bald (F : CX p s m args meth c cc rt nL own) (hK : KK g s) (hP : PP g ws H) (q0 : Nat) {n : Nat} {f : Nat → Int32} (ha : ws[q0]? = some (a, .inl (g.2.2.1, n, .inl f))) {i : Int32} (hin : ¬ (i < 0 ∨ n ≤ i.toNatClampNeg)) (hd : decode cc pc = .ok (.baload, 1))
    (kk : W p l e R s m args below meth c H locs cells slots Q (F0 m (pc + 1) ls (.int (f i.toNatClampNeg) :: rest))) : W p l e R s m args below meth c H locs cells slots Q (F0 m pc ls (.int i :: .ref a :: rest)) :=
  va_bald F.1 F.2.1 hK.1 hP q0 1 ha rfl hin hd kk
theorem w_bast (F : CX p s m args meth c cc rt nL own) (hK : KK g s) (hw : WD g A H0 ws H locs) (q0 : Nat) {n : Nat} {f : Nat → Int32} (ha : ws[q0]? = some (a, .inl (g.2.2.1, n, .inl f))) {i x : Int32} (hin : ¬ (i < 0 ∨ n ≤ i.toNatClampNeg)) (hws : ws.set q0 (a, .inl (g.2.2.1, n, .inl (upd f i.toNatClampNeg (vp_nar .byte x)))) = ws') (hd : decode cc pc = .ok (.bastore, 1))
    (kk : ∀ (H1 : Heap) (locs1 : List Loc), WD g A H0 ws' H1 locs1 → W p l e R s m args below meth c H1 locs1 cells slots Q (F0 m (pc + 1) ls rest)) : W p l e R s m args below meth c H locs cells slots Q (F0 m pc ls (.int x :: .int i :: .ref a :: rest)) := by
  subst hws
  exact va_bast F.1 F.2.1 hK.1 hw.1 hw.2.1 hw.2.2 q0 1 ha rfl hin hd (fun H1 locs1 a1 a2 a3 => kk H1 locs1 ⟨a1, a2, a3⟩)
/-- a call that leaves a known world, put back in its order -/
theorem k_dV (F : CX p s m args meth c cc rt nL own) (hM : MD l g y b n rt' fr lo (.ref a :: As) wc v w1) (q : QV y b n rt' k) (hl : Cond.methodLink own idx y ∈ Gw) (hw : WD g A H0 ws H locs) (hA : ∀ q, H0.size ≤ q → A q) (hK : KK g s) (isC isR pm : List Nat) (hC : isC.map (fun i => ws[i]?) = wc.map some) (hCn : va_nd isC = true) (hCf : isC.filterMap (fun i => ws[i]?) = wc) (hRr : isR.map (fun i => ws[i]?) = wr.map some) (hnd : va_nd isR = true) (hdis : ∀ i ∈ isR, i ∉ isC) (hp1 : pm.filterMap (fun i => (wr ++ w1)[i]?) = ws') (hp2 : pm.map (fun i => (wr ++ w1)[i]?) = ws'.map some) (hp3 : va_nd pm = true) (hrc : ∃ cell : Cell, H[a]? = some cell ∧ cell.vm.isStatics = false ∧ s.vm.findClass y.cls = some cell.cls) (hn : As.length = k) (hsz : ls.size = nL) (hst : st = As.reverse ++ .ref a :: rest) (hW : (rest.map fun v => v.category).sum ≤ 8) (hd : decode cc pc = .ok (.invokevirtual idx, 3)) (hR : fr + 1 ≤ R.frames ∧ 8 + (n + 11) + lo ≤ R.locals) (hf : cells ≤ R.cells ∧ slots ≤ R.slots)
    (kk : ∀ (H1 : Heap) (locs1 : List Loc), WD g A H0 ws' H1 locs1 → W p l e R s m args below meth c H1 locs1 cells slots Q (F0 m (pc + 3) ls (v.toList ++ rest))) : W p l e R s m args below meth c H locs cells slots Q (F0 m pc ls st) :=
  k_cV F hM q hl hw hA hK isC isR hC hCn hCf hRr hnd hdis hrc hn hsz hst hW hd hR hf (fun v' w' H1 locs1 hpo hw => by
    obtain ⟨rfl, rfl⟩ := hpo
    exact kk H1 locs1 (hw.sub pm hp3 hp1 hp2))
end
