section
theorem lpE {R : Type} (F : Nat → Int32 → Option R) (n : Nat) (p : Nat → Prop) (rT rF : R)
    (hstop : ∀ k, F (k + 1) (nI n) = some rF)
    (hstep : ∀ k i, i < n → (p i → F (k + 1) (nI i) = some rT) ∧ (¬ p i → F (k + 1) (nI i) = F k (nI (i + 1)))) :
    ∀ (m k i : Nat), n - i = m → m < k → i ≤ n → ((∃ j, i ≤ j ∧ j < n ∧ p j) → F k (nI i) = some rT) ∧ ((∀ j, i ≤ j → j < n → ¬ p j) → F k (nI i) = some rF) := by
  intro m
  induction m with
  | zero =>
    intro k i hm hk hi
    have hin : i = n := by omega
    subst hin
    obtain ⟨k, rfl⟩ : ∃ k', k = k' + 1 := ⟨k - 1, by omega⟩
    exact ⟨fun ⟨j, h1, h2, _⟩ => by omega, fun _ => hstop k⟩
  | succ m ih =>
    intro k i hm hk hi
    obtain ⟨k, rfl⟩ : ∃ k', k = k' + 1 := ⟨k - 1, by omega⟩
    obtain ⟨h1, h2⟩ := hstep k i (by omega)
    obtain ⟨i1, i2⟩ := ih k (i + 1) (by omega) (by omega) (by omega)
    by_cases hp : p i
    · exact ⟨fun _ => h1 hp, fun h => absurd hp (h i (by omega) (by omega))⟩
    · rw [h2 hp]
      refine ⟨fun ⟨j, a1, a2, a3⟩ => i1 ⟨j, ?_, a2, a3⟩, fun h => i2 (fun j a1 a2 => h j (by omega) a2)⟩
      have : j ≠ i := fun e => hp (e ▸ a3)
      omega
variable {n : Nat} {K : Nat → Nat} {su wi wd ch tc : Nat → Int32} {ki wo so wio co tb : Nat → Int32} {fa : Int32} {B : Nat}
noncomputable def gaV (n : Nat) (K : Nat → Nat) (su wi wd tc : Nat → Int32) (fa : Int32) (B v b : Nat) : Int32 := gaH n K su wi fa (chV B n v) wd tc b
def RS (n : Nat) (K : Nat → Nat) (su wi wd tc : Nat → Int32) (fa : Int32) (B v : Nat) : Prop := ∀ b, b < n → ∀ c, c < B → gaV n K su wi wd tc fa B (rp B n v b c) b ≤ gaV n K su wi wd tc fa B v b
theorem chV_ok (hB : 1 ≤ B) (hB4 : B ≤ 4) (v i : Nat) : chOk (chV B n v i) := Or.inr ⟨_, rfl, by omega, by have := dg_lt hB n v i; omega⟩
theorem vdV (hB : 1 ≤ B) (hB4 : B ≤ 4) (hV : Vd n K ch wd) (v : Nat) : Vd n K (chV B n v) wd := fun i hi => ⟨(hV i hi).1, (hV i hi).2.1, chV_ok hB hB4 v i⟩
/-- what is kept of each choosing -/
def Kept (n : Nat) (K : Nat → Nat) (su wi wd tc : Nat → Int32) (fa : Int32) (B N : Nat) (ga ge : Nat → Int32) : Prop := ∀ u, u < N → ge u = gH n K (chV B n u) wd tc ∧ ∀ b, b < n → gH n K (chV B n u) wd tc = nI b → ga u = gaV n K su wi wd tc fa B u b
theorem cTry18 (hn : n ≤ 5) {cs : Nat → Int32} (x2 vb y3 g0 : Int32) (ga ge en sl st tt : Nat → Int32) : ∃ en' : Nat → Int32, (∀ i, i < n → en' i = endF (K i) (cs i) (wd i)) ∧ f_X8_tryAll_18 4096 x2 K ch su tc wd wi vb fa (nI n) (nI n) 0 y3 cs ga ge en g0 sl st tt = some (nI n, y3, cs, ga, ge, en', g0, sl, st, tt) := by
  obtain ⟨en', c1, c2⟩ := lpU0 (fun k y q => f_X8_tryAll_18 k x2 K ch su tc wd wi vb fa (nI n) (nI n) y y3 cs ga ge q g0 sl st tt) (fun q => (nI n, y3, cs, ga, ge, q, g0, sl, st, tt)) n (fun i q => ∀ j, j < i → q j = endF (K j) (cs j) (wd j)) en (by omega) (fun j hj => by omega)
    (fun k q _ => by show f_X8_tryAll_18 (k + 1) _ _ _ _ _ _ _ _ _ _ _ _ _ _ _ _ _ _ _ _ _ = _; rw [f_X8_tryAll_18, if_pos (le_t n)])
    (fun k i q hi hI => by
      show ∃ st', _ ∧ f_X8_tryAll_18 (k + 1) _ _ _ _ _ _ _ _ _ _ _ _ _ _ _ _ _ _ _ _ _ = _
      rw [f_X8_tryAll_18, if_neg (le_f hi (by omega)), if_neg (ckN (i := i) (by omega) (by decide)), cl5 (i := i) (by omega), f_X2_supposeChoice, if_neg (ckN (i := i) (by omega) (by decide)), cl5 (i := i) (by omega)]
      simp only [Option.bind_some, bnd, nI_1]
      refine ⟨_, fun j hj => ?_, rfl⟩
      by_cases hji : j = i
      · subst hji; exact upd_eq _ _ _
      · rw [upd_ne hji]; exact hI j (by omega))
  exact ⟨en', c1, c2⟩
theorem cTry (hn : n ≤ 5) (hB : 1 ≤ B) (hB4 : B ≤ 4) (hV : Vd n K ch wd) (cs ga ge en : Nat → Int32) (g0 : Int32) (sl st tt : Nat → Int32) : ∃ (cs' ga' ge' en' : Nat → Int32) (g' : Int32) (sl' st' tt' : Nat → Int32), Kept n K su wi wd tc fa B (B ^ n) ga' ge' ∧ f_X8_tryAll (nI (B ^ n)) K ch su tc wd wi (nI B) cs ga ge en g0 fa (nI n) sl st tt (nI n) = some (cs', ga', ge', en', g', sl', st', tt') := by
  have hp := pw_le hB4 hn
  obtain ⟨en1, tt1, t1, t2, t3⟩ := cTake (K := K) (ch := ch) (wd := wd) (tc := tc) hn en tt
  obtain ⟨cs1, f1, f2⟩ := cFirst B hn cs
  obtain ⟨⟨cs', ga', ge', en', g', sl', st'⟩, ⟨c1, c2⟩, c3⟩ := lpU0 (fun k y (q : (Nat → Int32) × (Nat → Int32) × (Nat → Int32) × (Nat → Int32) × Int32 × (Nat → Int32) × (Nat → Int32)) => f_X8_tryAll_10 k (nI (B ^ n)) K ch su tc wd wi (nI B) fa (nI n) (nI n) y q.1 q.2.1 q.2.2.1 q.2.2.2.1 q.2.2.2.2.1 q.2.2.2.2.2.1 q.2.2.2.2.2.2 tt1) (fun q => (nI (B ^ n), q.1, q.2.1, q.2.2.1, q.2.2.2.1, q.2.2.2.2.1, q.2.2.2.2.2.1, q.2.2.2.2.2.2, tt1)) (B ^ n) (fun v q => (∀ j, j < n → q.1 j = chV B n v j) ∧ Kept n K su wi wd tc fa B v q.2.1 q.2.2.1) (cs1, ga, ge, en1, g0, sl, st) (by omega) ⟨f1, fun u hu => by omega⟩
    (fun k q _ => by show f_X8_tryAll_10 (k + 1) _ _ _ _ _ _ _ _ _ _ _ _ _ _ _ _ _ _ _ _ = _; rw [f_X8_tryAll_10, if_pos (le_t _)])
    (fun k v q hi hI => by
      show ∃ st', _ ∧ f_X8_tryAll_10 (k + 1) _ _ _ _ _ _ _ _ _ _ _ _ _ _ _ _ _ _ _ _ = _
      obtain ⟨q1, q2, q3, q4, q5, q6, q7⟩ := q
      obtain ⟨hI1, hI2⟩ := hI
      dsimp only at hI1 hI2 ⊢
      obtain ⟨e', a1, a2⟩ := cTry18 (K := K) (ch := ch) (su := su) (tc := tc) (wd := wd) (wi := wi) (fa := fa) hn (cs := q1) (nI (B ^ n)) (nI B) (nI v) q5 q2 q3 q4 q6 q7 tt1
      obtain ⟨sl', st', r1, r2, r3⟩ := cRunH (tc := tc) hn (vdV hB hB4 hV v) (en := e') (fun i hi => by rw [a1 i hi, hI1 i hi]) t2 q5 q6 q7
      obtain ⟨nx, n1, n2⟩ := cNext hB hB4 hn hI1
      rw [f_X8_tryAll_10, if_neg (le_f hi (by omega)), a2]
      simp only [Option.bind_some]
      rw [r3]
      simp only [Option.bind_some]
      rw [if_neg (ckN (i := v) (by omega) (by decide)), cl5 (i := v) (by omega), n2]
      simp only [Option.bind_some, bnd, nI_1]
      have hk : ∀ x : Int32, (∀ b, b < n → gH n K (chV B n v) wd tc = nI b → x = gaV n K su wi wd tc fa B v b) → Kept n K su wi wd tc fa B (v + 1) (upd q2 v x) (upd q3 v (gH n K (chV B n v) wd tc)) := fun x hx u hu => by
        by_cases huv : u = v
        · rw [huv, upd_eq, upd_eq]; exact ⟨rfl, hx⟩
        · rw [upd_ne huv, upd_ne huv]; exact hI2 u (by omega)
      rcases gH_cases n K (chV B n v) wd tc with ⟨g, hg, e⟩ | e
      · rw [if_neg (show ¬ gH n K (chV B n v) wd tc = -1 by rw [e]; exact nI_m1 (by omega))]
        have eg : f_X2_gainOf (gH n K (chV B n v) wd tc) K su wi (gH n K (chV B n v) wd tc) fa st' = some (gaV n K su wi wd tc fa B v g) := by
          have := cGain (su := su) (wi := wi) (fa := fa) hg hn r1
          rw [← e] at this
          exact this
        rw [eg]
        simp only [Option.bind_some]
        refine ⟨(nx, upd q2 v (gaV n K su wi wd tc fa B v g), upd q3 v (gH n K (chV B n v) wd tc), e', gH n K (chV B n v) wd tc, sl', st'), ⟨n1, hk _ (fun b hb h => ?_)⟩, rfl⟩
        rw [e] at h
        rw [(nI_eq (by omega) (by omega)).mp h]
      · rw [if_pos e]
        refine ⟨(nx, upd q2 v 0, upd q3 v (gH n K (chV B n v) wd tc), e', gH n K (chV B n v) wd tc, sl', st'), ⟨n1, hk _ (fun b hb h => ?_)⟩, rfl⟩
        rw [e] at h
        exact absurd h.symm (nI_m1 (by omega)))
  refine ⟨cs', ga', ge', en', g', sl', st', tt1, c2, ?_⟩
  have c3' : f_X8_tryAll_10 4096 (nI (B ^ n)) K ch su tc wd wi (nI B) fa (nI n) (nI n) 0 cs1 ga ge en1 g0 sl st tt1 = some (nI (B ^ n), cs', ga', ge', en', g', sl', st', tt1) := c3
  rw [f_X8_tryAll, t3]
  simp only [Option.bind_some]
  rw [f2]
  simp only [Option.bind_some]
  rw [c3']
  rfl
theorem cGainIn {N : Nat} {ga ge : Nat → Int32} (hK : Kept n K su wi wd tc fa B N ga ge) (hN : N ≤ 1024) (hn : n ≤ 5) {v b : Nat} (hv : v < N) (hb : b < n) : f_X8_gainIn (nI v) (nI b) ga ge = some (gaV n K su wi wd tc fa B v b) := by
  obtain ⟨h1, h2⟩ := hK v hv
  rw [f_X8_gainIn, if_neg (ckN (i := v) (by omega) (by decide)), cl5 (i := v) (by omega), h1]
  by_cases c : gH n K (chV B n v) wd tc = nI b
  · rw [if_pos c, h2 b hb c]
  · rw [if_neg c, gaV, gaH, if_neg (fun h => c h.symm)]
theorem cWould {ga ge : Nat → Int32} (hB : 1 ≤ B) (hB4 : B ≤ 4) (hn : n ≤ 5) (hK : Kept n K su wi wd tc fa B (B ^ n) ga ge) {v b : Nat} (hv : v < B ^ n) (hb : b < n) {cs w : Nat → Int32} (hcs : ∀ j, j < n → cs j = chV B n v j) (hw : ∀ j, j < n → w j = nI (B ^ (n - 1 - j))) :
    ((∃ c, c < B ∧ ¬ gaV n K su wi wd tc fa B (rp B n v b c) b ≤ gaV n K su wi wd tc fa B v b) → f_X8_wouldChange (nI v) (nI b) (nI B) cs ga ge w = some 1) ∧ ((∀ c, c < B → gaV n K su wi wd tc fa B (rp B n v b c) b ≤ gaV n K su wi wd tc fa B v b) → f_X8_wouldChange (nI v) (nI b) (nI B) cs ga ge w = some 0) := by
  have hp := pw_le hB4 hn
  obtain ⟨h1, h2⟩ := lpE (fun k y => f_X8_wouldChange_29 k (nI v) (nI b) (nI B) cs ga ge w y (nI v - (cs b - 1) * w b) (gaV n K su wi wd tc fa B v b)) B (fun c => ¬ gaV n K su wi wd tc fa B (rp B n v b c) b ≤ gaV n K su wi wd tc fa B v b) 1 0
    (fun k => by show f_X8_wouldChange_29 (k + 1) _ _ _ _ _ _ _ _ _ _ = _; rw [f_X8_wouldChange_29, if_pos (le_t _)])
    (fun k c hc => by
      have e : f_X8_wouldChange_29 (k + 1) (nI v) (nI b) (nI B) cs ga ge w (nI c) (nI v - (cs b - 1) * w b) (gaV n K su wi wd tc fa B v b) = if gaV n K su wi wd tc fa B (rp B n v b c) b ≤ gaV n K su wi wd tc fa B v b then f_X8_wouldChange_29 k (nI v) (nI b) (nI B) cs ga ge w (nI (c + 1)) (nI v - (cs b - 1) * w b) (gaV n K su wi wd tc fa B v b) else some 1 := by
        rw [f_X8_wouldChange_29, if_neg (le_f hc (by omega)), if_neg (ckN (i := b) (by omega) (by decide)), cl5 (i := b) (by omega), hcs b hb, hw b hb, rp_i hB, cGainIn hK hp hn (rp_lt hB hb hc hv) hb]
        simp only [Option.bind_some, bnd, nI_1]
      show (_ → f_X8_wouldChange_29 (k + 1) _ _ _ _ _ _ _ _ _ _ = _) ∧ (_ → f_X8_wouldChange_29 (k + 1) _ _ _ _ _ _ _ _ _ _ = _)
      rw [e]
      exact ⟨fun h => if_neg h, fun h => if_pos (Classical.byContradiction h)⟩)
    B 4096 0 rfl (by omega) (Nat.zero_le _)
  have e : f_X8_wouldChange (nI v) (nI b) (nI B) cs ga ge w = f_X8_wouldChange_29 4096 (nI v) (nI b) (nI B) cs ga ge w 0 (nI v - (cs b - 1) * w b) (gaV n K su wi wd tc fa B v b) := by
    rw [f_X8_wouldChange, cGainIn hK hp hn hv hb]
    simp only [Option.bind_some, bnd]
    rw [if_neg (ckN (i := b) (by omega) (by decide)), cl5 (i := b) (by omega)]
  rw [e]
  exact ⟨fun ⟨c, a1, a2⟩ => h1 ⟨c, by omega, a1, a2⟩, fun h => h2 (fun j _ hj hq => hq (h j hj))⟩
theorem cIsRest {ga ge : Nat → Int32} (hB : 1 ≤ B) (hB4 : B ≤ 4) (hn : n ≤ 5) (hK : Kept n K su wi wd tc fa B (B ^ n) ga ge) {v : Nat} (hv : v < B ^ n) {cs w : Nat → Int32} (hcs : ∀ j, j < n → cs j = chV B n v j) (hw : ∀ j, j < n → w j = nI (B ^ (n - 1 - j))) :
    f_X8_isRest (nI v) (nI B) cs ga ge (nI n) w = some (bI (RS n K su wi wd tc fa B v)) := by
  obtain ⟨h1, h2⟩ := lpE (fun k y => f_X8_isRest_2 k (nI v) (nI B) cs ga ge (nI n) w y) n (fun b => ∃ c, c < B ∧ ¬ gaV n K su wi wd tc fa B (rp B n v b c) b ≤ gaV n K su wi wd tc fa B v b) 0 1
    (fun k => by show f_X8_isRest_2 (k + 1) _ _ _ _ _ _ _ _ = _; rw [f_X8_isRest_2, if_pos (le_t _)])
    (fun k b hb => by
      obtain ⟨w1, w2⟩ := cWould hB hB4 hn hK hv hb hcs hw
      show (_ → f_X8_isRest_2 (k + 1) _ _ _ _ _ _ _ _ = _) ∧ (_ → f_X8_isRest_2 (k + 1) _ _ _ _ _ _ _ _ = _)
      rw [f_X8_isRest_2, if_neg (le_f hb (by omega))]
      refine ⟨fun h => ?_, fun h => ?_⟩
      · rw [w1 h]; rfl
      · rw [w2 (fun c hc => Classical.byContradiction (fun hq => h ⟨c, hc, hq⟩))]
        simp only [Option.bind_some, bnd, nI_1]
        rw [if_pos trivial])
    n 4096 0 rfl (by omega) (Nat.zero_le _)
  rw [f_X8_isRest]
  by_cases c : RS n K su wi wd tc fa B v
  · rw [bI_t c]
    exact h2 (fun j _ hj ⟨c', a1, a2⟩ => a2 (c j hj c' a1))
  · rw [bI_f c]
    apply h1
    apply Classical.byContradiction
    intro hq
    apply c
    intro b hb c' hc'
    apply Classical.byContradiction
    intro hr
    exact hq ⟨b, by omega, hb, c', hc', hr⟩
theorem cKeep (hn : n ≤ 5) (cs f : Nat → Int32) (x : Int32) : ∃ f' : Nat → Int32, (x = 0 → ∀ j, j < n → f' j = cs j) ∧ (x ≠ 0 → f' = f) ∧ f_X8_keepIfFirst cs f x (nI n) = some f' := by
  by_cases hx : x = 0
  · obtain ⟨f', c1, c2⟩ := lpU0 (fun k y q => f_X8_keepIfFirst_2 k cs x (nI n) y q) (fun q => (nI n, q)) n (fun i q => ∀ j, j < i → q j = cs j) f (by omega) (fun j hj => by omega)
      (fun k q _ => by show f_X8_keepIfFirst_2 (k + 1) _ _ _ _ _ = _; rw [f_X8_keepIfFirst_2, if_pos (le_t n)])
      (fun k i q hi hI => by
        show ∃ st', _ ∧ f_X8_keepIfFirst_2 (k + 1) _ _ _ _ _ = _
        rw [f_X8_keepIfFirst_2, if_neg (le_f hi (by omega)), if_pos hx, if_neg (ckN (i := i) (by omega) (by decide)), cl5 (i := i) (by omega)]
        simp only [bnd, nI_1]
        refine ⟨_, fun j hj => ?_, rfl⟩
        by_cases hji : j = i
        · subst hji; exact upd_eq _ _ _
        · rw [upd_ne hji]; exact hI j (by omega))
    refine ⟨f', fun _ => c1, fun h => absurd hx h, ?_⟩
    rw [f_X8_keepIfFirst]
    have c2' : f_X8_keepIfFirst_2 4096 cs x (nI n) 0 f = some (nI n, f') := c2
    rw [c2']
    rfl
  · refine ⟨f, fun h => absurd h hx, fun _ => rfl, ?_⟩
    rw [f_X8_keepIfFirst, f_X8_keepIfFirst_2]
    by_cases h0 : nI n ≤ 0
    · rw [if_pos h0]; rfl
    · rw [if_neg h0, if_neg hx]; rfl
/-- the first with P below i -/
def FstP (P : Nat → Prop) (i f : Nat) : Prop := f < i ∧ P f ∧ ∀ u, u < f → ¬ P u
theorem cFind (hn : n ≤ 5) (hB : 1 ≤ B) (hB4 : B ≤ 4) (hV : Vd n K ch wd) (vb vh vs g0 : Int32) (cs fi ga ge en sl st tt w : Nat → Int32) : ∃ (cs' fi' ga' ge' en' : Nat → Int32) (g' : Int32) (sl' st' tt' w' : Nat → Int32),
    (∀ f, FstP (RS n K su wi wd tc fa B) (B ^ n) f → ∀ j, j < n → fi' j = chV B n f j) ∧
    f_X8_find (nI B) K ch su tc wd wi vb cs fi ga ge vh en g0 fa (nI n) sl st tt vs w = some (nI B, cs', fi', ga', ge', nI (cnt (pB (RS n K su wi wd tc fa B)) (B ^ n)), en', g', sl', st', tt', nI n, w') := by
  have hp := pw_le hB4 hn
  obtain ⟨w', a1, a2⟩ := cWeigh hB hB4 hn w
  obtain ⟨cs1, ga1, ge1, en1, g1, sl1, st1, tt1, b1, b2⟩ := cTry (su := su) (wi := wi) (tc := tc) (fa := fa) hn hB hB4 hV cs ga ge en g0 sl st tt
  obtain ⟨cs2, c1, c2⟩ := cFirst B hn cs1
  obtain ⟨⟨cs', fi', hm⟩, ⟨d1, d2, d3⟩, d4⟩ := lpU0 (fun k y (q : (Nat → Int32) × (Nat → Int32) × Int32) => f_X8_find_39 k (nI B) K ch su tc wd wi fa (nI n) y (nI (B ^ n)) (nI B) q.1 q.2.1 ga1 ge1 q.2.2 en1 g1 sl1 st1 tt1 (nI n) w') (fun q => (nI (B ^ n), nI (B ^ n), nI B, q.1, q.2.1, ga1, ge1, q.2.2, en1, g1, sl1, st1, tt1, nI n, w')) (B ^ n)
    (fun v q => (∀ j, j < n → q.1 j = chV B n v j) ∧ q.2.2 = nI (cnt (pB (RS n K su wi wd tc fa B)) v) ∧ ∀ f, FstP (RS n K su wi wd tc fa B) v f → ∀ j, j < n → q.2.1 j = chV B n f j) (cs2, fi, 0) (by omega) ⟨c1, rfl, fun f hf => by have := hf.1; omega⟩
    (fun k q _ => by show f_X8_find_39 (k + 1) _ _ _ _ _ _ _ _ _ _ _ _ _ _ _ _ _ _ _ _ _ _ _ _ = _; rw [f_X8_find_39, if_pos (le_t _)])
    (fun k v q hv hI => by
      show ∃ st', _ ∧ f_X8_find_39 (k + 1) _ _ _ _ _ _ _ _ _ _ _ _ _ _ _ _ _ _ _ _ _ _ _ _ = _
      obtain ⟨q1, q2, q3⟩ := q
      obtain ⟨hI1, hI2, hI3⟩ := hI
      dsimp only at hI1 hI2 hI3 ⊢
      obtain ⟨nx, n1, n2⟩ := cNext hB hB4 hn hI1
      rw [f_X8_find_39, if_neg (le_f hv (by omega)), cIsRest hB hB4 hn b1 hv hI1 a1]
      simp only [Option.bind_some]
      by_cases c : RS n K su wi wd tc fa B v
      · obtain ⟨f', k1, k2, k3⟩ := cKeep hn q1 q2 q3
        rw [bI_t c, if_neg c10, k3, n2]
        simp only [Option.bind_some, bnd, nI_1]
        refine ⟨(nx, f', q3 + 1), ⟨n1, ?_, fun f hf => ?_⟩, rfl⟩
        · show q3 + 1 = _
          rw [hI2, nI_1, cnt, show pB (RS n K su wi wd tc fa B) v = true from bl_t c]
          rfl
        · show ∀ j, j < n → f' j = _
          obtain ⟨f1, f2, f3⟩ := hf
          have hcl := cnt_le (pB (RS n K su wi wd tc fa B)) v
          by_cases hfv : f = v
          · subst hfv
            have hz : q3 = 0 := by
              rw [hI2, cnt_zero (p := pB (RS n K su wi wd tc fa B)) |>.mpr (fun j hj => bl_f (f3 j hj))]; rfl
            intro j hj
            rw [k1 hz j hj, hI1 j hj]
          · have hz : q3 ≠ 0 := fun h => by
              rw [hI2] at h
              have h0 := (nI_eq (a := cnt (pB (RS n K su wi wd tc fa B)) v) (b := 0) (by omega) (by decide)).mp h
              have := cnt_zero.mp h0 f (by omega)
              rw [show pB (RS n K su wi wd tc fa B) f = true from bl_t f2] at this
              cases this
            rw [k2 hz]
            exact hI3 f ⟨by omega, f2, f3⟩
      · rw [bI_f c, if_pos rfl, n2]
        simp only [Option.bind_some, bnd, nI_1]
        refine ⟨(nx, q2, q3), ⟨n1, ?_, fun f hf => ?_⟩, rfl⟩
        · show q3 = _
          rw [hI2, cnt, show pB (RS n K su wi wd tc fa B) v = false from bl_f c]
          rfl
        · show ∀ j, j < n → q2 j = _
          obtain ⟨f1, f2, f3⟩ := hf
          have hfv : f ≠ v := fun h => c (h ▸ f2)
          exact hI3 f ⟨by omega, f2, f3⟩)
  refine ⟨cs', fi', ga1, ge1, en1, g1, sl1, st1, tt1, w', d3, ?_⟩
  have d2' : hm = nI (cnt (pB (RS n K su wi wd tc fa B)) (B ^ n)) := d2
  have d4' : f_X8_find_39 4096 (nI B) K ch su tc wd wi fa (nI n) 0 (nI (B ^ n)) (nI B) cs2 fi ga1 ge1 0 en1 g1 sl1 st1 tt1 (nI n) w' = some (nI (B ^ n), nI (B ^ n), nI B, cs', fi', ga1, ge1, hm, en1, g1, sl1, st1, tt1, nI n, w') := d4
  rw [f_X8_find, a2]
  simp only [Option.bind_some]
  rw [b2]
  simp only [Option.bind_some]
  rw [c2]
  simp only [Option.bind_some]
  rw [d4', d2']
  rfl
end
