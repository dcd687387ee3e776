section
def chOk (c : Int32) : Prop := c = -1 ∨ ∃ k : Nat, c = nI k ∧ 1 ≤ k ∧ k ≤ 30
def wdOk (w : Int32) : Prop := ∃ k : Nat, w = nI k ∧ 1 ≤ k ∧ k ≤ 9
def Vd (n : Nat) (K : Nat → Nat) (ch wd : Nat → Int32) : Prop := ∀ i, i < n → K i < 5 ∧ wdOk (wd i) ∧ chOk (ch i)
def eN (k : Nat) (c w : Int32) : Nat := (endF k c w).toNatClampNeg
theorem brF_N {k w : Nat} (hk : k < 5) (hw : w ≤ 9) : ∃ b : Nat, brF k (nI w) = nI b ∧ b ≤ 18 := by
  have h2 : (2 : Int32) = nI 2 := rfl
  match k, hk with
  | 0, _ => exact ⟨w, rfl, by omega⟩
  | 1, _ => exact ⟨2 * w, by show 2 * nI w = _; rw [h2, pk_mul], by omega⟩
  | 2, _ => exact ⟨(w + 1) / 2, by show (nI w + 1) / 2 = _; rw [nI_1, h2, pk_div (by omega) (by omega) (by omega)], by omega⟩
  | 3, _ => exact ⟨w, rfl, by omega⟩
  | 4, _ => exact ⟨2 * w, by show 2 * nI w = _; rw [h2, pk_mul], by omega⟩
theorem eN_ok {k : Nat} {c w : Int32} (hk : k < 5) (hw : wdOk w) (hc : chOk c) : endF k c w = nI (eN k c w) ∧ 1 ≤ eN k c w ∧ eN k c w ≤ 30 := by
  obtain ⟨w, rfl, hw1, hw2⟩ := hw
  obtain ⟨b, hb, hb2⟩ := brF_N hk hw2
  have key : ∃ x : Nat, endF k c (nI w) = nI x ∧ 1 ≤ x ∧ x ≤ 30 := by
    rw [endF, hb, nI_1]
    rcases hc with hc | ⟨c', hc, hc1, hc2⟩
    · rw [if_pos hc]; exact ⟨b + 1, rfl, by omega, by omega⟩
    · rw [hc, if_neg (nI_m1 (by omega))]
      by_cases hl : b + 1 < c'
      · rw [if_pos ((nI_ltI (by omega) (by omega)).mpr hl)]; exact ⟨b + 1, rfl, by omega, by omega⟩
      · rw [if_neg (fun h => hl ((nI_ltI (by omega) (by omega)).mp h))]; exact ⟨c', rfl, hc1, hc2⟩
  obtain ⟨x, hx, h1, h2⟩ := key
  rw [eN, hx, cl5 (by omega)]
  exact ⟨rfl, h1, h2⟩
noncomputable def dH (n : Nat) (K : Nat → Nat) (ch wd tc : Nat → Int32) : Nat → Nat := DD n (fun i => eN (K i) (ch i) (wd i)) (TF tc)
noncomputable def sH (n : Nat) (K : Nat → Nat) (ch wd tc : Nat → Int32) (i : Nat) : Nat := dH n K ch wd tc i + if K i = 3 then 2 else 0
noncomputable def gH (n : Nat) (K : Nat → Nat) (ch wd tc : Nat → Int32) : Int32 := gI n (sH n K ch wd tc)
noncomputable def prH (n : Nat) (K : Nat → Nat) (su : Nat → Int32) (fa : Int32) (ch wd tc : Nat → Int32) (i : Nat) : Int32 := priF (K i) (su i) (nI (dH n K ch wd tc i)) fa
noncomputable def gaH (n : Nat) (K : Nat → Nat) (su wi : Nat → Int32) (fa : Int32) (ch wd tc : Nat → Int32) (i : Nat) : Int32 := if nI i = gH n K ch wd tc then 10 * wi i - prH n K su fa ch wd tc i else 0
variable {n : Nat} {K : Nat → Nat} {su wi ch wd tc : Nat → Int32} {fa : Int32}
theorem DD_ge1 {e : Nat → Nat} {T : Nat → Nat → Prop} (he : ∀ i, i < n → 1 ≤ e i) : ∀ i, i < n → 1 ≤ DD n e T i := fun i hi => (DD_is n e T).2 (fun _ => 1) ⟨he, fun _ _ _ _ _ => by show 1 ≤ 1 + 1; omega⟩ i hi
theorem DD_le {e : Nat → Nat} {T : Nat → Nat → Prop} {i : Nat} (hi : i < n) : DD n e T i ≤ e i := (DD_is n e T).1.1 i hi
theorem dH_b (hV : Vd n K ch wd) {i : Nat} (hi : i < n) : 1 ≤ dH n K ch wd tc i ∧ dH n K ch wd tc i ≤ 30 := by
  refine ⟨DD_ge1 (fun i hi => (eN_ok (hV i hi).1 (hV i hi).2.1 (hV i hi).2.2).2.1) i hi, ?_⟩
  exact Nat.le_trans (DD_le hi) (eN_ok (hV i hi).1 (hV i hi).2.1 (hV i hi).2.2).2.2
theorem sH_b (hV : Vd n K ch wd) {i : Nat} (hi : i < n) : 1 ≤ sH n K ch wd tc i ∧ sH n K ch wd tc i ≤ 32 := by
  have := dH_b (tc := tc) hV hi
  unfold sH
  split <;> omega
theorem dH_congr {ch' wd' tc' : Nat → Int32} (h1 : ∀ i, i < n → ch i = ch' i) (h2 : ∀ i, i < n → wd i = wd' i) (h3 : ∀ i, i < n → tc i = tc' i) : ∀ i, i < n → dH n K ch wd tc i = dH n K ch' wd' tc' i := DD_congr (fun i hi => by rw [h1 i hi, h2 i hi]) (fun i hi a _ => TF_congr (h3 i hi) a)
theorem sH_congr {ch' wd' tc' : Nat → Int32} (h1 : ∀ i, i < n → ch i = ch' i) (h2 : ∀ i, i < n → wd i = wd' i) (h3 : ∀ i, i < n → tc i = tc' i) : ∀ i, i < n → sH n K ch wd tc i = sH n K ch' wd' tc' i := fun i hi => by unfold sH; rw [dH_congr h1 h2 h3 i hi]
theorem gH_congr {ch' wd' tc' : Nat → Int32} (h1 : ∀ i, i < n → ch i = ch' i) (h2 : ∀ i, i < n → wd i = wd' i) (h3 : ∀ i, i < n → tc i = tc' i) : gH n K ch wd tc = gH n K ch' wd' tc' := gI_congr (sH_congr h1 h2 h3)
theorem gaH_congr {ch' wd' tc' : Nat → Int32} (h1 : ∀ i, i < n → ch i = ch' i) (h2 : ∀ i, i < n → wd i = wd' i) (h3 : ∀ i, i < n → tc i = tc' i) {i : Nat} (hi : i < n) : gaH n K su wi fa ch wd tc i = gaH n K su wi fa ch' wd' tc' i := by unfold gaH prH; rw [gH_congr h1 h2 h3, dH_congr h1 h2 h3 i hi]
/-- who gets it is one of them, or nobody -/
theorem gH_cases (n : Nat) (K : Nat → Nat) (ch wd tc : Nat → Int32) : (∃ g, g < n ∧ gH n K ch wd tc = nI g) ∨ gH n K ch wd tc = -1 := by
  rcases gI_cases n (sH n K ch wd tc) with ⟨g, h1, h2⟩ | ⟨_, h2⟩
  · exact Or.inl ⟨g, h1.1, h2⟩
  · exact Or.inr h2
/-- the class runs its course -/
theorem cRun (hn : n ≤ 5) {e : Nat → Nat} {en tb : Nat → Int32} (he : ∀ i, i < n → en i = nI (e i)) (hb : ∀ i, i < n → e i ≤ 100) (g0 : Int32) (sl st : Nat → Int32) : ∃ sl' st' : Nat → Int32, (∀ i, i < n → st' i = nI (DD n e (TF tb) i)) ∧ (∀ i, i < n → sl' i = nI (DD n e (TF tb) i + if K i = 3 then 2 else 0)) ∧ f_X2_run K en g0 (nI n) sl st tb = some (gI n (fun i => DD n e (TF tb) i + if K i = 3 then 2 else 0), sl', st') := by
  obtain ⟨st', h1, h2⟩ := fs hn (en := en) (tb := tb) (fun i hi => by have := hb i hi; omega) he st
  have hD : ∀ i, i < n → DD n e (TF tb) i ≤ 100 := fun i hi => Nat.le_trans (DD_le hi) (hb i hi)
  obtain ⟨sl', h3, h4⟩ := lpU0 (fun k y sl => f_X2_run_6 k K en (nI n) tb y g0 sl st') (fun sl => (nI n, g0, sl, st')) n
    (fun i sl => ∀ j, j < i → sl j = nI (DD n e (TF tb) j + if K j = 3 then 2 else 0)) sl (by omega) (fun j hj => by omega)
    (fun k q _ => by show f_X2_run_6 (k + 1) _ _ _ _ _ _ _ _ = _; rw [f_X2_run_6, if_pos (le_t n)])
    (fun k i sl hi g1 => by
      show ∃ sl', _ ∧ f_X2_run_6 (k + 1) _ _ _ _ _ _ _ _ = _
      rw [f_X2_run_6, if_neg (le_f hi (by omega)), if_neg (ckN (i := i) (by omega) (by decide)), cl5 (i := i) (by omega)]
      simp only [bnd, nI_1, h1 i hi]
      refine ⟨_, fun j hj => ?_, rfl⟩
      by_cases hji : j = i
      · rw [hji, upd_eq]
        unfold echF
        split
        · exact nI_add _ 2
        · exact nI_add _ 0
      · rw [upd_ne hji]; exact g1 j (by omega))
  refine ⟨sl', st', h1, h3, ?_⟩
  rw [f_X2_run, h2]
  simp only [Option.bind_some]
  have h4' : f_X2_run_6 4096 K en (nI n) tb 0 g0 sl st' = some (nI n, g0, sl', st') := h4
  rw [h4']
  simp only [Option.bind_some]
  rw [fg hn (s := fun i => DD n e (TF tb) i + if K i = 3 then 2 else 0) (fun j hj => by have := hD j hj; show DD n e (TF tb) j + (if K j = 3 then 2 else 0) < 1000; split <;> omega) h3 g0]
  rfl
/-- the class takes the hall as it is -/
theorem cTake (hn : n ≤ 5) (en tb : Nat → Int32) : ∃ en' tb' : Nat → Int32, (∀ i, i < n → en' i = endF (K i) (ch i) (wd i)) ∧ (∀ i, i < n → tb' i = tc i) ∧ f_X2_takeAsItIs K ch tc wd en (nI n) tb = some (en', tb') := by
  obtain ⟨⟨en', tb'⟩, h3, h4⟩ := lpU0 (fun k y (q : (Nat → Int32) × (Nat → Int32)) => f_X2_takeAsItIs_2 k K ch tc wd (nI n) y q.1 q.2) (fun q => (nI n, q.1, q.2)) n
    (fun i q => ∀ j, j < i → q.1 j = endF (K j) (ch j) (wd j) ∧ q.2 j = tc j) (en, tb) (by omega) (fun j hj => by omega)
    (fun k q _ => by show f_X2_takeAsItIs_2 (k + 1) _ _ _ _ _ _ _ _ = _; rw [f_X2_takeAsItIs_2, if_pos (le_t n)])
    (fun k i q hi g1 => by
      show ∃ sl', _ ∧ f_X2_takeAsItIs_2 (k + 1) _ _ _ _ _ _ _ _ = _
      rw [f_X2_takeAsItIs_2, if_neg (le_f hi (by omega)), if_neg (ckN (i := i) (by omega) (by decide)), cl5 (i := i) (by omega)]
      simp only [bnd, nI_1]
      refine ⟨(upd q.1 i (endF (K i) (ch i) (wd i)), upd q.2 i (tc i)), fun j hj => ?_, rfl⟩
      by_cases hji : j = i
      · subst hji; exact ⟨upd_eq _ _ _, upd_eq _ _ _⟩
      · exact ⟨(upd_ne hji).trans (g1 j (by omega)).1, (upd_ne hji).trans (g1 j (by omega)).2⟩)
  refine ⟨en', tb', fun i hi => (h3 i hi).1, fun i hi => (h3 i hi).2, ?_⟩
  rw [f_X2_takeAsItIs]
  have h4' : f_X2_takeAsItIs_2 4096 K ch tc wd (nI n) 0 en tb = some (nI n, en', tb') := h4
  rw [h4']
  rfl
/-- a course by supposed ends and touches that are those of ch', wd', tc' -/
theorem cRunH (hn : n ≤ 5) (hV : Vd n K ch wd) {en tb : Nat → Int32} (he : ∀ i, i < n → en i = endF (K i) (ch i) (wd i)) (ht : ∀ i, i < n → tb i = tc i) (g0 : Int32) (sl st : Nat → Int32) : ∃ sl' st' : Nat → Int32, (∀ i, i < n → st' i = nI (dH n K ch wd tc i)) ∧ (∀ i, i < n → sl' i = nI (sH n K ch wd tc i)) ∧ f_X2_run K en g0 (nI n) sl st tb = some (gH n K ch wd tc, sl', st') := by
  have hE : ∀ i, i < n → en i = nI (eN (K i) (ch i) (wd i)) := fun i hi => by rw [he i hi]; exact (eN_ok (hV i hi).1 (hV i hi).2.1 (hV i hi).2.2).1
  obtain ⟨sl', st', h1, h2, h3⟩ := cRun hn (K := K) (e := fun i => eN (K i) (ch i) (wd i)) (tb := tb) hE (fun i hi => by have := (eN_ok (hV i hi).1 (hV i hi).2.1 (hV i hi).2.2).2.2; show eN (K i) (ch i) (wd i) ≤ 100; omega) g0 sl st
  have hq : ∀ i, i < n → DD n (fun i => eN (K i) (ch i) (wd i)) (TF tb) i = dH n K ch wd tc i := DD_congr (fun _ _ => rfl) (fun i hi a _ => TF_congr (ht i hi) a)
  refine ⟨sl', st', fun i hi => by rw [h1 i hi, hq i hi], fun i hi => by rw [h2 i hi, hq i hi]; rfl, ?_⟩
  rw [h3, gH, gI_congr (s := fun i => DD n (fun i => eN (K i) (ch i) (wd i)) (TF tb) i + if K i = 3 then 2 else 0) (s' := sH n K ch wd tc) (fun i hi => by show DD n (fun i => eN (K i) (ch i) (wd i)) (TF tb) i + _ = _; rw [hq i hi]; rfl)]
theorem cGain {b : Nat} (hb : b < n) (hn : n ≤ 5) {st : Nat → Int32} (hst : ∀ i, i < n → st i = nI (dH n K ch wd tc i)) : f_X2_gainOf (nI b) K su wi (gH n K ch wd tc) fa st = some (gaH n K su wi fa ch wd tc b) := by
  rw [f_X2_gainOf, gaH]
  by_cases h : nI b = gH n K ch wd tc
  · rw [if_pos h, if_pos h, if_neg (ckN (i := b) (by omega) (by decide)), f_X2_priceOf, if_neg (ckN (i := b) (by omega) (by decide)), cl5 (i := b) (by omega), hst b hb]
    rfl
  · rw [if_neg h, if_neg h]
/-- the reference's own end -/
theorem mEnd {i k : Nat} (hi : i < 5) (hk : k < 5) {co ki wo : Nat → Int32} (hki : ki i = nI k) : f_X12_ownEnd (nI i) co ki wo = some (endF k (co i) (wo i)) := by
  have fin : ∀ e : Int32, (if co i = (-1) then some e else if e ≤ co i then some e else some (co i)) = some (if co i = (-1) then e else if e < co i then e else co i) := by
    intro e
    by_cases h1 : co i = (-1)
    · rw [if_pos h1, if_pos h1]
    · rw [if_neg h1, if_neg h1]
      by_cases h2 : e < co i
      · rw [if_pos (Int32.le_of_lt h2), if_pos h2]
      · rw [if_neg h2]
        by_cases h3 : e ≤ co i
        · rw [if_pos h3, Int32.le_antisymm h3 (Int32.not_lt.mp h2)]
        · rw [if_neg h3]
  rw [f_X12_ownEnd, if_neg (ckN (i := i) hi (by decide)), cl5 (i := i) (by omega), hki]
  simp only [bnd]
  match k, hk with
  | 0, _ => rw [if_neg (by decide), if_neg (by decide), if_neg (by decide)]; exact fin _
  | 1, _ => rw [if_pos (by decide)]; exact fin _
  | 2, _ => rw [if_neg (by decide), if_neg (by decide), if_pos (by decide)]; exact fin _
  | 3, _ => rw [if_neg (by decide), if_neg (by decide), if_neg (by decide)]; exact fin _
  | 4, _ => rw [if_neg (by decide), if_pos (by decide)]; exact fin _
/-- the reference lays the stops -/
theorem mLay (h0 : 0 < n) (hn : n ≤ 5) (hV : Vd n K ch wd) {co ki wo tb : Nat → Int32} (hk : ∀ i, i < n → ki i = nI (K i)) (hc : ∀ i, i < n → co i = ch i) (hw : ∀ i, i < n → wo i = wd i) (ht : ∀ i, i < n → tb i = tc i) (st : Nat → Int32) : ∃ st', (∀ i, i < n → st' i = nI (dH n K ch wd tc i)) ∧ f_X12_layStops (nI n) co ki st tb wo = some st' := by
  obtain ⟨s1, h1, h2⟩ := lay_2 hn (e := fun i => eN (K i) (ch i) (wd i)) (co := co) (ki := ki) (wo := wo) (tb := tb) (fun i hi => by
    rw [mEnd (by omega) (hV i hi).1 (hk i hi), hc i hi, hw i hi]
    exact congrArg some (eN_ok (hV i hi).1 (hV i hi).2.1 (hV i hi).2.2).1) st
  obtain ⟨s2, h3, h4⟩ := lay_29 hn h0 (e := fun i => eN (K i) (ch i) (wd i)) (co := co) (ki := ki) (wo := wo) (tb := tb) (fun i hi => by have := (eN_ok (hV i hi).1 (hV i hi).2.1 (hV i hi).2.2).2.2; show eN (K i) (ch i) (wd i) < 1000; omega) s1 h1
  refine ⟨s2, fun i hi => ?_, ?_⟩
  · rw [h3 i hi]
    exact congrArg nI (DD_congr (fun _ _ => rfl) (fun i hi a _ => TF_congr (ht i hi) a) i hi)
  · rw [f_X12_layStops, h2]
    simp only [Option.bind_some]
    rw [h4]
    rfl
theorem mSil {i : Nat} (hi : i < n) (hn : n ≤ 5) (hK : ∀ i, i < n → K i < 5) {ki st : Nat → Int32} (hk : ∀ i, i < n → ki i = nI (K i)) (hst : ∀ i, i < n → st i = nI (dH n K ch wd tc i)) : f_X12_silentFrom (nI i) ki st = some (nI (sH n K ch wd tc i)) := by
  rw [f_X12_silentFrom, if_neg (ckN (i := i) (by omega) (by decide)), cl5 (i := i) (by omega), hk i hi, hst i hi, sH]
  by_cases h3 : K i = 3
  · rw [if_pos (by rw [h3]; rfl), if_pos h3]
    exact congrArg some (nI_add _ 2)
  · rw [if_neg (fun h : nI (K i) = 3 => h3 ((nI_eq (a := K i) (b := 3) (by have := hK i hi; omega) (by decide)).mp h)), if_neg h3]
    exact congrArg some (nI_add _ 0)
theorem mGet (hn : n ≤ 5) (hV : Vd n K ch wd) {ki st : Nat → Int32} (hk : ∀ i, i < n → ki i = nI (K i)) (hst : ∀ i, i < n → st i = nI (dH n K ch wd tc i)) : f_X12_getter (nI n) ki st = some (gH n K ch wd tc) := gt hn (s := sH n K ch wd tc) (fun j hj => by have := sH_b (tc := tc) hV hj; omega) (fun j hj => mSil hj hn (fun i hi => (hV i hi).1) hk hst)
def suOk (s : Int32) : Prop := ∃ k : Nat, s = nI k ∧ k ≤ 9
theorem mPri {i : Nat} (hi : i < n) (hn : n ≤ 5) (hK : ∀ i, i < n → K i < 5) (hs : suOk (su i)) {ki st so : Nat → Int32} (hk : ∀ i, i < n → ki i = nI (K i)) (hst : ∀ i, i < n → st i = nI (dH n K ch wd tc i)) (hso : so i = su i) : f_X12_priceOf (nI i) fa ki st so = some (prH n K su fa ch wd tc i) := by
  rw [f_X12_priceOf, if_neg (ckN (i := i) (by omega) (by decide)), cl5 (i := i) (by omega), hk i hi, hst i hi, prH, priF, hso]
  simp only [bnd]
  by_cases h4 : K i = 4
  · rw [if_pos (by rw [h4]; rfl), if_pos h4]
    obtain ⟨k, hk2, hk3⟩ := hs
    rw [hk2]
    have e1 : (10 : Int32) * nI k - 0 = nI (10 * k) := by
      have h10 : (10 : Int32) = nI 10 := rfl
      rw [h10, pk_mul]
      exact pk_sub (b := 0) (Nat.zero_le _)
    have e2 : (10 : Int32) * nI k = nI (10 * k) := pk_mul 10 k
    rw [e1, e2, if_pos (nI_pos' (by omega))]
  · rw [if_neg (fun h : nI (K i) = 4 => h4 ((nI_eq (a := K i) (b := 4) (by have := hK i hi; omega) (by decide)).mp h)), if_neg h4]
    generalize 10 * su i - fa * (nI (dH n K ch wd tc i) - 1) = z
    by_cases h1 : 0 < z
    · rw [if_pos h1, if_pos (Int32.le_of_lt h1)]
    · rw [if_neg h1]
      by_cases h2 : 0 ≤ z
      · rw [if_pos h2, Int32.le_antisymm h2 (Int32.not_lt.mp h1)]
      · rw [if_neg h2]
theorem mGain {b : Nat} (hb : b < n) (hn : n ≤ 5) (hV : Vd n K ch wd) (hs : suOk (su b)) {ki st so wo : Nat → Int32} (hk : ∀ i, i < n → ki i = nI (K i)) (hst : ∀ i, i < n → st i = nI (dH n K ch wd tc i)) (hso : so b = su b) (hwo : wo b = wi b) : f_X12_gainOf (nI b) (nI n) fa ki st so wo = some (gaH n K su wi fa ch wd tc b) := by
  rw [f_X12_gainOf, mGet hn hV hk hst]
  simp only [Option.bind_some]
  rw [gaH]
  by_cases h : gH n K ch wd tc = nI b
  · rw [if_pos h, if_pos h.symm, if_neg (ckN (i := b) (by omega) (by decide)), mPri (fa := fa) hb hn (fun i hi => (hV i hi).1) hs hk hst hso, cl5 (i := b) (by omega), hwo]
    rfl
  · rw [if_neg h, if_neg (fun h2 => h h2.symm)]
end
