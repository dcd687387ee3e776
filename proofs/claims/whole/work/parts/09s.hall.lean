section
variable {len : Nat} {cd pg : Nat → Int32} {c : Nat → Nat}
def GB (c : Nat → Nat) (m : Nat) : Prop := kN (c (5 * m)) ≠ -1 ∧ (49 ≤ c (5 * m + 1) ∧ c (5 * m + 1) ≤ 57) ∧ (48 ≤ c (5 * m + 2) ∧ c (5 * m + 2) ≤ 57) ∧ (48 ≤ c (5 * m + 3) ∧ c (5 * m + 3) ≤ 57)
theorem blk_all (hL : LT len cd c) {m : Nat} (hm : m < 5) (hp : 5 * m ≤ len) (hpr : 0 < m → c (5 * m - 1) = 44 ∧ c (5 * m - 2) ≤ 57) :
    ((blk c len m).2 = 2 ∧ GB c m ∧ c (5 * m + 4) = 44 ∧ m < 4 ∧ 5 * m + 5 ≤ len) ∨
    ((blk c len m).2 = 1 ∧ (blk c len m).1 = len ∧ GB c m ∧ c (5 * m + 4) = 59 ∧ m ≠ 0 ∧ 5 * m + 6 = len ∧ (48 ≤ c (5 * m + 5) ∧ c (5 * m + 5) ≤ 57)) ∨
    ((blk c len m).2 = 0 ∧ ((blk c len m).1 = len → 2 ≤ len → c (len - 2) ≠ 59)) := by
  unfold blk
  by_cases h0 : 5 * m = len
  · rw [if_pos h0]
    refine Or.inr (Or.inr ⟨rfl, fun _ h2 => ?_⟩)
    have := (hpr (by omega)).2
    rw [← h0]
    omega
  rw [if_neg h0]
  have x0 := (hL.2 (5 * m) (by omega)).2
  by_cases h1 : kN (c (5 * m)) = -1
  · rw [if_pos h1]; exact Or.inr (Or.inr ⟨rfl, fun h => absurd h h0⟩)
  rw [if_neg h1]
  by_cases h2 : 5 * m + 1 = len
  · rw [if_pos h2]
    refine Or.inr (Or.inr ⟨rfl, fun _ h3 => ?_⟩)
    have := (hpr (by omega)).1
    rw [show len - 2 = 5 * m - 1 by omega, this]
    decide
  rw [if_neg h2]
  by_cases h3 : 49 ≤ c (5 * m + 1) ∧ c (5 * m + 1) ≤ 57
  rotate_left
  · rw [if_pos h3]; exact Or.inr (Or.inr ⟨rfl, fun h => absurd h h2⟩)
  rw [if_neg (not_not_intro h3)]
  by_cases h4 : 5 * m + 2 = len
  · rw [if_pos h4]
    refine Or.inr (Or.inr ⟨rfl, fun _ h3 => ?_⟩)
    rw [show len - 2 = 5 * m by omega]
    exact (kn_k _ x0 h1).2.1
  rw [if_neg h4]
  by_cases h5 : 48 ≤ c (5 * m + 2) ∧ c (5 * m + 2) ≤ 57
  rotate_left
  · rw [if_pos h5]; exact Or.inr (Or.inr ⟨rfl, fun h => absurd h h4⟩)
  rw [if_neg (not_not_intro h5)]
  by_cases h6 : 5 * m + 3 = len
  · rw [if_pos h6]
    refine Or.inr (Or.inr ⟨rfl, fun _ _ => ?_⟩)
    rw [show len - 2 = 5 * m + 1 by omega]
    omega
  rw [if_neg h6]
  by_cases h7 : 48 ≤ c (5 * m + 3) ∧ c (5 * m + 3) ≤ 57
  rotate_left
  · rw [if_pos h7]; exact Or.inr (Or.inr ⟨rfl, fun h => absurd h h6⟩)
  rw [if_neg (not_not_intro h7)]
  by_cases h8 : 5 * m + 4 = len
  · rw [if_pos h8]
    refine Or.inr (Or.inr ⟨rfl, fun _ _ => ?_⟩)
    rw [show len - 2 = 5 * m + 2 by omega]
    omega
  rw [if_neg h8]
  by_cases h9 : c (5 * m + 4) = 59
  · rw [if_pos h9]
    by_cases hm0 : m = 0
    · rw [if_pos hm0]; exact Or.inr (Or.inr ⟨rfl, fun h => absurd h h8⟩)
    rw [if_neg hm0]
    by_cases ha : 5 * m + 5 = len
    · rw [if_pos ha]
      refine Or.inr (Or.inr ⟨rfl, fun _ _ => ?_⟩)
      rw [show len - 2 = 5 * m + 3 by omega]
      omega
    rw [if_neg ha]
    by_cases hb : 48 ≤ c (5 * m + 5) ∧ c (5 * m + 5) ≤ 57
    rotate_left
    · rw [if_pos hb]; exact Or.inr (Or.inr ⟨rfl, fun h => absurd h ha⟩)
    rw [if_neg (not_not_intro hb)]
    by_cases hc : 5 * m + 6 = len
    · rw [if_pos hc]
      exact Or.inr (Or.inl ⟨rfl, hc, ⟨h1, h3, h5, h7⟩, h9, hm0, hc, hb⟩)
    · rw [if_neg hc]; exact Or.inr (Or.inr ⟨rfl, fun h => absurd h hc⟩)
  · rw [if_neg h9]
    by_cases hd : c (5 * m + 4) = 44
    · rw [if_pos hd]
      by_cases he : m < 4
      · rw [if_pos he]
        exact Or.inl ⟨rfl, ⟨h1, h3, h5, h7⟩, hd, he, by omega⟩
      · rw [if_neg he]; exact Or.inr (Or.inr ⟨rfl, fun h => absurd h h8⟩)
    · rw [if_neg hd]; exact Or.inr (Or.inr ⟨rfl, fun h => absurd h h8⟩)
theorem itle {p : Prop} {d : Decidable p} {a b N : Nat} (h1 : a ≤ N) (h2 : b ≤ N) : @ite Nat p d a b ≤ N := by by_cases h : p <;> simp [h, h1, h2]
/-- the page is whole: mn bidders -/
def WH (c : Nat → Nat) (len mn : Nat) : Prop := len = 5 * mn + 1 ∧ 2 ≤ mn ∧ mn ≤ 5 ∧ c (len - 2) = 59 ∧ (48 ≤ c (len - 1) ∧ c (len - 1) ≤ 57) ∧ ∀ i, i < mn → GB c i
theorem pages (hL : LT len cd c) (hL' : LT len pg c) : ∀ (j m kc km : Nat), m + j = 5 → 0 < j → 5 * m ≤ len → (∀ i, i < m → GB c i) → (0 < m → c (5 * m - 1) = 44) → 8 * j ≤ kc → j ≤ km → ∃ pl wh mn : Nat, f_X7_faultPlace_5 kc cd (nI len) (nI (5 * m)) 28 = some (nI pl) ∧ f_X12_read_12 km pg (nI len) (nI (5 * m)) 0 (nI m) = some (nI pl, nI wh, nI mn) ∧ pl ≤ 40 ∧ ((wh = 1 ∧ pl = len ∧ WH c len mn) ∨ (wh = 0 ∧ (pl = len → 2 ≤ len → c (len - 2) ≠ 59))) := by
  intro j
  induction j with
  | zero => intro m kc km _ h; omega
  | succ j ih =>
    intro m kc km hmj _ hp hG hpr hkc hkm
    have hl := hL.1
    obtain ⟨kc, rfl⟩ : ∃ k', kc = k' + 8 := ⟨kc - 8, by omega⟩
    obtain ⟨km, rfl⟩ : ∃ k', km = k' + 1 := ⟨km - 1, by omega⟩
    have hm : m < 5 := by omega
    obtain ⟨mn, b1, b2⟩ := mBlk hL' hm hp km
    rw [cBlk hL hm hp kc, b2]
    have hbl : (blk c len m).1 ≤ 40 := by
      unfold blk
      simp only [apply_ite Prod.fst]
      repeat' apply itle
      all_goals omega
    rcases blk_all hL hm hp (fun h => ⟨hpr h, by
      have := (hG (m - 1) (by omega)).2.2.2.2
      rw [show 5 * m - 2 = 5 * (m - 1) + 3 by omega]
      exact this⟩) with ⟨e, g, h44, h4, h5⟩ | ⟨e, e1, g, h59, hm0, h6, hd⟩ | ⟨e, h⟩
    · rw [if_pos e, if_pos e]
      refine ih (m + 1) (kc + 3) km (by omega) (by omega) (by omega) (fun i hi => ?_) (fun _ => ?_) (by omega) (by omega)
      · by_cases him : i = m
        · rw [him]; exact g
        · exact hG i (by omega)
      · rw [show 5 * (m + 1) - 1 = 5 * m + 4 by omega]; exact h44
    · rw [if_neg (by rw [e]; decide), if_neg (by rw [e]; decide)]
      refine ⟨_, _, mn, rfl, rfl, hbl, Or.inl ⟨e, e1, ?_⟩⟩
      have := b1 e
      refine ⟨by omega, by omega, by omega, ?_, ?_, fun i hi => ?_⟩
      · rw [show len - 2 = 5 * m + 4 by omega]; exact h59
      · rw [show len - 1 = 5 * m + 5 by omega]; exact hd
      · by_cases him : i = m
        · rw [him]; exact g
        · exact hG i (by omega)
    · rw [if_neg (by rw [e]; decide), if_neg (by rw [e]; decide)]
      exact ⟨_, _, mn, rfl, rfl, hbl, Or.inr ⟨e, h⟩⟩
theorem PA_LT (h : PA len cd pg) : LT len cd (fun k => (cd k).toNatClampNeg) ∧ LT len pg (fun k => (cd k).toNatClampNeg) := by
  refine ⟨⟨h.1, fun k hk => ?_⟩, h.1, fun k hk => ?_⟩ <;>
  · obtain ⟨e, x, ex, h1, h2⟩ := h.2 k hk
    dsimp only
    rw [ex, cl5 (by omega)]
    refine ⟨?_, by omega⟩
    first | rfl | (rw [e, ex])
theorem pages0 (h : PA len cd pg) : ∃ pl wh mn : Nat, f_X7_faultPlace cd (nI len) = some (nI pl) ∧ (∀ v w, f_X12_read v w pg (nI len) = some (nI pl, nI wh, nI mn)) ∧ pl ≤ 40 ∧ ((wh = 1 ∧ pl = len ∧ WH (fun k => (cd k).toNatClampNeg) len mn) ∨ (wh = 0 ∧ (pl = len → 2 ≤ len → cd (len - 2) ≠ 59))) := by
  obtain ⟨hL, hL'⟩ := PA_LT h
  obtain ⟨pl, wh, mn, a1, a2, a4, a3⟩ := pages hL hL' 5 0 4096 4096 rfl (by omega) (by omega) (fun i hi => by omega) (fun hi => by omega) (by omega) (by omega)
  refine ⟨pl, wh, mn, a1, fun v w => a2, a4, ?_⟩
  rcases a3 with h | ⟨e, h⟩
  · exact Or.inl h
  · refine Or.inr ⟨e, fun h1 h2 h3 => h h1 h2 ?_⟩
    show (cd (len - 2)).toNatClampNeg = 59
    rw [h3]; rfl
theorem q_fault (h : PA len cd pg) (v w : Int32) : ∃ (r v' w' : Int32), f_X11_fault cd (nI len) = some r ∧ f_X12_fault v w pg (nI len) = some (r, v', w') := by
  obtain ⟨pl, wh, mn, a1, a2, _⟩ := pages0 h
  exact ⟨nI pl, nI wh, nI mn, by rw [f_X11_fault, a1]; rfl, by rw [f_X12_fault, a2]; rfl⟩
theorem isHall_t (hl : len ≤ 28) (h2 : 2 ≤ len) (h59 : cd (len - 2) = 59) (hf : f_X7_faultPlace cd (nI len) = some (nI len)) : f_X7_isHall cd (nI len) = some 1 := by
  have es : nI len - 2 = nI (len - 2) := pk_sub (a := len) (b := 2) h2
  rw [f_X7_isHall, if_neg (show ¬ nI len < 2 from fun h => by have := (nI_ltI (a := len) (b := 2) (by omega) (by decide)).mp h; omega), es, if_neg (ckN (i := len - 2) (by omega) (by decide)), cl5 (by omega), if_pos h59, hf]
  simp only [Option.bind_some]
  rw [if_pos trivial]
theorem isHall_f (hl : len ≤ 28) {pl : Nat} (hpl : pl ≤ 40) (hf : f_X7_faultPlace cd (nI len) = some (nI pl)) (h : pl = len → 2 ≤ len → cd (len - 2) ≠ 59) : f_X7_isHall cd (nI len) = some 0 := by
  rw [f_X7_isHall]
  by_cases h2 : len < 2
  · rw [if_pos (show nI len < 2 from (nI_ltI (a := len) (b := 2) (by omega) (by decide)).mpr h2)]
  · have es : nI len - 2 = nI (len - 2) := pk_sub (a := len) (b := 2) (by omega)
    rw [if_neg (show ¬ nI len < 2 from fun h => by have := (nI_ltI (a := len) (b := 2) (by omega) (by decide)).mp h; omega), es, if_neg (ckN (i := len - 2) (by omega) (by decide)), cl5 (by omega)]
    by_cases h59 : cd (len - 2) = 59
    · rw [if_pos h59, hf]
      simp only [Option.bind_some]
      rw [if_neg (nE (by omega) (by omega) (fun e => h e (by omega) h59))]
    · rw [if_neg h59]
/-- the hall that a whole page tells -/
def Rd (c : Nat → Nat) (i : Nat) (K : Nat → Nat) (su wi wd ch tc : Nat → Int32) : Prop := ∀ j, j < i → K j = kdF (kN (c (5 * j))) ∧ su j = nI (c (5 * j + 2)) - 48 ∧ wi j = nI (c (5 * j + 3)) - 48 ∧ wd j = nI (c (5 * j + 1)) - 48 ∧ ch j = -1 ∧ tc j = 0
theorem cInto (hL : LT len cd c) {mn : Nat} (hw : WH c len mn) (K : Nat → Nat) (hK : ∀ i, K i < 5) (su wi wd ch tc : Nat → Int32) : ∃ (K' : Nat → Nat) (su' wi' wd' ch' tc' : Nat → Int32), (∀ i, K' i < 5) ∧ Rd c mn K' su' wi' wd' ch' tc' ∧ f_X7_readInto (nI len) cd K su wi wd ch tc = some (nI (c (len - 1)) - 48, nI mn, K', su', wi', wd', ch', tc') := by
  obtain ⟨h1, h2, h3, h4, h5, h6⟩ := hw
  obtain ⟨⟨sz, K', su', wi', wd', ch', tc'⟩, ⟨d0, d1, d2⟩, d3⟩ := lpU0 (fun k y (q : Int32 × (Nat → Nat) × (Nat → Int32) × (Nat → Int32) × (Nat → Int32) × (Nat → Int32) × (Nat → Int32)) => f_X7_readInto_14 k (nI mn) cd y q.1 q.2.1 q.2.2.1 q.2.2.2.1 q.2.2.2.2.1 q.2.2.2.2.2.1 q.2.2.2.2.2.2) (fun q => q) mn (fun i q => q.1 = nI i ∧ (∀ j, q.2.1 j < 5) ∧ Rd c i q.2.1 q.2.2.1 q.2.2.2.1 q.2.2.2.2.1 q.2.2.2.2.2.1 q.2.2.2.2.2.2) (0, K, su, wi, wd, ch, tc) (by omega) ⟨rfl, hK, fun j hj => by omega⟩
    (fun k q _ => by show f_X7_readInto_14 (k + 1) _ _ _ _ _ _ _ _ _ _ = _; rw [f_X7_readInto_14, if_pos (le_t _)])
    (fun k i q hi hI => by
      show ∃ st', _ ∧ f_X7_readInto_14 (k + 1) _ _ _ _ _ _ _ _ _ _ = _
      obtain ⟨q0, q1, q2, q3, q4, q5, q6⟩ := q
      obtain ⟨hI0, hI1, hI2⟩ := hI
      dsimp only at hI0 hI1 hI2 ⊢
      have e5 : (5 : Int32) * nI i = nI (5 * i) := pk_mul 5 i
      rw [f_X7_readInto_14, if_neg (le_f hi (by omega)), e5, hI0]
      simp only [bnd, pN1, pN2, pN3]
      rw [if_neg (ckN (i := 5 * i) (by omega) (by decide)), cl5 (i := 5 * i) (by omega), (hL.2 (5 * i) (by omega)).1, f_X7_kindOf]
      simp only [Option.bind_some]
      rw [if_neg (ckN (i := 5 * i + 1) (by omega) (by decide)), if_neg (ckN (i := 5 * i + 2) (by omega) (by decide)), if_neg (ckN (i := 5 * i + 3) (by omega) (by decide)), if_neg (ckN (i := i) (by omega) (by decide)), cl5 (i := 5 * i + 1) (by omega), cl5 (i := 5 * i + 2) (by omega), cl5 (i := 5 * i + 3) (by omega), cl5 (i := i) (by omega), (hL.2 (5 * i + 1) (by omega)).1, (hL.2 (5 * i + 2) (by omega)).1, (hL.2 (5 * i + 3) (by omega)).1]
      refine ⟨(nI (i + 1), va_up q1 i (kdF (kN (c (5 * i)))), upd q2 i (nI (c (5 * i + 2)) - 48), upd q3 i (nI (c (5 * i + 3)) - 48), upd q4 i (nI (c (5 * i + 1)) - 48), upd q5 i (-1), upd q6 i 0), ⟨rfl, fun j => ?_, fun j hj => ?_⟩, rfl⟩
      · show va_up q1 i _ j < 5
        by_cases hji : j = i
        · rw [hji, va_up_self]; exact kdF_lt _
        · rw [va_up_ne _ _ hji]; exact hI1 j
      · show va_up q1 i _ j = _ ∧ upd q2 i _ j = _ ∧ upd q3 i _ j = _ ∧ upd q4 i _ j = _ ∧ upd q5 i _ j = _ ∧ upd q6 i _ j = _
        by_cases hji : j = i
        · rw [hji, va_up_self, upd_eq, upd_eq, upd_eq, upd_eq, upd_eq]
          exact ⟨rfl, rfl, rfl, rfl, rfl, rfl⟩
        · rw [va_up_ne _ _ hji, upd_ne hji, upd_ne hji, upd_ne hji, upd_ne hji, upd_ne hji]
          exact hI2 j (by omega))
  have hl := hL.1
  refine ⟨K', su', wi', wd', ch', tc', d1, d2, ?_⟩
  have d0' : sz = nI mn := d0
  have d3' : f_X7_readInto_14 4096 (nI mn) cd 0 0 K su wi wd ch tc = some (sz, K', su', wi', wd', ch', tc') := d3
  have ed : nI len / 5 = nI mn := by
    have := pk_div (a := len) (d := 5) (by omega) (by decide) (by decide)
    rw [show len / 5 = mn by omega] at this
    exact this
  have es : nI len - 1 = nI (len - 1) := pk_sub (a := len) (b := 1) (by omega)
  rw [f_X7_readInto]
  simp only [bnd]
  rw [ed, d3', d0', es]
  simp only [Option.bind_some]
  rw [if_neg (ckN (i := len - 1) (by omega) (by decide)), cl5 (by omega), (hL.2 (len - 1) (by omega)).1]
def RdM (c : Nat → Nat) (i : Nat) (ki so wio wo co tb : Nat → Int32) : Prop := ∀ j, j < i → ki j = kN (c (5 * j)) ∧ so j = nI (c (5 * j + 2)) - 48 ∧ wio j = nI (c (5 * j + 3)) - 48 ∧ wo j = nI (c (5 * j + 1)) - 48 ∧ co j = -1 ∧ tb j = 0
theorem mInto (hL : LT len pg c) {mn : Nat} (hw : WH c len mn) (fa h hd iw nm pl : Int32) (co ki so tb wo wio : Nat → Int32) : ∃ ki' so' wio' wo' co' tb' : Nat → Int32, RdM c mn ki' so' wio' wo' co' tb' ∧ f_X12_hall_40 4096 pg 0 (nI mn) co fa h hd iw ki nm pl so tb wo wio = some (nI mn, nI mn, co', fa, h, hd, iw, ki', nm, pl, so', tb', wo', wio') := by
  obtain ⟨h1, h2, h3, h4, h5, h6⟩ := hw
  obtain ⟨⟨co', ki', so', tb', wo', wio'⟩, d2, d3⟩ := lpU0 (fun k y (q : (Nat → Int32) × (Nat → Int32) × (Nat → Int32) × (Nat → Int32) × (Nat → Int32) × (Nat → Int32)) => f_X12_hall_40 k pg y (nI mn) q.1 fa h hd iw q.2.1 nm pl q.2.2.1 q.2.2.2.1 q.2.2.2.2.1 q.2.2.2.2.2) (fun q => (nI mn, nI mn, q.1, fa, h, hd, iw, q.2.1, nm, pl, q.2.2.1, q.2.2.2.1, q.2.2.2.2.1, q.2.2.2.2.2)) mn (fun i q => RdM c i q.2.1 q.2.2.1 q.2.2.2.2.2 q.2.2.2.2.1 q.1 q.2.2.2.1) (co, ki, so, tb, wo, wio) (by omega) (fun j hj => by omega)
    (fun k q _ => by show f_X12_hall_40 (k + 1) _ _ _ _ _ _ _ _ _ _ _ _ _ _ _ = _; rw [f_X12_hall_40, if_pos (le_t _)])
    (fun k i q hi hI => by
      show ∃ st', _ ∧ f_X12_hall_40 (k + 1) _ _ _ _ _ _ _ _ _ _ _ _ _ _ _ = _
      obtain ⟨q1, q2, q3, q4, q5, q6⟩ := q
      dsimp only at hI ⊢
      have hl := hL.1
      have e5 : (5 : Int32) * nI i = nI (5 * i) := pk_mul 5 i
      rw [f_X12_hall_40, if_neg (le_f hi (by omega)), e5]
      simp only [bnd, pN1, pN2, pN3]
      rw [if_neg (ckN (i := 5 * i) (by omega) (by decide)), cl5 (i := 5 * i) (by omega), (hL.2 (5 * i) (by omega)).1, kn_m _ (hL.2 (5 * i) (by omega)).2]
      simp only [Option.bind_some]
      rw [if_neg (ckN (i := i) (by omega) (by decide)), if_neg (ckN (i := 5 * i + 1) (by omega) (by decide)), if_neg (ckN (i := 5 * i + 2) (by omega) (by decide)), if_neg (ckN (i := 5 * i + 3) (by omega) (by decide)), cl5 (i := 5 * i + 1) (by omega), cl5 (i := 5 * i + 2) (by omega), cl5 (i := 5 * i + 3) (by omega), cl5 (i := i) (by omega), (hL.2 (5 * i + 1) (by omega)).1, (hL.2 (5 * i + 2) (by omega)).1, (hL.2 (5 * i + 3) (by omega)).1]
      refine ⟨(upd q1 i (-1), upd q2 i (kN (c (5 * i))), upd q3 i (nI (c (5 * i + 2)) - 48), upd q4 i 0, upd q5 i (nI (c (5 * i + 1)) - 48), upd q6 i (nI (c (5 * i + 3)) - 48)), fun j hj => ?_, rfl⟩
      show upd q2 i _ j = _ ∧ upd q3 i _ j = _ ∧ upd q6 i _ j = _ ∧ upd q5 i _ j = _ ∧ upd q1 i _ j = _ ∧ upd q4 i _ j = _
      by_cases hji : j = i
      · rw [hji, upd_eq, upd_eq, upd_eq, upd_eq, upd_eq, upd_eq]
        exact ⟨rfl, rfl, rfl, rfl, rfl, rfl⟩
      · rw [upd_ne hji, upd_ne hji, upd_ne hji, upd_ne hji, upd_ne hji, upd_ne hji]
        exact hI j (by omega))
  exact ⟨ki', so', wio', wo', co', tb', d2, d3⟩
theorem newHA (hL : LT len cd c) {mn : Nat} (hw : WH c len mn) {K : Nat → Nat} {su wi wd ch tc ki so wio wo co tb : Nat → Int32} (h1 : Rd c mn K su wi wd ch tc) (h2 : RdM c mn ki so wio wo co tb) : HA mn K su wi wd ch tc ki wo so wio co tb := by
  obtain ⟨w1, w2, w3, w4, w5, w6⟩ := hw
  refine ⟨w3, fun i hi => ?_⟩
  obtain ⟨a1, a2, a3, a4, a5, a6⟩ := h1 i hi
  obtain ⟨b1, b2, b3, b4, b5, b6⟩ := h2 i hi
  obtain ⟨g1, g2, g3, g4⟩ := w6 i hi
  have x0 := (hL.2 (5 * i) (by omega)).2
  have sb : ∀ x : Nat, 48 ≤ x → nI x - 48 = nI (x - 48) := fun x hx => pk_sub (a := x) (b := 48) hx
  rw [a1, a2, a3, a4, a5, a6, b1, b2, b3, b4, b5, b6]
  refine ⟨⟨kdF_lt _, ⟨c (5 * i + 1) - 48, sb _ (by omega), by omega, by omega⟩, Or.inl rfl⟩, ⟨c (5 * i + 2) - 48, sb _ (by omega), by omega⟩, ⟨c (5 * i + 3) - 48, sb _ (by omega), by omega⟩, ⟨0, rfl, Nat.pow_pos (by decide)⟩, (kn_k _ x0 g1).1.symm, rfl, rfl, rfl, rfl, rfl⟩
variable {n : Nat} {K : Nat → Nat} {su wi wd ch tc : Nat → Int32} {ki wo so wio co tb : Nat → Int32} {fa : Int32}
theorem q_hall (hP : PA len cd pg) (hK : ∀ i, K i < 5) (h : Nat) (hs mh iw nm : Int32) :
    (∃ iw' nm' : Int32, f_X11_hall (nI len) (nI n) fa hs (nI h) cd K su wi wd ch tc = some (-103, nI len, hs, nI h, fa, K, su, wi, wd, ch, tc, nI n) ∧ f_X12_hall (nI n) co fa (nI h) mh iw ki nm pg (nI len) so tb wo wio = some (-103, nI n, co, fa, nI h, mh, iw', ki, nm', nI len, so, tb, wo, wio)) ∨
    (∃ (n' : Nat) (fa' : Int32) (K' : Nat → Nat) (su' wi' wd' ch' tc' ki' wo' so' wio' co' tb' : Nat → Int32) (iw' nm' : Int32), f_X11_hall (nI len) (nI n) fa hs (nI h) cd K su wi wd ch tc = some (nI n', 0, 0, nI (h + 1), fa', K', su', wi', wd', ch', tc', nI n') ∧ f_X12_hall (nI n) co fa (nI h) mh iw ki nm pg (nI len) so tb wo wio = some (nI n', nI n', co', fa', nI (h + 1), 0, iw', ki', nm', 0, so', tb', wo', wio') ∧ HA n' K' su' wi' wd' ch' tc' ki' wo' so' wio' co' tb' ∧ (∀ i, K' i < 5) ∧ 0 < n') := by
  have hl := hP.1
  obtain ⟨hL, hL'⟩ := PA_LT hP
  obtain ⟨pl, wh, mn, a1, a2, a4, a3⟩ := pages0 hP
  rcases a3 with ⟨e1, e2, hw⟩ | ⟨e1, hw⟩
  · right
    subst e1 e2
    obtain ⟨K', su', wi', wd', ch', tc', b1, b2, b3⟩ := cInto hL hw K hK su wi wd ch tc
    have h2 : 2 ≤ pl := by have := hw.1; have := hw.2.1; omega
    have h59 : cd (pl - 2) = 59 := by
      rw [(hL.2 (pl - 2) (by omega)).1]
      have := hw.2.2.2.1
      dsimp only at this ⊢
      rw [this]; rfl
    obtain ⟨ki', so', wio', wo', co', tb', c1, c2⟩ := mInto hL' hw (nI ((cd (pl - 1)).toNatClampNeg) - 48) (nI h) mh (nI 1) (nI mn) (nI pl) co ki so tb wo wio
    refine ⟨mn, nI ((cd (pl - 1)).toNatClampNeg) - 48, K', su', wi', wd', ch', tc', ki', wo', so', wio', co', tb', nI 1, nI mn, ?_, ?_, newHA hL hw b2 c1, b1, by have := hw.2.1; omega⟩
    · rw [f_X11_hall, isHall_t hl h2 h59 a1]
      simp only [Option.bind_some]
      rw [if_neg c10, b3]
      simp only [Option.bind_some, bnd, nI_1]
    · have es : nI pl - 1 = nI (pl - 1) := pk_sub (a := pl) (b := 1) (by omega)
      rw [f_X12_hall, a2]
      simp only [Option.bind_some]
      rw [if_neg (show ¬ nI 1 = 0 by decide), es, if_neg (ckN (i := pl - 1) (by omega) (by decide)), cl5 (i := pl - 1) (by omega), (hL'.2 (pl - 1) (by omega)).1]
      simp only [bnd]
      rw [c2]
      simp only [Option.bind_some, nI_1]
  · left
    subst e1
    refine ⟨nI 0, nI mn, ?_, ?_⟩
    · rw [f_X11_hall, isHall_f hl a4 a1 hw]
      rfl
    · rw [f_X12_hall, a2]
      rfl
end
