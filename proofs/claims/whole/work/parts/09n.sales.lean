section
theorem lN_and {x : Nat} (h : x < 2 ^ 64) : lN x &&& 2147483647 = lN (x % 2147483648) := by
  apply Int64.toBitVec_inj.mp
  apply BitVec.eq_of_toNat_eq
  show (BitVec.ofNat 64 x &&& 2147483647#64).toNat = (BitVec.ofNat 64 (x % 2147483648)).toNat
  have e : (BitVec.ofNat 64 (x % 2147483648)).toNat = x % 2147483648 := by rw [BitVec.toNat_ofNat]; exact Nat.mod_eq_of_lt (by omega)
  rw [e, BitVec.toNat_and, BitVec.toNat_ofNat, Nat.mod_eq_of_lt h]
  exact Nat.and_two_pow_sub_one_eq_mod x 31
/-- the next seed -/
def lc (s : Nat) : Nat := (1103515245 * s + 12345) % 2147483648
theorem lc_lt (s : Nat) : lc s < 2 ^ 31 := Nat.mod_lt _ (by decide)
theorem lc_l {s : Nat} (h : s < 2 ^ 31) : ((1103515245 * lN s) + 12345) &&& 2147483647 = lN (lc s) := by
  have e : ((1103515245 * lN s) + 12345 : Int64) = lN (1103515245 * s + 12345) := by
    rw [← lN_add, ← lN_mul]; rfl
  rw [e, lN_and (by omega), lc]
theorem lc_i {s : Nat} (h : s < 2 ^ 31) : Int64.toInt32 (((1103515245 * (nI s).toInt64) + 12345) &&& 2147483647) = nI (lc s) := by
  rw [nI_l h, lc_l h, lN_i]
/-- what is drawn at a seed -/
def dn (s : Nat) : Nat := s / 65536 % 9
theorem dn_i {s : Nat} (h : s < 2 ^ 31) : (1 + ((nI s / 65536) - (nI s / 65536) / 9 * 9) : Int32) = nI (1 + dn s) := by
  have e1 : nI s / 65536 = nI (s / 65536) := pk_div (d := 65536) h (by decide) (by decide)
  have e2 : nI (s / 65536) - nI (s / 65536) / 9 * 9 = nI (s / 65536 % 9) := pk_rem (d := 9) (by omega) (by decide) (by decide)
  rw [e1, e2, ← nI_add]; rfl
theorem dr_m {s : Nat} (h : s < 2 ^ 31) : f_X12_draw 9 (lN s) = some (nI (dn (lc s)), lN (lc s)) := by
  have h9 : Int32.toInt64 9 = lN 9 := rfl
  have h0 : ¬ lN 9 = 0 := by decide
  have hl := lc_lt s
  have e1 : lN (lc s) / 65536 = lN (lc s / 65536) := pk_lDiv (b := 65536) (by omega) (by decide) (by decide)
  have e2 : lN (lc s / 65536) - lN (lc s / 65536) / lN 9 * lN 9 = lN (lc s / 65536 % 9) := pk_lRem (b := 9) (by omega) (by decide) (by decide)
  rw [f_X12_draw]
  simp only [bnd]
  rw [lc_l h, h9, if_neg h0, e1, e2, lN_i]
  rfl
/-- the seed after k draws -/
def sd (s : Nat) : Nat → Nat
  | 0 => s
  | k + 1 => lc (sd s k)
theorem sd_lt {s : Nat} (h : s < 2 ^ 31) : ∀ k, sd s k < 2 ^ 31
  | 0 => h
  | _ + 1 => lc_lt _
/-- the choices drawn from a seed -/
def dch (s i : Nat) : Int32 := nI (1 + dn (sd s (i + 1)))
theorem dch_ok (s i : Nat) : chOk (dch s i) := Or.inr ⟨_, rfl, by omega, by have : dn (sd s (i + 1)) < 9 := Nat.mod_lt _ (by decide); omega⟩
variable {n : Nat} {K : Nat → Nat} {su wi wd ch tc : Nat → Int32} {ki wo so wio co tb : Nat → Int32} {fa : Int32}
theorem cDraw (hn : n ≤ 5) {s : Nat} (hs : s < 2 ^ 31) (en : Nat → Int32) : ∃ en' : Nat → Int32, (∀ i, i < n → en' i = endF (K i) (dch s i) (wd i)) ∧ f_X11_supposeDrawnChoices (nI s) K wd en (nI n) = some (nI (sd s n), en') := by
  obtain ⟨⟨y, en'⟩, ⟨c0, c1⟩, c2⟩ := lpU0 (fun k y (q : Int32 × (Nat → Int32)) => f_X11_supposeDrawnChoices_4 k (nI s) K wd (nI n) y q.1 q.2) (fun q => (nI n, q.1, q.2)) n (fun i q => q.1 = nI (sd s i) ∧ ∀ j, j < i → q.2 j = endF (K j) (dch s j) (wd j)) (nI s, en) (by omega) ⟨rfl, fun j hj => by omega⟩
    (fun k q _ => by show f_X11_supposeDrawnChoices_4 (k + 1) _ _ _ _ _ _ _ = _; rw [f_X11_supposeDrawnChoices_4, if_pos (le_t n)])
    (fun k i q hi hI => by
      show ∃ st', _ ∧ f_X11_supposeDrawnChoices_4 (k + 1) _ _ _ _ _ _ _ = _
      obtain ⟨q1, q2⟩ := q
      obtain ⟨hI1, hI2⟩ := hI
      dsimp only at hI1 hI2 ⊢
      rw [f_X11_supposeDrawnChoices_4, if_neg (le_f hi (by omega)), hI1]
      simp only [bnd]
      rw [lc_i (sd_lt hs i), dn_i (lc_lt _), f_X2_supposeChoice, if_neg (ckN (i := i) (by omega) (by decide)), cl5 (i := i) (by omega)]
      simp only [Option.bind_some, nI_1]
      refine ⟨(nI (lc (sd s i)), upd q2 i (endF (K i) (nI (1 + dn (lc (sd s i)))) (wd i))), ⟨rfl, fun j hj => ?_⟩, rfl⟩
      by_cases hji : j = i
      · subst hji; exact upd_eq _ _ _
      · show upd q2 i _ j = _
        rw [upd_ne hji]; exact hI2 j (by omega))
  refine ⟨en', c1, ?_⟩
  rw [f_X11_supposeDrawnChoices]
  have c2' : f_X11_supposeDrawnChoices_4 4096 (nI s) K wd (nI n) 0 (nI s) en = some (nI n, y, en') := c2
  have c0' : y = nI (sd s n) := c0
  rw [c2', c0']
  rfl
theorem mDraw (hn : n ≤ 5) {s : Nat} (hs : s < 2 ^ 31) (x1 x2 x3 y4 y5 y6 : Int32) (co sv st : Nat → Int32) : ∃ co' : Nat → Int32, (∀ i, i < n → co' i = dch s i) ∧ f_X12_salesNow_28 4096 x1 x2 x3 (nI n) fa ki so tb wo 0 y6 y5 y4 co sv (lN s) st = some (nI n, y6, y5, y4, co', sv, lN (sd s n), st) := by
  obtain ⟨⟨co', y⟩, ⟨c0, c1⟩, c2⟩ := lpU0 (fun k y (q : (Nat → Int32) × Int64) => f_X12_salesNow_28 k x1 x2 x3 (nI n) fa ki so tb wo y y6 y5 y4 q.1 sv q.2 st) (fun q => (nI n, y6, y5, y4, q.1, sv, q.2, st)) n (fun i q => q.2 = lN (sd s i) ∧ ∀ j, j < i → q.1 j = dch s j) (co, lN s) (by omega) ⟨rfl, fun j hj => by omega⟩
    (fun k q _ => by show f_X12_salesNow_28 (k + 1) _ _ _ _ _ _ _ _ _ _ _ _ _ _ _ _ _ = _; rw [f_X12_salesNow_28, if_pos (le_t n)])
    (fun k i q hi hI => by
      show ∃ st', _ ∧ f_X12_salesNow_28 (k + 1) _ _ _ _ _ _ _ _ _ _ _ _ _ _ _ _ _ = _
      obtain ⟨q1, q2⟩ := q
      obtain ⟨hI1, hI2⟩ := hI
      dsimp only at hI1 hI2 ⊢
      rw [f_X12_salesNow_28, if_neg (le_f hi (by omega)), hI1, dr_m (sd_lt hs i)]
      simp only [Option.bind_some, bnd]
      rw [if_neg (ckN (i := i) (by omega) (by decide)), cl5 (i := i) (by omega)]
      simp only [nI_1]
      refine ⟨(upd q1 i (1 + nI (dn (lc (sd s i)))), lN (lc (sd s i))), ⟨rfl, fun j hj => ?_⟩, rfl⟩
      by_cases hji : j = i
      · subst hji
        show upd q1 j _ j = _
        rw [upd_eq, dch, ← nI_add]; rfl
      · show upd q1 i _ j = _
        rw [upd_ne hji]; exact hI2 j (by omega))
  refine ⟨co', c1, ?_⟩
  have c0' : y = lN (sd s n) := c0
  rw [← c0']
  exact c2
/-- the seed before the k-th sale -/
def sq (n s : Nat) : Nat → Nat
  | 0 => s
  | k + 1 => sd (sq n s k) n
theorem sq_lt {s : Nat} (h : s < 2 ^ 31) : ∀ k, sq n s k < 2 ^ 31
  | 0 => h
  | k + 1 => sd_lt (sq_lt h k) n
noncomputable def sGot (n : Nat) (K : Nat → Nat) (wd tc : Nat → Int32) (s k : Nat) : Int32 := gH n K (dch (sq n s k)) wd tc
noncomputable def sSold (n : Nat) (K : Nat → Nat) (wd tc : Nat → Int32) (s : Nat) : Nat → Int32
  | 0 => 0
  | k + 1 => if sGot n K wd tc s k = -1 then sSold n K wd tc s k else sSold n K wd tc s k + 1
noncomputable def sPrice (n : Nat) (K : Nat → Nat) (su wd tc : Nat → Int32) (fa : Int32) (s : Nat) : Nat → Int32
  | 0 => 0
  | k + 1 => if sGot n K wd tc s k = -1 then sPrice n K su wd tc fa s k else sPrice n K su wd tc fa s k + prH n K su fa (dch (sq n s k)) wd tc (sGot n K wd tc s k).toNatClampNeg
theorem vdch (hV : Vd n K ch wd) (s : Nat) : Vd n K (dch s) wd := fun i hi => ⟨(hV i hi).1, (hV i hi).2.1, dch_ok s i⟩
theorem cSales (hn : n ≤ 5) (hV : Vd n K ch wd) {s : Nat} (hs : s < 2 ^ 31) (x2 x3 : Int32) {m : Nat} (hm : m ≤ 60) (en : Nat → Int32) (g0 : Int32) (sl st tt : Nat → Int32) (htt : ∀ i, i < n → tt i = tc i) : ∃ (en' : Nat → Int32) (g' : Int32) (sl' st' : Nat → Int32), f_X11_sales_59 4096 (nI m) x2 x3 K ch su tc wd fa (nI n) 0 (nI s) 0 0 en g0 sl st tt = some (nI m, nI (sq n s m), sPrice n K su wd tc fa s m, sSold n K wd tc s m, en', g', sl', st', tt) := by
  obtain ⟨⟨a, b, c, en', g', sl', st'⟩, ⟨c0, c1, c2⟩, c3⟩ := lpU0 (fun k y (q : Int32 × Int32 × Int32 × (Nat → Int32) × Int32 × (Nat → Int32) × (Nat → Int32)) => f_X11_sales_59 k (nI m) x2 x3 K ch su tc wd fa (nI n) y q.1 q.2.1 q.2.2.1 q.2.2.2.1 q.2.2.2.2.1 q.2.2.2.2.2.1 q.2.2.2.2.2.2 tt) (fun q => (nI m, q.1, q.2.1, q.2.2.1, q.2.2.2.1, q.2.2.2.2.1, q.2.2.2.2.2.1, q.2.2.2.2.2.2, tt)) m (fun i q => q.1 = nI (sq n s i) ∧ q.2.1 = sPrice n K su wd tc fa s i ∧ q.2.2.1 = sSold n K wd tc s i) (nI s, 0, 0, en, g0, sl, st) (by omega) ⟨rfl, rfl, rfl⟩
    (fun k q _ => by show f_X11_sales_59 (k + 1) _ _ _ _ _ _ _ _ _ _ _ _ _ _ _ _ _ _ _ = _; rw [f_X11_sales_59, if_pos (le_t m)])
    (fun k i q hi hI => by
      show ∃ st', _ ∧ f_X11_sales_59 (k + 1) _ _ _ _ _ _ _ _ _ _ _ _ _ _ _ _ _ _ _ = _
      obtain ⟨q1, q2, q3, q4, q5, q6, q7⟩ := q
      obtain ⟨hI1, hI2, hI3⟩ := hI
      dsimp only at hI1 hI2 hI3 ⊢
      obtain ⟨e', he1, he2⟩ := cDraw (K := K) (wd := wd) hn (sq_lt hs i) q4
      obtain ⟨sl', st', r1, r2, r3⟩ := cRunH (tc := tc) hn (vdch hV (sq n s i)) he1 htt q5 q6 q7
      rw [f_X11_sales_59, if_neg (le_f hi (by omega)), hI1, he2]
      simp only [Option.bind_some]
      rw [r3]
      simp only [Option.bind_some, bnd, nI_1]
      rcases gH_cases n K (dch (sq n s i)) wd tc with ⟨g, hg, e⟩ | e
      · have hne : ¬ sGot n K wd tc s i = -1 := by rw [sGot, e]; exact nI_m1 (by omega)
        have ep : f_X2_priceOf (gH n K (dch (sq n s i)) wd tc) K su fa st' = some (prH n K su fa (dch (sq n s i)) wd tc (gH n K (dch (sq n s i)) wd tc).toNatClampNeg) := by
          rw [e, f_X2_priceOf, if_neg (ckN (i := g) (by omega) (by decide)), cl5 (by omega), r1 g hg]; rfl
        rw [if_neg (show ¬ gH n K (dch (sq n s i)) wd tc = -1 from hne), ep]
        simp only [Option.bind_some]
        refine ⟨(nI (sd (sq n s i) n), q2 + prH n K su fa (dch (sq n s i)) wd tc (gH n K (dch (sq n s i)) wd tc).toNatClampNeg, q3 + 1, e', gH n K (dch (sq n s i)) wd tc, sl', st'), ⟨rfl, ?_, ?_⟩, rfl⟩
        · rw [sPrice, if_neg hne, ← hI2]; rfl
        · rw [sSold, if_neg hne, ← hI3]
      · have hne : sGot n K wd tc s i = -1 := e
        rw [if_pos e]
        refine ⟨(nI (sd (sq n s i) n), q2, q3, e', gH n K (dch (sq n s i)) wd tc, sl', st'), ⟨rfl, ?_, ?_⟩, rfl⟩
        · rw [sPrice, if_pos hne, ← hI2]
        · rw [sSold, if_pos hne, ← hI3])
  refine ⟨en', g', sl', st', ?_⟩
  have c0' : a = nI (sq n s m) := c0
  have c1' : b = sPrice n K su wd tc fa s m := c1
  have c2' : c = sSold n K wd tc s m := c2
  rw [← c0', ← c1', ← c2']
  exact c3
theorem mSales (hH : HA n K su wi wd ch tc ki wo so wio co tb) (h0 : 0 < n) {s : Nat} (hs : s < 2 ^ 31) (x2 x3 : Int32) {m : Nat} (hm : m ≤ 60) (sv st : Nat → Int32) : ∃ (co' st' : Nat → Int32), f_X12_salesNow_19 4096 (nI m) x2 x3 (nI n) fa ki so tb wo 0 0 0 co sv (lN s) st = some (nI m, sPrice n K su wd tc fa s m, sSold n K wd tc s m, co', sv, lN (sq n s m), st') := by
  have hn := hH.1
  obtain ⟨⟨b, c, co', a, st'⟩, ⟨c0, c1, c2⟩, c3⟩ := lpU0 (fun k y (q : Int32 × Int32 × (Nat → Int32) × Int64 × (Nat → Int32)) => f_X12_salesNow_19 k (nI m) x2 x3 (nI n) fa ki so tb wo y q.1 q.2.1 q.2.2.1 sv q.2.2.2.1 q.2.2.2.2) (fun q => (nI m, q.1, q.2.1, q.2.2.1, sv, q.2.2.2.1, q.2.2.2.2)) m (fun i q => q.2.2.2.1 = lN (sq n s i) ∧ q.1 = sPrice n K su wd tc fa s i ∧ q.2.1 = sSold n K wd tc s i) (0, 0, co, lN s, st) (by omega) ⟨rfl, rfl, rfl⟩
    (fun k q _ => by show f_X12_salesNow_19 (k + 1) _ _ _ _ _ _ _ _ _ _ _ _ _ _ _ _ = _; rw [f_X12_salesNow_19, if_pos (le_t m)])
    (fun k i q hi hI => by
      show ∃ st', _ ∧ f_X12_salesNow_19 (k + 1) _ _ _ _ _ _ _ _ _ _ _ _ _ _ _ _ = _
      obtain ⟨q2, q3, q4, q1, q5⟩ := q
      obtain ⟨hI1, hI2, hI3⟩ := hI
      dsimp only at hI1 hI2 hI3 ⊢
      obtain ⟨e', he1, he2⟩ := mDraw (ki := ki) (so := so) (tb := tb) (wo := wo) (fa := fa) hn (sq_lt hs i) (nI m) x2 x3 q3 q2 (nI i) q4 sv q5
      have hH' : HA n K su wi wd (dch (sq n s i)) tc ki wo so wio e' tb := hH.mono hH.w (fun j hj => ⟨dch_ok _ _, he1 j hj⟩) hH.t
      obtain ⟨st', r1, r3⟩ := mLay (tc := tc) h0 hn hH'.V hH'.eki hH'.eco hH'.ewo hH'.etb q5
      rw [f_X12_salesNow_19, if_neg (le_f hi (by omega)), hI1, he2]
      simp only [Option.bind_some]
      rw [r3]
      simp only [Option.bind_some]
      rw [mGet hn hH'.V hH'.eki r1]
      simp only [Option.bind_some, bnd, nI_1]
      rcases gH_cases n K (dch (sq n s i)) wd tc with ⟨g, hg, e⟩ | e
      · have hne : ¬ sGot n K wd tc s i = -1 := by rw [sGot, e]; exact nI_m1 (by omega)
        have ep : f_X12_priceOf (gH n K (dch (sq n s i)) wd tc) fa ki st' so = some (prH n K su fa (dch (sq n s i)) wd tc (gH n K (dch (sq n s i)) wd tc).toNatClampNeg) := by
          rw [e, cl5 (by omega)]
          exact mPri (fa := fa) hg hn hH'.K5 (hH'.osu g hg) hH'.eki r1 (hH'.eso g hg)
        rw [if_neg (show ¬ gH n K (dch (sq n s i)) wd tc = -1 from hne), ep]
        simp only [Option.bind_some]
        refine ⟨(q2 + prH n K su fa (dch (sq n s i)) wd tc (gH n K (dch (sq n s i)) wd tc).toNatClampNeg, q3 + 1, e', lN (sd (sq n s i) n), st'), ⟨rfl, ?_, ?_⟩, rfl⟩
        · rw [sPrice, if_neg hne, ← hI2]; rfl
        · rw [sSold, if_neg hne, ← hI3]
      · have hne : sGot n K wd tc s i = -1 := e
        rw [if_pos e, Int32.add_zero, Int32.add_zero]
        refine ⟨(q2, q3, e', lN (sd (sq n s i) n), st'), ⟨rfl, ?_, ?_⟩, rfl⟩
        · rw [sPrice, if_pos hne, ← hI2]
        · rw [sSold, if_pos hne, ← hI3])
  refine ⟨co', st', ?_⟩
  have c0' : a = lN (sq n s m) := c0
  have c1' : b = sPrice n K su wd tc fa s m := c1
  have c2' : c = sSold n K wd tc s m := c2
  rw [← c0', ← c1', ← c2']
  exact c3
theorem mSave (hn : n ≤ 5) (co sv : Nat → Int32) : ∃ sv' : Nat → Int32, (∀ i, i < n → sv' i = co i) ∧ f_X12_save (nI n) co sv = some sv' := by
  obtain ⟨sv', c1, c2⟩ := lpU0 (fun k y q => f_X12_save_2 k (nI n) co y q) (fun q => (nI n, q)) n (fun i q => ∀ j, j < i → q j = co j) sv (by omega) (fun j hj => by omega)
    (fun k q _ => by show f_X12_save_2 (k + 1) _ _ _ _ = _; rw [f_X12_save_2, if_pos (le_t n)])
    (fun k i q hi hI => by
      show ∃ st', _ ∧ f_X12_save_2 (k + 1) _ _ _ _ = _
      rw [f_X12_save_2, if_neg (le_f hi (by omega)), if_neg (ckN (i := i) (by omega) (by decide)), cl5 (i := i) (by omega)]
      simp only [bnd, nI_1]
      refine ⟨_, fun j hj => ?_, rfl⟩
      by_cases hji : j = i
      · subst hji; exact upd_eq _ _ _
      · rw [upd_ne hji]; exact hI j (by omega))
  refine ⟨sv', c1, ?_⟩
  rw [f_X12_save]
  have c2' : f_X12_save_2 4096 (nI n) co 0 sv = some (nI n, sv') := c2
  rw [c2']
  rfl
theorem mLoad (hn : n ≤ 5) (co sv : Nat → Int32) : ∃ co' : Nat → Int32, (∀ i, i < n → co' i = sv i) ∧ f_X12_load (nI n) co sv = some co' := by
  obtain ⟨sv', c1, c2⟩ := lpU0 (fun k y q => f_X12_load_2 k (nI n) sv y q) (fun q => (nI n, q)) n (fun i q => ∀ j, j < i → q j = sv j) co (by omega) (fun j hj => by omega)
    (fun k q _ => by show f_X12_load_2 (k + 1) _ _ _ _ = _; rw [f_X12_load_2, if_pos (le_t n)])
    (fun k i q hi hI => by
      show ∃ st', _ ∧ f_X12_load_2 (k + 1) _ _ _ _ = _
      rw [f_X12_load_2, if_neg (le_f hi (by omega)), if_neg (ckN (i := i) (by omega) (by decide)), cl5 (i := i) (by omega)]
      simp only [bnd, nI_1]
      refine ⟨_, fun j hj => ?_, rfl⟩
      by_cases hji : j = i
      · subst hji; exact upd_eq _ _ _
      · rw [upd_ne hji]; exact hI j (by omega))
  refine ⟨sv', c1, ?_⟩
  rw [f_X12_load]
  have c2' : f_X12_load_2 4096 (nI n) sv 0 co = some (nI n, sv') := c2
  rw [c2']
  rfl
theorem i_nat {x : Int32} (h : ¬ x < 0) : ∃ s : Nat, x = nI s ∧ s < 2 ^ 31 := by
  obtain ⟨k, e, _, h2⟩ := rng (lo := 0) (hi := 2147483647) h (show x ≤ nI 2147483647 by
    rw [Int32.le_iff_toInt_le]
    have := x.toInt_lt
    have e : (nI 2147483647).toInt = 2147483647 := by decide
    omega) (by decide) (by decide)
  exact ⟨k, e, by omega⟩
theorem q_sales (hH : HA n K su wi wd ch tc ki wo so wio co tb) (x1 x2 x3 : Int32) (en : Nat → Int32) (g0 : Int32) (sl st tt ms sv : Nat → Int32) (sn : Int64) : ∃ (r : Int32) (en' : Nat → Int32) (g' : Int32) (sl' st' tt' co' sv' : Nat → Int32) (sn' : Int64) (ms' : Nat → Int32), f_X11_sales x1 x2 x3 K ch su tc wd en g0 sl st tt fa (nI n) = some (r, en', g', sl', st', tt') ∧ f_X12_sales x1 x2 x3 (nI n) co fa ki sv sn ms so tb wo = some (r, co', sv', sn', ms') ∧ HA n K su wi wd ch tc ki wo so wio co' tb := by
  have hn := hH.1
  by_cases h1 : x1 < 1
  · refine ⟨-102, en, g0, sl, st, tt, co, sv, sn, ms, ?_, ?_, hH⟩
    · rw [f_X11_sales, if_pos h1]
    · rw [f_X12_sales, wi_lo h1]; rfl
  by_cases h2 : x1 ≤ 60
  · have h2' : ¬ 60 < x1 := Int32.not_lt.mpr h2
    by_cases h3 : x2 < 0
    · refine ⟨-102, en, g0, sl, st, tt, co, sv, sn, ms, ?_, ?_, hH⟩
      · rw [f_X11_sales, if_neg h1, if_neg h2', if_pos h3]
      · rw [f_X12_sales, wi_in h1 h2]
        simp only [Option.bind_some]
        rw [if_neg c10, if_pos h3]
    by_cases h4 : x3 < 0
    · refine ⟨-102, en, g0, sl, st, tt, co, sv, sn, ms, ?_, ?_, hH⟩
      · rw [f_X11_sales, if_neg h1, if_neg h2', if_neg h3, if_pos h4]
      · rw [f_X12_sales, wi_in h1 h2, wi_lo h4]
        simp only [Option.bind_some]
        rw [if_neg c10, if_neg h3]; rfl
    by_cases h5 : x3 ≤ 2
    · by_cases h0 : n = 0
      · subst h0
        refine ⟨-103, en, g0, sl, st, tt, co, sv, sn, ms, ?_, ?_, hH⟩
        · rw [f_X11_sales, if_neg h1, if_neg h2', if_neg h3, if_neg h4, if_pos h5]; rfl
        · rw [f_X12_sales, wi_in h1 h2, wi_in h4 h5]
          simp only [Option.bind_some]
          rw [if_neg c10, if_neg h3, if_neg c10]; rfl
      · have hz : ¬ nI n = 0 := nI_ne0 (by omega) (by omega)
        obtain ⟨m, rfl, hm1, hm2⟩ := rng (lo := 1) (hi := 60) h1 h2 (by decide) (by decide)
        obtain ⟨s, rfl, hs⟩ := i_nat h3
        obtain ⟨w, rfl, _, hw⟩ := rng (lo := 0) (hi := 2) h4 h5 (by decide) (by decide)
        obtain ⟨en1, tt1, t1, t2, t3⟩ := cTake (K := K) (ch := ch) (wd := wd) (tc := tc) hn en tt
        obtain ⟨en', g', sl', st', a⟩ := cSales (su := su) (fa := fa) hn hH.V hs (nI s) (nI w) hm2 en1 g0 sl st tt1 t2
        obtain ⟨sv', b1, b2⟩ := mSave hn co sv
        obtain ⟨co1, ms', b3⟩ := mSales (fa := fa) hH (by omega) hs (nI s) (nI w) hm2 sv' ms
        obtain ⟨co', b4, b5⟩ := mLoad hn co1 sv'
        have hH' : HA n K su wi wd ch tc ki wo so wio co' tb := hH.mono hH.w (fun i hi => ⟨(hH.c i hi).1, by rw [b4 i hi, b1 i hi, hH.eco i hi]⟩) hH.t
        have hC : f_X11_sales (nI m) (nI s) (nI w) K ch su tc wd en g0 sl st tt fa (nI n) = some ((if nI w = 0 then sSold n K wd tc s m else if nI w = 1 then sPrice n K su wd tc fa s m else nI (sq n s m)), en', g', sl', st', tt1) := by
          rw [f_X11_sales, if_neg h1, if_neg h2', if_neg h3, if_neg h4, if_pos h5, if_neg hz, t3]
          simp only [Option.bind_some]
          rw [a]
          simp only [Option.bind_some]
          split
          · rfl
          · split <;> rfl
        have hM : f_X12_sales (nI m) (nI s) (nI w) (nI n) co fa ki sv sn ms so tb wo = some ((if nI w = 0 then sSold n K wd tc s m else if nI w = 1 then sPrice n K su wd tc fa s m else nI (sq n s m)), co', sv', lN (sq n s m), ms') := by
          rw [f_X12_sales, wi_in h1 h2, wi_in h4 h5]
          simp only [Option.bind_some]
          rw [if_neg c10, if_neg h3, if_neg c10, if_neg hz, f_X12_salesNow, b2]
          simp only [Option.bind_some, bnd]
          rw [nI_l hs, b3]
          simp only [Option.bind_some]
          rw [b5]
          simp only [Option.bind_some, lN_i]
          split
          · rfl
          · split <;> rfl
        exact ⟨_, en', g', sl', st', tt1, co', sv', _, ms', hC, hM, hH'⟩
    · refine ⟨-102, en, g0, sl, st, tt, co, sv, sn, ms, ?_, ?_, hH⟩
      · rw [f_X11_sales, if_neg h1, if_neg h2', if_neg h3, if_neg h4, if_neg h5]
      · rw [f_X12_sales, wi_in h1 h2, wi_hi h5]
        simp only [Option.bind_some]
        rw [if_neg c10, if_neg h3]; rfl
  · have h2' : 60 < x1 := Int32.not_le.mp h2
    refine ⟨-102, en, g0, sl, st, tt, co, sv, sn, ms, ?_, ?_, hH⟩
    · rw [f_X11_sales, if_neg h1, if_pos h2']
    · rw [f_X12_sales, wi_hi h2]; rfl
end
