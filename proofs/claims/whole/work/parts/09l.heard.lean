section
noncomputable def bl (p : Prop) : Bool := @decide p (Classical.propDecidable p)
theorem bl_t {p : Prop} (h : p) : bl p = true := @decide_eq_true p (Classical.propDecidable p) h
theorem bl_f {p : Prop} (h : ¬ p) : bl p = false := @decide_eq_false p (Classical.propDecidable p) h
theorem bl_cases (p : Prop) : (p ∧ bl p = true) ∨ (¬ p ∧ bl p = false) := by
  by_cases h : p
  · exact Or.inl ⟨h, bl_t h⟩
  · exact Or.inr ⟨h, bl_f h⟩
noncomputable def bI (p : Prop) : Int32 := if bl p = true then 1 else 0
theorem bI_t {p : Prop} (h : p) : bI p = 1 := by unfold bI; rw [if_pos (bl_t h)]
theorem bI_f {p : Prop} (h : ¬ p) : bI p = 0 := by unfold bI; rw [if_neg (by rw [bl_f h]; decide)]
theorem bI_01 (p : Prop) : bI p = 0 ∨ bI p = 1 := by
  by_cases h : p
  · exact Or.inr (bI_t h)
  · exact Or.inl (bI_f h)
theorem bI_congr {p q : Prop} (h : p ↔ q) : bI p = bI q := by rw [propext h]
variable {n hc : Nat} {K : Nat → Nat} {su wi wd ch tc : Nat → Int32} {ki wo so wio co tb : Nat → Int32} {fa : Int32} {hb hr mb mr : Nat → Int32}
def okA (n : Nat) (K : Nat → Nat) (ch wd tc hb hr : Nat → Int32) (k : Nat) : Prop := nI (sH n K ch wd tc (hb k).toNatClampNeg) = hr k
def okB (n : Nat) (K : Nat → Nat) (ch wd tc hb hr : Nat → Int32) (b k : Nat) : Prop := hb k = nI b → nI (sH n K ch wd tc b) = hr k
def AgA (n : Nat) (K : Nat → Nat) (ch wd tc : Nat → Int32) (hc : Nat) (hb hr : Nat → Int32) : Prop := ∀ k, k < hc → okA n K ch wd tc hb hr k
def AgB (n : Nat) (K : Nat → Nat) (ch wd tc : Nat → Int32) (hc : Nat) (hb hr : Nat → Int32) (b : Nat) : Prop := ∀ k, k < hc → okB n K ch wd tc hb hr b k
theorem cAgr (hn : n ≤ 5) (hE : HE n hc hb hr mb mr) {sl : Nat → Int32} (hs : ∀ i, i < n → sl i = nI (sH n K ch wd tc i)) : f_X5_agrees hb hr sl (nI hc) = some (bI (AgA n K ch wd tc hc hb hr)) := by
  have h8 := hE.1
  have key : ∀ (m k i : Nat), hc - i = m → m < k → i ≤ hc → (∀ j, j < i → okA n K ch wd tc hb hr j) → f_X5_agrees_2 k hb hr sl (nI hc) (nI i) = some (bI (AgA n K ch wd tc hc hb hr)) := by
    intro m
    induction m with
    | zero =>
      intro k i hm hk hi hI
      have : i = hc := by omega
      subst this
      obtain ⟨k, rfl⟩ : ∃ k', k = k' + 1 := ⟨k - 1, by omega⟩
      rw [f_X5_agrees_2, if_pos (le_t i), bI_t (p := AgA n K ch wd tc i hb hr) hI]
    | succ m ih =>
      intro k i hm hk hi hI
      obtain ⟨k, rfl⟩ : ∃ k', k = k' + 1 := ⟨k - 1, by omega⟩
      obtain ⟨_, _, b, hb0, eb⟩ := hE.2 i (by omega)
      have hoki : okA n K ch wd tc hb hr i ↔ nI (sH n K ch wd tc b) = hr i := by
        unfold okA
        rw [eb, cl5 (by omega)]
      rw [f_X5_agrees_2, if_neg (le_f (by omega) (by omega)), if_neg (ckN (i := i) (by omega) (by decide)), cl5 (i := i) (by omega), eb, if_neg (ckN (i := b) (by omega) (by decide)), cl5 (i := b) (by omega), hs b hb0]
      simp only [bnd, nI_1]
      by_cases c : nI (sH n K ch wd tc b) = hr i
      · rw [if_pos c]
        refine ih k (i + 1) (by omega) (by omega) (by omega) (fun j hj => ?_)
        by_cases hji : j = i
        · rw [hji]; exact hoki.mpr c
        · exact hI j (by omega)
      · rw [if_neg c, bI_f (fun h => c (hoki.mp (h i (by omega))))]
  rw [f_X5_agrees]
  exact key hc 4096 0 (by omega) (by omega) (by omega) (fun j hj => by omega)
theorem cAgrB (hn : n ≤ 5) (hE : HE n hc hb hr mb mr) {b : Nat} (hbn : b < n) {sl : Nat → Int32} (hs : ∀ i, i < n → sl i = nI (sH n K ch wd tc i)) : f_X5_agreesOn (nI b) hb hr sl (nI hc) = some (bI (AgB n K ch wd tc hc hb hr b)) := by
  have h8 := hE.1
  have key : ∀ (m k i : Nat), hc - i = m → m < k → i ≤ hc → (∀ j, j < i → okB n K ch wd tc hb hr b j) → f_X5_agreesOn_10 k (nI b) hb hr sl (nI hc) (nI i) (nI (sH n K ch wd tc b)) = some (bI (AgB n K ch wd tc hc hb hr b)) := by
    intro m
    induction m with
    | zero =>
      intro k i hm hk hi hI
      have : i = hc := by omega
      subst this
      obtain ⟨k, rfl⟩ : ∃ k', k = k' + 1 := ⟨k - 1, by omega⟩
      rw [f_X5_agreesOn_10, if_pos (le_t i), bI_t (p := AgB n K ch wd tc i hb hr b) hI]
    | succ m ih =>
      intro k i hm hk hi hI
      obtain ⟨k, rfl⟩ : ∃ k', k = k' + 1 := ⟨k - 1, by omega⟩
      rw [f_X5_agreesOn_10, if_neg (le_f (by omega) (by omega)), if_neg (ckN (i := i) (by omega) (by decide)), cl5 (i := i) (by omega)]
      simp only [bnd, nI_1]
      by_cases c0 : hb i = nI b
      · rw [if_pos c0]
        by_cases c : hr i = nI (sH n K ch wd tc b)
        · rw [if_pos c]
          refine ih k (i + 1) (by omega) (by omega) (by omega) (fun j hj => ?_)
          by_cases hji : j = i
          · rw [hji]; exact fun _ => c.symm
          · exact hI j (by omega)
        · rw [if_neg c, bI_f (fun h => c (h i (by omega) c0).symm)]
      · rw [if_neg c0]
        refine ih k (i + 1) (by omega) (by omega) (by omega) (fun j hj => ?_)
        by_cases hji : j = i
        · rw [hji]; exact fun h => absurd h c0
        · exact hI j (by omega)
  rw [f_X5_agreesOn, if_neg (ckN (i := b) (by omega) (by decide)), cl5 (i := b) (by omega), hs b hbn]
  exact key hc 4096 0 (by omega) (by omega) (by omega) (fun j hj => by omega)
theorem all_succ {p : Nat → Prop} {i : Nat} (h : p i) : (∀ k, k < i + 1 → p k) ↔ ∀ k, k < i → p k := ⟨fun q k hk => q k (by omega), fun q k hk => by
  by_cases hki : k = i
  · rw [hki]; exact h
  · exact q k (by omega)⟩
theorem not_succ {p : Nat → Prop} {i : Nat} (h : ¬ p i) : ¬ ∀ k, k < i + 1 → p k := fun q => h (q i (by omega))
theorem not_up {p : Nat → Prop} {i : Nat} (h : ¬ ∀ k, k < i → p k) : ¬ ∀ k, k < i + 1 → p k := fun q => h (fun k hk => q k (by omega))
theorem mHeard (h0 : 0 < n) (hH : HA n K su wi wd ch tc ki wo so wio co tb) (hE : HE n hc hb hr mb mr) (ms : Nat → Int32) : ∃ ms' : Nat → Int32, f_X12_isHeard (-1) (nI n) co (nI hc) mb mr ki ms tb wo = some (bI (AgA n K ch wd tc hc hb hr), ms') := by
  have hn := hH.1
  have h8 := hE.1
  obtain ⟨ms', b1, b2⟩ := mLay (tc := tc) h0 hn hH.V hH.eki hH.eco hH.ewo hH.etb ms
  obtain ⟨y, c1, c2⟩ := lpU0 (fun k y q => f_X12_isHeard_8 k (-1) (nI n) co (nI hc) mb mr ki tb wo y q ms') (fun q => (nI hc, q, ms')) hc (fun i q => q = bI (∀ k, k < i → okA n K ch wd tc hb hr k)) 1 (by omega) (by rw [bI_t]; intro k hk; omega)
    (fun k q _ => by show f_X12_isHeard_8 (k + 1) _ _ _ _ _ _ _ _ _ _ _ _ = _; rw [f_X12_isHeard_8, if_pos (le_t hc)])
    (fun k i q hi hI => by
      show ∃ st', _ ∧ f_X12_isHeard_8 (k + 1) _ _ _ _ _ _ _ _ _ _ _ _ = _
      obtain ⟨e1, e2, b, hb0, eb⟩ := hE.2 i hi
      have hoki : okA n K ch wd tc hb hr i ↔ nI (sH n K ch wd tc b) = hr i := by
        unfold okA
        rw [eb, cl5 (by omega)]
      rw [f_X12_isHeard_8, if_neg (le_f hi (by omega)), if_pos rfl, if_neg (ckN (i := i) (by omega) (by decide)), cl5 (i := i) (by omega), e1, e2, eb, mSil hb0 hn hH.K5 hH.eki b1, hI]
      simp only [bnd, nI_1, Option.bind_some]
      by_cases cp : ∀ k, k < i → okA n K ch wd tc hb hr k
      · rw [bI_t cp, if_neg c10]
        by_cases c : nI (sH n K ch wd tc b) = hr i
        · rw [if_pos c]
          exact ⟨_, by rw [bI_t ((all_succ (hoki.mpr c)).mpr cp)], rfl⟩
        · rw [if_neg c]
          exact ⟨_, by rw [bI_f (not_succ (fun h => c (hoki.mp h)))], rfl⟩
      · rw [bI_f cp, if_pos rfl]
        exact ⟨_, by rw [bI_f (not_up cp)], rfl⟩)
  refine ⟨ms', ?_⟩
  rw [f_X12_isHeard, b2]
  simp only [Option.bind_some]
  have c2' : f_X12_isHeard_8 4096 (-1) (nI n) co (nI hc) mb mr ki tb wo 0 1 ms' = some (nI hc, y, ms') := c2
  rw [c2']
  simp only [Option.bind_some]
  rw [c1]
  have := bI_01 (∀ k, k < hc → okA n K ch wd tc hb hr k)
  rw [if_neg (fun h => h this)]
  rfl
theorem mHeardB (hH : HA n K su wi wd ch tc ki wo so wio co tb) (hE : HE n hc hb hr mb mr) {b : Nat} (hbn : b < n) (ms : Nat → Int32) : ∃ ms' : Nat → Int32, f_X12_isHeard (nI b) (nI n) co (nI hc) mb mr ki ms tb wo = some (bI (AgB n K ch wd tc hc hb hr b), ms') := by
  have hn := hH.1
  have h8 := hE.1
  obtain ⟨ms', b1, b2⟩ := mLay (tc := tc) (by omega) hn hH.V hH.eki hH.eco hH.ewo hH.etb ms
  obtain ⟨y, c1, c2⟩ := lpU0 (fun k y q => f_X12_isHeard_8 k (nI b) (nI n) co (nI hc) mb mr ki tb wo y q ms') (fun q => (nI hc, q, ms')) hc (fun i q => q = bI (∀ k, k < i → okB n K ch wd tc hb hr b k)) 1 (by omega) (by rw [bI_t]; intro k hk; omega)
    (fun k q _ => by show f_X12_isHeard_8 (k + 1) _ _ _ _ _ _ _ _ _ _ _ _ = _; rw [f_X12_isHeard_8, if_pos (le_t hc)])
    (fun k i q hi hI => by
      show ∃ st', _ ∧ f_X12_isHeard_8 (k + 1) _ _ _ _ _ _ _ _ _ _ _ _ = _
      obtain ⟨e1, e2, b', hb0, eb⟩ := hE.2 i hi
      rw [f_X12_isHeard_8, if_neg (le_f hi (by omega)), if_neg (nI_m1 (j := b) (by omega)), if_neg (ckN (i := i) (by omega) (by decide)), cl5 (i := i) (by omega), e1, e2, hI]
      simp only [bnd, nI_1]
      by_cases c0 : hb i = nI b
      · rw [if_pos c0, c0, mSil hbn hn hH.K5 hH.eki b1]
        simp only [Option.bind_some]
        by_cases cp : ∀ k, k < i → okB n K ch wd tc hb hr b k
        · rw [bI_t cp, if_neg c10]
          by_cases c : nI (sH n K ch wd tc b) = hr i
          · rw [if_pos c]
            exact ⟨_, by rw [bI_t ((all_succ (p := okB n K ch wd tc hb hr b) (fun _ => c)).mpr cp)], rfl⟩
          · rw [if_neg c]
            exact ⟨_, by rw [bI_f (not_succ (p := okB n K ch wd tc hb hr b) (fun h => c (h c0)))], rfl⟩
        · rw [bI_f cp, if_pos rfl]
          exact ⟨_, by rw [bI_f (not_up cp)], rfl⟩
      · rw [if_neg c0]
        by_cases cp : ∀ k, k < i → okB n K ch wd tc hb hr b k
        · rw [bI_t cp, if_neg c10]
          exact ⟨_, by rw [bI_t ((all_succ (p := okB n K ch wd tc hb hr b) (fun h => absurd h c0)).mpr cp)], rfl⟩
        · rw [bI_f cp, if_pos rfl]
          exact ⟨_, by rw [bI_f (not_up cp)], rfl⟩)
  refine ⟨ms', ?_⟩
  rw [f_X12_isHeard, b2]
  simp only [Option.bind_some]
  have c2' : f_X12_isHeard_8 4096 (nI b) (nI n) co (nI hc) mb mr ki tb wo 0 1 ms' = some (nI hc, y, ms') := c2
  rw [c2']
  simp only [Option.bind_some]
  rw [c1]
  have := bI_01 (∀ k, k < hc → okB n K ch wd tc hb hr b k)
  rw [if_neg (fun h => h this)]
  rfl
/-- the bits of the winds up to v -/
noncomputable def wbF (P : Nat → Prop) : Nat → Int32
  | 0 => 0
  | v + 1 => if bI (P (v + 1)) = 0 then wbF P v else wbF P v ||| ((1 : Int32) <<< (nI (v + 1) &&& 31))
noncomputable def wnV (n : Nat) (K : Nat → Nat) (ch wd tc : Nat → Int32) (hc : Nat) (hb hr : Nat → Int32) (b : Nat) : Int32 := wbF (fun v => AgB n K ch (upd wd b (nI v)) tc hc hb hr b) 9
theorem lit9 {i : Nat} (h : i ≤ 9) : ¬ (9 : Int32) < nI i := fun hq => by
  have := (nI_ltI (a := 9) (b := i) (by decide) (by omega)).mp hq
  omega
theorem cWinds (hn : n ≤ 5) (hV : Vd n K ch wd) (hE : HE n hc hb hr mb mr) {b : Nat} (hbn : b < n) (en : Nat → Int32) (g0 : Int32) (sl st tt : Nat → Int32) : ∃ (en' : Nat → Int32) (g' : Int32) (sl' st' tt' : Nat → Int32), f_X11_winds (nI b) K ch tc wd en g0 sl st tt (nI n) hb hr (nI hc) = some (wnV n K ch wd tc hc hb hr b, en', g', sl', st', tt') := by
  obtain ⟨en1, tt1, a1, a2, a3⟩ := cTake (K := K) (ch := ch) (wd := wd) (tc := tc) hn en tt
  obtain ⟨⟨y, en3, g3, sl3, st3⟩, ⟨c1, c2⟩, c4⟩ := lpU1 (fun k y (q : Int32 × (Nat → Int32) × Int32 × (Nat → Int32) × (Nat → Int32)) => f_X11_winds_25 k (nI b) K ch tc wd (nI n) hb hr (nI hc) y q.1 q.2.1 q.2.2.1 q.2.2.2.1 q.2.2.2.2 tt1) (fun q => (nI 10, q.1, q.2.1, q.2.2.1, q.2.2.2.1, q.2.2.2.2, tt1)) 1 10
    (fun i q => EnB n K ch wd b q.2.1 ∧ q.1 = wbF (fun v => AgB n K ch (upd wd b (nI v)) tc hc hb hr b) (i - 1)) (0, en1, g0, sl, st) (by omega) (by omega) ⟨fun i hi _ => a1 i hi, rfl⟩
    (fun k q _ => by show f_X11_winds_25 (k + 1) _ _ _ _ _ _ _ _ _ _ _ _ _ _ _ _ = _; rw [f_X11_winds_25, if_pos (show (9 : Int32) < nI 10 by decide)])
    (fun k i ⟨y, en3, g3, sl3, st3⟩ hi0 hi ⟨h1, h2⟩ => by
      have h1 : EnB n K ch wd b en3 := h1
      have h2 : y = wbF (fun v => AgB n K ch (upd wd b (nI v)) tc hc hb hr b) (i - 1) := h2
      show ∃ st', _ ∧ f_X11_winds_25 (k + 1) _ _ _ _ _ _ _ _ _ _ _ _ _ _ _ _ = _
      have e1 : f_X2_supposeWind (nI b) (nI i) K ch en3 = some (upd en3 b (endF (K b) (ch b) (nI i))) := by
        rw [f_X2_supposeWind, if_neg (ckN (i := b) (by omega) (by decide)), cl5 (by omega)]
      have hw : wdOk (nI i) := ⟨i, rfl, hi0, by omega⟩
      obtain ⟨sl4, st4, d1, d2, d3⟩ := cRunH (tc := tc) hn (Vd_wd (b := b) hV hw) (en := upd en3 b (endF (K b) (ch b) (nI i))) (tb := tt1) (fun j hj => by
        by_cases hjb : j = b
        · rw [hjb, upd_eq, upd_eq]
        · rw [upd_ne hjb, upd_ne hjb]; exact h1 j hj hjb) a2 g3 sl3 st3
      have hEn : EnB n K ch wd b (upd en3 b (endF (K b) (ch b) (nI i))) := fun j hj hjb => by rw [upd_ne hjb]; exact h1 j hj hjb
      rw [f_X11_winds_25, if_neg (lit9 (by omega))]
      show ∃ st', _ ∧ ((f_X2_supposeWind (nI b) (nI i) K ch en3).bind _) = _
      rw [e1]
      simp only [Option.bind_some]
      rw [d3]
      simp only [Option.bind_some]
      rw [cAgrB hn hE hbn d2]
      simp only [Option.bind_some, bnd, nI_1]
      have q1 : i + 1 - 1 = (i - 1) + 1 := by omega
      have q2 : i - 1 + 1 = i := by omega
      by_cases c : bI (AgB n K ch (upd wd b (nI i)) tc hc hb hr b) = 0
      · rw [if_pos c]
        refine ⟨(y, upd en3 b (endF (K b) (ch b) (nI i)), _, sl4, st4), ⟨hEn, ?_⟩, rfl⟩
        show y = _
        rw [q1, wbF, q2, if_pos c]; exact h2
      · rw [if_neg c]
        refine ⟨(y ||| ((1 : Int32) <<< (nI i &&& 31)), upd en3 b (endF (K b) (ch b) (nI i)), _, sl4, st4), ⟨hEn, ?_⟩, rfl⟩
        show y ||| ((1 : Int32) <<< (nI i &&& 31)) = _
        rw [q1, wbF, q2, if_neg c, h2])
  have c2 : y = wnV n K ch wd tc hc hb hr b := c2
  have c4' : f_X11_winds_25 4096 (nI b) K ch tc wd (nI n) hb hr (nI hc) 1 0 en1 g0 sl st tt1 = some (nI 10, y, en3, g3, sl3, st3, tt1) := c4
  refine ⟨en3, g3, sl3, st3, tt1, ?_⟩
  rw [f_X11_winds, has_in hbn (by omega)]
  simp only [Option.bind_some]
  rw [if_neg c10, a3]
  simp only [Option.bind_some]
  rw [c4', c2]
  rfl
theorem or_0 (x : Int32) : x ||| 0 = x := by simp
theorem mWinds (hH : HA n K su wi wd ch tc ki wo so wio co tb) (hE : HE n hc hb hr mb mr) {b : Nat} (hbn : b < n) (ms : Nat → Int32) : ∃ ms' : Nat → Int32, f_X12_windsNow (nI b) (nI n) co (nI hc) mb mr ki ms tb wo = some (wnV n K ch wd tc hc hb hr b, ms', wo) := by
  have hn := hH.1
  obtain ⟨⟨y, ms3, wo3⟩, ⟨c1, c2⟩, c4⟩ := lpU1 (fun k y (q : Int32 × (Nat → Int32) × (Nat → Int32)) => f_X12_windsNow_12 k (nI b) (nI n) co (nI hc) mb mr ki tb y q.1 (wo b) q.2.1 q.2.2) (fun q => (nI 10, q.1, wo b, q.2.1, q.2.2)) 1 10
    (fun i q => (∀ j, j ≠ b → q.2.2 j = wo j) ∧ q.1 = wbF (fun v => AgB n K ch (upd wd b (nI v)) tc hc hb hr b) (i - 1)) (0, ms, wo) (by omega) (by omega) ⟨fun _ _ => rfl, rfl⟩
    (fun k q _ => by show f_X12_windsNow_12 (k + 1) _ _ _ _ _ _ _ _ _ _ _ _ _ = _; rw [f_X12_windsNow_12, if_pos (show (9 : Int32) < nI 10 by decide)])
    (fun k i ⟨y, ms3, wo3⟩ hi0 hi ⟨h1, h2⟩ => by
      have h1 : ∀ j, j ≠ b → wo3 j = wo j := h1
      have h2 : y = wbF (fun v => AgB n K ch (upd wd b (nI v)) tc hc hb hr b) (i - 1) := h2
      show ∃ st', _ ∧ f_X12_windsNow_12 (k + 1) _ _ _ _ _ _ _ _ _ _ _ _ _ = _
      have hw : wdOk (nI i) := ⟨i, rfl, hi0, by omega⟩
      have hH2 : HA n K su wi (upd wd b (nI i)) ch tc ki (upd wo3 b (nI i)) so wio co tb := hH.mono (fun j hj => by
        by_cases hjb : j = b
        · rw [hjb, upd_eq, upd_eq]; exact ⟨hw, rfl⟩
        · rw [upd_ne hjb, upd_ne hjb, h1 j hjb]; exact hH.w j hj) hH.c hH.t
      obtain ⟨ms4, d1⟩ := mHeardB hH2 hE hbn ms3
      have hne : ∀ j, j ≠ b → upd wo3 b (nI i) j = wo j := fun j hj => by rw [upd_ne hj]; exact h1 j hj
      rw [f_X12_windsNow_12, if_neg (lit9 (by omega)), if_neg (ckN (i := b) (by omega) (by decide)), cl5 (by omega)]
      show ∃ st', _ ∧ ((f_X12_isHeard (nI b) (nI n) co (nI hc) mb mr ki ms3 tb (upd wo3 b (nI i))).bind _) = _
      rw [d1]
      simp only [Option.bind_some, bnd, nI_1]
      have q1 : i + 1 - 1 = (i - 1) + 1 := by omega
      have q2 : i - 1 + 1 = i := by omega
      by_cases c : bI (AgB n K ch (upd wd b (nI i)) tc hc hb hr b) = 0
      · rw [if_pos c]
        refine ⟨(y ||| 0, ms4, upd wo3 b (nI i)), ⟨hne, ?_⟩, rfl⟩
        show y ||| 0 = _
        rw [q1, wbF, q2, if_pos c, or_0]; exact h2
      · rw [if_neg c]
        refine ⟨(y ||| ((1 : Int32) <<< (nI i &&& 31)), ms4, upd wo3 b (nI i)), ⟨hne, ?_⟩, rfl⟩
        show y ||| ((1 : Int32) <<< (nI i &&& 31)) = _
        rw [q1, wbF, q2, if_neg c, h2])
  have c1 : ∀ j, j ≠ b → wo3 j = wo j := c1
  have c2 : y = wnV n K ch wd tc hc hb hr b := c2
  have c4' : f_X12_windsNow_12 4096 (nI b) (nI n) co (nI hc) mb mr ki tb 1 0 (wo b) ms wo = some (nI 10, y, wo b, ms3, wo3) := c4
  have hck : ¬ (nI b < 0 ∨ 5 ≤ (nI b).toNatClampNeg) := ckN (i := b) (by omega) (by decide)
  refine ⟨ms3, ?_⟩
  rw [f_X12_windsNow, if_neg hck]
  simp only [bnd]
  rw [cl5 (by omega), c4']
  simp only [Option.bind_some]
  rw [if_neg (ck5' (g := b) (by omega)), c2]
  have e : upd wo3 b (wo b) = wo := by
    funext j
    by_cases hj : j = b
    · rw [hj, upd_eq]
    · rw [upd_ne hj]; exact c1 j hj
  rw [e]
theorem q_winds (hH : HA n K su wi wd ch tc ki wo so wio co tb) (hE : HE n hc hb hr mb mr) (x : Int32) (en : Nat → Int32) (g0 : Int32) (sl st tt ms : Nat → Int32) : ∃ (r : Int32) (en' : Nat → Int32) (g' : Int32) (sl' st' tt' ms' : Nat → Int32), f_X11_winds x K ch tc wd en g0 sl st tt (nI n) hb hr (nI hc) = some (r, en', g', sl', st', tt') ∧ f_X12_winds x (nI n) co (nI hc) mb mr ki ms tb wo = some (r, ms', wo) := by
  have hn := hH.1
  rcases pk_ix x (n := n) (by omega) with h | h | ⟨b, hbn, rfl⟩
  · refine ⟨-101, en, g0, sl, st, tt, ms, ?_, ?_⟩
    · rw [f_X11_winds, has_out (Or.inl h)]; rfl
    · rw [f_X12_winds, isB_out hn (Or.inl h)]; rfl
  · refine ⟨-101, en, g0, sl, st, tt, ms, ?_, ?_⟩
    · rw [f_X11_winds, has_out (Or.inr h)]; rfl
    · rw [f_X12_winds, isB_out hn (Or.inr h)]; rfl
  · obtain ⟨en', g', sl', st', tt', hc⟩ := cWinds (tc := tc) hn hH.V hE hbn en g0 sl st tt
    obtain ⟨ms', hm⟩ := mWinds hH hE hbn ms
    refine ⟨_, en', g', sl', st', tt', ms', hc, ?_⟩
    rw [f_X12_winds, isB_in hbn hn]; simp only [Option.bind_some]; rw [if_neg c10, hm]; rfl
end
