section
def kN (x : Nat) : Int32 := ixF ((nI x).toUInt32 % 65536).toInt32
def dgt (x : Nat) : Prop := 48 ≤ x ∧ x ≤ 57
theorem kn_m : ∀ x : Nat, x < 127 → f_X12_kindBy (nI x) = some (kN x) := by decide +kernel
theorem kn_k : ∀ x : Nat, x < 127 → kN x ≠ -1 → nI (kdF (kN x)) = kN x ∧ x ≠ 59 ∧ x ≠ 44 := by decide +kernel
theorem di_c : ∀ x : Nat, x < 127 → f_X7_isDigit (nI x) = some (if 48 ≤ x ∧ x ≤ 57 then 1 else 0) := by decide +kernel
theorem di_m0 : ∀ x : Nat, x < 127 → f_X12_within (nI x - 48) 0 9 = some (if 48 ≤ x ∧ x ≤ 57 then 1 else 0) := by decide +kernel
theorem di_m1 : ∀ x : Nat, x < 127 → f_X12_within (nI x - 48) 1 9 = some (if 49 ≤ x ∧ x ≤ 57 then 1 else 0) := by decide +kernel
theorem ft_0 : ∀ m : Nat, m < 5 → ∀ x : Nat, x < 127 → f_X7_fits (nI x) (nI (5 * m)) 28 = some (if kN x = -1 then 0 else 1) := by decide +kernel
theorem ft_1 : ∀ m : Nat, m < 5 → ∀ x : Nat, x < 127 → f_X7_fits (nI x) (nI (5 * m + 1)) 28 = some (if 49 ≤ x ∧ x ≤ 57 then 1 else 0) := by decide +kernel
theorem ft_2 : ∀ m : Nat, m < 5 → ∀ x : Nat, x < 127 → f_X7_fits (nI x) (nI (5 * m + 2)) 28 = some (if 48 ≤ x ∧ x ≤ 57 then 1 else 0) := by decide +kernel
theorem ft_3 : ∀ m : Nat, m < 5 → ∀ x : Nat, x < 127 → f_X7_fits (nI x) (nI (5 * m + 3)) 28 = some (if 48 ≤ x ∧ x ≤ 57 then 1 else 0) := by decide +kernel
theorem ft_4 : ∀ m : Nat, m < 5 → ∀ x : Nat, x < 127 → f_X7_fits (nI x) (nI (5 * m + 4)) 28 = some (if (x = 44 ∧ m < 4) ∨ (x = 59 ∧ m ≠ 0) then 1 else 0) := by decide +kernel
theorem ft_5 : ∀ m : Nat, m < 5 → ∀ x : Nat, x < 127 → f_X7_fits (nI x) (nI (5 * m + 5)) (nI (5 * m + 5)) = some (if 48 ≤ x ∧ x ≤ 57 then 1 else 0) := by decide +kernel
theorem ft_6 : ∀ m : Nat, m < 5 → ∀ x : Nat, x < 127 → f_X7_fits (nI x) (nI (5 * m + 6)) (nI (5 * m + 5)) = some 0 := by decide +kernel
/-- the letters of the page as numbers -/
def LT (len : Nat) (cd : Nat → Int32) (c : Nat → Nat) : Prop := len ≤ 28 ∧ ∀ k, k < len → cd k = nI (c k) ∧ c k < 127
/-- a bidder and what stands behind him: the place, and 0 a fault or the end, 1 the page is whole, 2 go on -/
def blk (c : Nat → Nat) (len m : Nat) : Nat × Nat :=
  if 5 * m = len then (5 * m, 0) else if kN (c (5 * m)) = -1 then (5 * m, 0)
  else if 5 * m + 1 = len then (5 * m + 1, 0) else if ¬ (49 ≤ c (5 * m + 1) ∧ c (5 * m + 1) ≤ 57) then (5 * m + 1, 0)
  else if 5 * m + 2 = len then (5 * m + 2, 0) else if ¬ (48 ≤ c (5 * m + 2) ∧ c (5 * m + 2) ≤ 57) then (5 * m + 2, 0)
  else if 5 * m + 3 = len then (5 * m + 3, 0) else if ¬ (48 ≤ c (5 * m + 3) ∧ c (5 * m + 3) ≤ 57) then (5 * m + 3, 0)
  else if 5 * m + 4 = len then (5 * m + 4, 0)
  else if c (5 * m + 4) = 59 then (if m = 0 then (5 * m + 4, 0) else if 5 * m + 5 = len then (5 * m + 5, 0) else if ¬ (48 ≤ c (5 * m + 5) ∧ c (5 * m + 5) ≤ 57) then (5 * m + 5, 0) else if 5 * m + 6 = len then (5 * m + 6, 1) else (5 * m + 6, 0))
  else if c (5 * m + 4) = 44 then (if m < 4 then (5 * m + 5, 2) else (5 * m + 4, 0)) else (5 * m + 4, 0)
variable {len : Nat} {cd pg : Nat → Int32} {c : Nat → Nat}
theorem fp_end (k : Nat) (e : Int32) : f_X7_faultPlace_5 (k + 1) cd (nI len) (nI len) e = some (nI len) := by rw [f_X7_faultPlace_5, if_pos (le_t len)]
theorem fp_no (hL : LT len cd c) {p k : Nat} {e : Int32} (hp : p < len) (h : f_X7_fits (nI (c p)) (nI p) e = some 0) : f_X7_faultPlace_5 (k + 1) cd (nI len) (nI p) e = some (nI p) := by
  have := hL.1
  rw [f_X7_faultPlace_5, if_neg (le_f hp (by omega)), if_neg (ckN (i := p) (by omega) (by decide)), cl5 (i := p) (by omega), (hL.2 p hp).1, h]
  rfl
theorem fp_ok (hL : LT len cd c) {p k : Nat} {e : Int32} (hp : p < len) (h : f_X7_fits (nI (c p)) (nI p) e = some 1) (hc : c p ≠ 59) : f_X7_faultPlace_5 (k + 1) cd (nI len) (nI p) e = f_X7_faultPlace_5 k cd (nI len) (nI (p + 1)) e := by
  have := hL.1
  have := (hL.2 p hp).2
  rw [f_X7_faultPlace_5, if_neg (le_f hp (by omega)), if_neg (ckN (i := p) (by omega) (by decide)), cl5 (i := p) (by omega), (hL.2 p hp).1, h]
  simp only [Option.bind_some, bnd, nI_1]
  rw [if_neg c10, if_neg (show ¬ nI (c p) = 59 from fun h => hc ((nI_eq (a := c p) (b := 59) (by omega) (by decide)).mp h))]
theorem fp_semi (hL : LT len cd c) {p k : Nat} {e : Int32} (hp : p < len) (h : f_X7_fits (nI (c p)) (nI p) e = some 1) (hc : c p = 59) : f_X7_faultPlace_5 (k + 1) cd (nI len) (nI p) e = f_X7_faultPlace_5 k cd (nI len) (nI (p + 1)) (nI (p + 1)) := by
  have := hL.1
  have := (hL.2 p hp).2
  rw [f_X7_faultPlace_5, if_neg (le_f hp (by omega)), if_neg (ckN (i := p) (by omega) (by decide)), cl5 (i := p) (by omega), (hL.2 p hp).1, h]
  simp only [Option.bind_some, bnd, nI_1]
  rw [if_neg c10, hc, if_pos (show nI 59 = 59 from rfl)]
theorem cBlk (hL : LT len cd c) {m : Nat} (hm : m < 5) (hp : 5 * m ≤ len) (k : Nat) : f_X7_faultPlace_5 (k + 8) cd (nI len) (nI (5 * m)) 28 = if (blk c len m).2 = 2 then f_X7_faultPlace_5 (k + 3) cd (nI len) (nI (5 * m + 5)) 28 else some (nI (blk c len m).1) := by
  have hl := hL.1
  unfold blk
  by_cases h0 : 5 * m = len
  · rw [if_pos h0, h0]; exact fp_end _ _
  rw [if_neg h0]
  have x0 := (hL.2 (5 * m) (by omega)).2
  by_cases h1 : kN (c (5 * m)) = -1
  · rw [if_pos h1]; exact fp_no hL (by omega) (by rw [ft_0 m hm _ x0, if_pos h1])
  rw [if_neg h1, fp_ok hL (by omega) (by rw [ft_0 m hm _ x0, if_neg h1]) (kn_k _ x0 h1).2.1]
  by_cases h2 : 5 * m + 1 = len
  · rw [if_pos h2, h2]; exact fp_end _ _
  rw [if_neg h2]
  have x1 := (hL.2 (5 * m + 1) (by omega)).2
  by_cases h3 : 49 ≤ c (5 * m + 1) ∧ c (5 * m + 1) ≤ 57
  rotate_left
  · rw [if_pos h3]; exact fp_no hL (by omega) (by rw [ft_1 m hm _ x1, if_neg h3])
  rw [if_neg (not_not_intro h3), fp_ok (p := 5 * m + 1) hL (by omega) (by rw [ft_1 m hm _ x1, if_pos h3]) (by omega)]
  by_cases h4 : 5 * m + 2 = len
  · rw [if_pos h4, h4]; exact fp_end _ _
  rw [if_neg h4]
  have x2 := (hL.2 (5 * m + 2) (by omega)).2
  by_cases h5 : 48 ≤ c (5 * m + 2) ∧ c (5 * m + 2) ≤ 57
  rotate_left
  · rw [if_pos h5]; exact fp_no hL (by omega) (by rw [ft_2 m hm _ x2, if_neg h5])
  rw [if_neg (not_not_intro h5), fp_ok (p := 5 * m + 2) hL (by omega) (by rw [ft_2 m hm _ x2, if_pos h5]) (by omega)]
  by_cases h6 : 5 * m + 3 = len
  · rw [if_pos h6, h6]; exact fp_end _ _
  rw [if_neg h6]
  have x3 := (hL.2 (5 * m + 3) (by omega)).2
  by_cases h7 : 48 ≤ c (5 * m + 3) ∧ c (5 * m + 3) ≤ 57
  rotate_left
  · rw [if_pos h7]; exact fp_no hL (by omega) (by rw [ft_3 m hm _ x3, if_neg h7])
  rw [if_neg (not_not_intro h7), fp_ok (p := 5 * m + 3) hL (by omega) (by rw [ft_3 m hm _ x3, if_pos h7]) (by omega)]
  by_cases h8 : 5 * m + 4 = len
  · rw [if_pos h8, h8]; exact fp_end _ _
  rw [if_neg h8]
  have x4 := (hL.2 (5 * m + 4) (by omega)).2
  by_cases h9 : c (5 * m + 4) = 59
  · rw [if_pos h9]
    by_cases hm0 : m = 0
    · rw [if_pos hm0]; exact fp_no hL (by omega) (by rw [ft_4 m hm _ x4, if_neg (by omega)])
    rw [if_neg hm0, fp_semi hL (by omega) (by rw [ft_4 m hm _ x4, if_pos (by omega)]) h9]
    by_cases ha : 5 * m + 5 = len
    · rw [if_pos ha, ha]; exact fp_end _ _
    rw [if_neg ha]
    have x5 := (hL.2 (5 * m + 5) (by omega)).2
    by_cases hb : 48 ≤ c (5 * m + 5) ∧ c (5 * m + 5) ≤ 57
    rotate_left
    · rw [if_pos hb]; exact fp_no hL (by omega) (by rw [ft_5 m hm _ x5, if_neg hb])
    rw [if_neg (not_not_intro hb), fp_ok (p := 5 * m + 5) hL (by omega) (by rw [ft_5 m hm _ x5, if_pos hb]) (by omega)]
    by_cases hc : 5 * m + 6 = len
    · rw [if_pos hc, hc]; exact fp_end _ _
    rw [if_neg hc]
    have x6 := (hL.2 (5 * m + 6) (by omega)).2
    exact fp_no hL (by omega) (ft_6 m hm _ x6)
  · rw [if_neg h9]
    by_cases hd : c (5 * m + 4) = 44
    · rw [if_pos hd]
      by_cases he : m < 4
      · rw [if_pos he]
        exact fp_ok (p := 5 * m + 4) hL (by omega) (by rw [ft_4 m hm _ x4, if_pos (by omega)]) (by omega)
      · rw [if_neg he]; exact fp_no hL (by omega) (by rw [ft_4 m hm _ x4, if_neg (by omega)])
    · rw [if_neg hd]; exact fp_no hL (by omega) (by rw [ft_4 m hm _ x4, if_neg (by omega)])
theorem nI_plus (a b : Nat) : nI a + nI b = nI (a + b) := nI_add a b
theorem fg_out {lo : Int32} {p : Nat} (h : len ≤ p) (hp : p < 2 ^ 31) : f_X12_isFigure (nI p) lo pg (nI len) = some 0 := by
  rw [f_X12_isFigure, if_pos ((nI_b (by omega) (by omega)).mpr h)]
theorem fg_0 (hL : LT len pg c) {p : Nat} (h : p < len) : f_X12_isFigure (nI p) 0 pg (nI len) = some (if 48 ≤ c p ∧ c p ≤ 57 then 1 else 0) := by
  have := hL.1
  rw [f_X12_isFigure, if_neg (le_f h (by omega)), if_neg (ckN (i := p) (by omega) (by decide)), cl5 (i := p) (by omega), (hL.2 p h).1, di_m0 _ (hL.2 p h).2]
  simp only [Option.bind_some]
  split
  · rfl
  · rfl
theorem fg_1 (hL : LT len pg c) {p : Nat} (h : p < len) : f_X12_isFigure (nI p) 1 pg (nI len) = some (if 49 ≤ c p ∧ c p ≤ 57 then 1 else 0) := by
  have := hL.1
  rw [f_X12_isFigure, if_neg (le_f h (by omega)), if_neg (ckN (i := p) (by omega) (by decide)), cl5 (i := p) (by omega), (hL.2 p h).1, di_m1 _ (hL.2 p h).2]
  simp only [Option.bind_some]
  split
  · rfl
  · rfl
theorem pN1 (p : Nat) : nI p + 1 = nI (p + 1) := nI_add p 1
theorem pN2 (p : Nat) : nI p + 2 = nI (p + 2) := nI_add p 2
theorem pN3 (p : Nat) : nI p + 3 = nI (p + 3) := nI_add p 3
theorem pN4 (p : Nat) : nI p + 4 = nI (p + 4) := nI_add p 4
theorem nE {a b : Nat} (ha : a < 2 ^ 31) (hb : b < 2 ^ 31) (h : a ≠ b) : ¬ nI a = nI b := fun hq => h ((nI_eq ha hb).mp hq)
theorem rd_x (hL : LT len pg c) {m k q : Nat} (hm : m < 5) (hq : q < 100) (hne : q ≠ 5 * m + 4) (h : f_X12_readOne (nI (5 * m)) pg (nI len) = some (nI q)) : f_X12_read_12 (k + 1) pg (nI len) (nI (5 * m)) 0 (nI m) = some (nI q, nI 0, nI m) := by
  rw [f_X12_read_12, if_neg (show ¬ (5 : Int32) ≤ nI m from fun h => by have := (nI_b (a := 5) (b := m) (by decide) (by omega)).mp h; omega), h]
  simp only [Option.bind_some]
  rw [pN4, if_neg (nE (by omega) (by omega) hne)]
  rfl
theorem no01 {p : Prop} (h : (0 : Nat) = 1) : p := absurd h (by decide)
theorem no21 {p : Prop} (h : (2 : Nat) = 1) : p := absurd h (by decide)
theorem mBlk (hL : LT len pg c) {m : Nat} (hm : m < 5) (hp : 5 * m ≤ len) (k : Nat) : ∃ mn : Nat, ((blk c len m).2 = 1 → mn = m + 1) ∧ f_X12_read_12 (k + 1) pg (nI len) (nI (5 * m)) 0 (nI m) = if (blk c len m).2 = 2 then f_X12_read_12 k pg (nI len) (nI (5 * m + 5)) 0 (nI (m + 1)) else some (nI (blk c len m).1, nI (blk c len m).2, nI mn) := by
  have hl := hL.1
  unfold blk
  by_cases h0 : 5 * m = len
  · rw [if_pos h0]
    exact ⟨m, fun h => no01 h, rd_x hL hm (by omega) (by omega) (by rw [f_X12_readOne, if_pos (by rw [h0])])⟩
  rw [if_neg h0]
  have r0 : f_X12_readOne (nI (5 * m)) pg (nI len) = (f_X12_kindBy (nI (c (5 * m)))).bind fun q3 => (if q3 = (-1) then (some (nI (5 * m))) else ((f_X12_isFigure (nI (5 * m + 1)) 1 pg (nI len)).bind fun q5 => (if q5 = 0 then (some (nI (5 * m + 1))) else ((f_X12_isFigure (nI (5 * m + 2)) 0 pg (nI len)).bind fun q7 => (if q7 = 0 then (some (nI (5 * m + 2))) else ((f_X12_isFigure (nI (5 * m + 3)) 0 pg (nI len)).bind fun q9 => (if q9 = 0 then (some (nI (5 * m + 3))) else (some (nI (5 * m + 4)))))))))) := by
    rw [f_X12_readOne, if_neg (nE (by omega) (by omega) h0), if_neg (ckN (i := 5 * m) (by omega) (by decide)), cl5 (i := 5 * m) (by omega), (hL.2 (5 * m) (by omega)).1]
    simp only [pN1, pN2, pN3, pN4]
  have x0 := (hL.2 (5 * m) (by omega)).2
  rw [kn_m _ x0] at r0
  simp only [Option.bind_some] at r0
  by_cases h1 : kN (c (5 * m)) = -1
  · rw [if_pos h1] at r0 ⊢
    exact ⟨m, fun h => no01 h, rd_x hL hm (by omega) (by omega) r0⟩
  rw [if_neg h1] at r0 ⊢
  by_cases h2 : 5 * m + 1 = len
  · rw [fg_out (by omega) (by omega)] at r0
    rw [if_pos h2]
    exact ⟨m, fun h => no01 h, rd_x hL hm (by omega) (by omega) r0⟩
  rw [if_neg h2]
  rw [fg_1 hL (by omega)] at r0
  simp only [Option.bind_some] at r0
  by_cases h3 : 49 ≤ c (5 * m + 1) ∧ c (5 * m + 1) ≤ 57
  rotate_left
  · rw [if_neg h3] at r0
    rw [if_pos h3]
    exact ⟨m, fun h => no01 h, rd_x hL hm (by omega) (by omega) r0⟩
  rw [if_pos h3, if_neg c10] at r0
  rw [if_neg (not_not_intro h3)]
  by_cases h4 : 5 * m + 2 = len
  · rw [fg_out (by omega) (by omega)] at r0
    rw [if_pos h4]
    exact ⟨m, fun h => no01 h, rd_x hL hm (by omega) (by omega) r0⟩
  rw [if_neg h4]
  rw [fg_0 hL (by omega)] at r0
  simp only [Option.bind_some] at r0
  by_cases h5 : 48 ≤ c (5 * m + 2) ∧ c (5 * m + 2) ≤ 57
  rotate_left
  · rw [if_neg h5] at r0
    rw [if_pos h5]
    exact ⟨m, fun h => no01 h, rd_x hL hm (by omega) (by omega) r0⟩
  rw [if_pos h5, if_neg c10] at r0
  rw [if_neg (not_not_intro h5)]
  by_cases h6 : 5 * m + 3 = len
  · rw [fg_out (by omega) (by omega)] at r0
    rw [if_pos h6]
    exact ⟨m, fun h => no01 h, rd_x hL hm (by omega) (by omega) r0⟩
  rw [if_neg h6]
  rw [fg_0 hL (by omega)] at r0
  simp only [Option.bind_some] at r0
  by_cases h7 : 48 ≤ c (5 * m + 3) ∧ c (5 * m + 3) ≤ 57
  rotate_left
  · rw [if_neg h7] at r0
    rw [if_pos h7]
    exact ⟨m, fun h => no01 h, rd_x hL hm (by omega) (by omega) r0⟩
  rw [if_pos h7, if_neg c10] at r0
  rw [if_neg (not_not_intro h7), f_X12_read_12, if_neg (show ¬ (5 : Int32) ≤ nI m from fun h => by have := (nI_b (a := 5) (b := m) (by decide) (by omega)).mp h; omega), r0]
  simp only [Option.bind_some]
  rw [pN4, if_pos (show nI (5 * m + 4) = nI (5 * m + 4) from rfl)]
  simp only [bnd, pN1, pN2, nI_1]
  by_cases h8 : 5 * m + 4 = len
  · rw [if_pos h8, h8, if_pos (le_t len), if_pos (show nI len = nI len from rfl)]
    exact ⟨m + 1, fun h => no01 h, rfl⟩
  rw [if_neg h8, if_neg (le_f (show 5 * m + 4 < len by omega) (by omega)), if_neg (ckN (i := 5 * m + 4) (by omega) (by decide)), cl5 (i := 5 * m + 4) (by omega), (hL.2 (5 * m + 4) (by omega)).1]
  have x4 := (hL.2 (5 * m + 4) (by omega)).2
  have e4 : ¬ nI (5 * m + 4) = nI len := nE (by omega) (by omega) (by omega)
  by_cases h9 : c (5 * m + 4) = 59
  · rw [h9, if_pos (show nI 59 = 59 from rfl), if_pos rfl]
    by_cases hm0 : m = 0
    · subst hm0
      rw [if_pos (show (0 : Nat) = 0 from rfl), if_pos (show nI (0 + 1) ≤ 1 by decide), if_neg e4, if_neg (show ¬ nI (0 + 1) = 5 by decide), if_neg (show ¬ nI 59 = 44 by decide)]
      exact ⟨1, fun h => no01 h, rfl⟩
    rw [if_neg hm0, if_neg (show ¬ nI (m + 1) ≤ 1 from fun h => by have := (nI_b (a := m + 1) (b := 1) (by omega) (by decide)).mp h; omega)]
    have e6 : 5 * m + 4 + 1 = 5 * m + 5 := rfl
    have e7 : 5 * m + 4 + 2 = 5 * m + 6 := rfl
    rw [e6, e7]
    by_cases ha : 5 * m + 5 = len
    · rw [fg_out (by omega) (by omega), if_pos ha]
      exact ⟨m + 1, fun h => no01 h, rfl⟩
    rw [if_neg ha, fg_0 hL (by omega)]
    simp only [Option.bind_some]
    by_cases hb : 48 ≤ c (5 * m + 5) ∧ c (5 * m + 5) ≤ 57
    rotate_left
    · rw [if_neg hb, if_pos hb, if_pos (show (0 : Int32) = 0 from rfl), if_pos (show (0 : Int32) = 0 from rfl)]
      exact ⟨m + 1, fun h => no01 h, rfl⟩
    rw [if_pos hb, if_neg (not_not_intro hb), if_neg c10, if_neg c10, if_neg c10]
    by_cases hc : 5 * m + 6 = len
    · rw [if_pos hc, if_pos (by rw [hc])]
      exact ⟨m + 1, fun _ => rfl, rfl⟩
    · rw [if_neg hc, if_neg (nE (by omega) (by omega) hc)]
      exact ⟨m + 1, fun h => no01 h, rfl⟩
  · rw [if_neg h9, if_neg (show ¬ nI (c (5 * m + 4)) = 59 from fun h => h9 ((nI_eq (a := c (5 * m + 4)) (b := 59) (by omega) (by decide)).mp h)), if_neg e4]
    have e5 : 5 * m + 4 + 1 = 5 * m + 5 := rfl
    rw [e5]
    by_cases hd : c (5 * m + 4) = 44
    · rw [if_pos hd, if_pos (show nI (c (5 * m + 4)) = 44 by rw [hd]; rfl)]
      by_cases he : m < 4
      · rw [if_pos he, if_neg (show ¬ nI (m + 1) = 5 from fun h => by have := (nI_eq (a := m + 1) (b := 5) (by omega) (by decide)).mp h; omega)]
        exact ⟨0, fun h => no21 h, rfl⟩
      · have : m = 4 := by omega
        subst this
        rw [if_neg he]
        exact ⟨5, fun h => no01 h, rfl⟩
    · rw [if_neg hd, if_neg (show ¬ nI (c (5 * m + 4)) = 44 from fun h => hd ((nI_eq (a := c (5 * m + 4)) (b := 44) (by omega) (by decide)).mp h))]
      refine ⟨m + 1, fun h => no01 h, ?_⟩
      split <;> rfl
end
