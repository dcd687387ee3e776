section
/-- the digit of bidder i in the number v, the first bidder's the greatest -/
def dg (B n v i : Nat) : Nat := v / B ^ (n - 1 - i) % B
def chV (B n v i : Nat) : Int32 := nI (dg B n v i + 1)
/-- v with bidder b's digit c -/
def rp (B n v b c : Nat) : Nat := v - dg B n v b * B ^ (n - 1 - b) + c * B ^ (n - 1 - b)
theorem pw_le {B n : Nat} (hB : B ≤ 4) (hn : n ≤ 5) : B ^ n ≤ 1024 := Nat.le_trans (Nat.pow_le_pow_left hB n) (Nat.le_trans (Nat.pow_le_pow_right (by decide) hn) (by decide))
theorem pw_pos {B : Nat} (hB : 1 ≤ B) (n : Nat) : 0 < B ^ n := Nat.pow_pos (by omega)
theorem dg_lt {B : Nat} (hB : 1 ≤ B) (n v i : Nat) : dg B n v i < B := Nat.mod_lt _ (by omega)
theorem dg_0 (B n i : Nat) : dg B n 0 i = 0 := by unfold dg; rw [Nat.zero_div, Nat.zero_mod]
theorem pw_split {B n j b : Nat} (hj : j < b) (hb : b < n) : B ^ (n - 1 - j) = B ^ (n - 1 - b) * (B * B ^ (b - 1 - j)) := by
  have e : n - 1 - j = (n - 1 - b) + (1 + (b - 1 - j)) := by omega
  rw [e, Nat.pow_add, Nat.pow_add, Nat.pow_one]
theorem sub3 {v a d l x : Nat} (k : v = a + d + l) : v - d + x = a + x + l := by omega
theorem le3 {v a d l : Nat} (k : v = a + d + l) : d ≤ v := by omega
theorem rp_val {B n v b c : Nat} (hB : 1 ≤ B) : v = v / B ^ (n - 1 - b) / B * B * B ^ (n - 1 - b) + dg B n v b * B ^ (n - 1 - b) + v % B ^ (n - 1 - b) ∧ rp B n v b c = (v / B ^ (n - 1 - b) / B * B + c) * B ^ (n - 1 - b) + v % B ^ (n - 1 - b) := by
  have h1 := Nat.div_add_mod v (B ^ (n - 1 - b))
  have h2 := Nat.div_add_mod (v / B ^ (n - 1 - b)) B
  have e : v / B ^ (n - 1 - b) = v / B ^ (n - 1 - b) / B * B + dg B n v b := by
    unfold dg
    rw [Nat.mul_comm (v / B ^ (n - 1 - b) / B) B]
    omega
  have k : v = v / B ^ (n - 1 - b) / B * B * B ^ (n - 1 - b) + dg B n v b * B ^ (n - 1 - b) + v % B ^ (n - 1 - b) := by
    rw [← Nat.add_mul, ← e, Nat.mul_comm]
    exact h1.symm
  refine ⟨k, ?_⟩
  unfold rp
  rw [Nat.add_mul]
  exact sub3 k
theorem hi_div {W : Nat} (hW : 0 < W) (X lo : Nat) (hl : lo < W) : (X * W + lo) / W = X := by
  rw [Nat.add_comm, Nat.add_mul_div_right _ _ hW, Nat.div_eq_of_lt hl, Nat.zero_add]
theorem dg_rp {B n v b c : Nat} (hB : 1 ≤ B) (hb : b < n) (hc : c < B) : ∀ j, j < n → dg B n (rp B n v b c) j = if j = b then c else dg B n v j := by
  intro j hj
  have hW := pw_pos hB (n - 1 - b)
  obtain ⟨h1, h2⟩ := rp_val (B := B) (n := n) (v := v) (b := b) (c := c) hB
  have hlo := Nat.mod_lt v hW
  have hd := dg_lt hB n v b
  rw [← Nat.add_mul] at h1
  by_cases e : j = b
  · rw [if_pos e, e, h2]
    unfold dg
    rw [hi_div hW _ _ hlo, Nat.mul_comm, Nat.mul_add_mod]
    exact Nat.mod_eq_of_lt hc
  · rw [if_neg e]
    by_cases hjb : j < b
    · unfold dg
      rw [pw_split hjb hb, ← Nat.div_div_eq_div_mul, ← Nat.div_div_eq_div_mul, ← Nat.div_div_eq_div_mul, ← Nat.div_div_eq_div_mul, h2, hi_div hW _ _ hlo]
      rw [hi_div (by omega) _ _ hc]
    · have hbj : b < j := by omega
      have hWj := pw_pos hB (n - 1 - j)
      have key : ∀ X : Nat, (X * B ^ (n - 1 - b) + v % B ^ (n - 1 - b)) / B ^ (n - 1 - j) % B = v % B ^ (n - 1 - b) / B ^ (n - 1 - j) % B := by
        intro X
        have e2 : X * B ^ (n - 1 - b) = X * B ^ (j - 1 - b) * B * B ^ (n - 1 - j) := by
          rw [pw_split hbj hj, Nat.mul_assoc, Nat.mul_assoc]
          congr 1
          rw [Nat.mul_comm (B ^ (n - 1 - j)), Nat.mul_comm B (B ^ (j - 1 - b)), Nat.mul_assoc]
        rw [e2, Nat.add_comm, Nat.add_mul_div_right _ _ hWj, Nat.add_mul_mod_self_right]
      rw [h2]
      unfold dg
      rw [key]
      have k2 := key (v / B ^ (n - 1 - b) / B * B + dg B n v b)
      rw [← h1] at k2
      exact k2.symm
theorem rp_lt {B n v b c : Nat} (hB : 1 ≤ B) (hb : b < n) (hc : c < B) (hv : v < B ^ n) : rp B n v b c < B ^ n := by
  have hW := pw_pos hB (n - 1 - b)
  obtain ⟨_, h2⟩ := rp_val (B := B) (n := n) (v := v) (b := b) (c := c) hB
  have hlo := Nat.mod_lt v hW
  have e : B ^ n = B ^ b * (B ^ (n - 1 - b) * B) := by
    have : n = b + ((n - 1 - b) + 1) := by omega
    conv => lhs; rw [this]
    rw [Nat.pow_add, Nat.pow_succ]
  have hWB : 0 < B ^ (n - 1 - b) * B := Nat.mul_pos hW (by omega)
  rw [e] at hv ⊢
  rw [← Nat.div_lt_iff_lt_mul hWB] at hv ⊢
  rw [← Nat.div_div_eq_div_mul] at hv ⊢
  rw [h2, hi_div hW _ _ hlo, hi_div (by omega) _ _ hc]
  exact hv
theorem rp_i {B n v b c : Nat} (hB : 1 ≤ B) : nI v - (chV B n v b - 1) * nI (B ^ (n - 1 - b)) + nI c * nI (B ^ (n - 1 - b)) = nI (rp B n v b c) := by
  obtain ⟨h1, _⟩ := rp_val (B := B) (n := n) (v := v) (b := b) (c := c) hB
  have e : chV B n v b - 1 = nI (dg B n v b) := pk_sub (a := dg B n v b + 1) (b := 1) (by omega)
  rw [e, pk_mul, pk_mul, pk_sub (le3 h1), nI_add]
  rfl
/-- the step from v to v + 1 at a place where all behind overflows -/
theorem nx_dg {B n v i m : Nat} (hB : 1 ≤ B) (hB4 : B ≤ 4) (hi : i < n) (hm : v + 1 = B ^ (n - 1 - i) * m) :
    (dg B n v i = B - 1 → dg B n (v + 1) i = 0 ∧ ∃ m', v + 1 = B ^ (n - 1 - i) * B * m') ∧
    (dg B n v i ≠ B - 1 → dg B n (v + 1) i = dg B n v i + 1 ∧ ∀ j, j < i → dg B n (v + 1) j = dg B n v j) := by
  have hW := pw_pos hB (n - 1 - i)
  obtain ⟨p, rfl⟩ : ∃ p, m = p + 1 := ⟨m - 1, by
    have : m ≠ 0 := fun h => by rw [h] at hm; simp at hm
    omega⟩
  have e1 : (v + 1) / B ^ (n - 1 - i) = p + 1 := by rw [hm, Nat.mul_div_cancel_left _ hW]
  have e0 : v / B ^ (n - 1 - i) = p := by
    rw [Nat.mul_add, Nat.mul_one] at hm
    apply Nat.div_eq_of_lt_le
    · rw [Nat.mul_comm]; omega
    · rw [Nat.add_mul, Nat.mul_comm]; omega
  have hB' : B = 1 ∨ B = 2 ∨ B = 3 ∨ B = 4 := by omega
  constructor
  · intro hd
    unfold dg at hd ⊢
    rw [e0] at hd
    rw [e1]
    refine ⟨by rcases hB' with h | h | h | h <;> subst h <;> omega, (p + 1) / B, ?_⟩
    have : B * ((p + 1) / B) = p + 1 := by rcases hB' with h | h | h | h <;> subst h <;> omega
    rw [Nat.mul_assoc, this]
    exact hm
  · intro hd
    unfold dg at hd ⊢
    rw [e0] at hd ⊢
    rw [e1]
    refine ⟨by rcases hB' with h | h | h | h <;> subst h <;> omega, fun j hj => ?_⟩
    rw [pw_split hj hi, ← Nat.div_div_eq_div_mul, ← Nat.div_div_eq_div_mul, ← Nat.div_div_eq_div_mul, ← Nat.div_div_eq_div_mul, e0, e1]
    have : (p + 1) / B = p / B := by rcases hB' with h | h | h | h <;> subst h <;> omega
    rw [this]
theorem nx_aux {B n v : Nat} (hB : 1 ≤ B) (hB4 : B ≤ 4) (hn : n ≤ 5) : ∀ (c k : Nat) (cs : Nat → Int32), c ≤ n → c < k → (∃ m, v + 1 = B ^ (n - c) * m) → (∀ j, j < c → cs j = chV B n v j) → (∀ j, c ≤ j → j < n → cs j = chV B n (v + 1) j) → ∃ cs', (∀ j, j < n → cs' j = chV B n (v + 1) j) ∧ f_X8_chooseNext_7 k (nI B) (nI n) (nI c + (-1)) cs = some cs' := by
  intro c
  induction c with
  | zero =>
    intro k cs _ hk _ _ h2
    obtain ⟨k, rfl⟩ : ∃ k', k = k' + 1 := ⟨k - 1, by omega⟩
    refine ⟨cs, fun j hj => h2 j (by omega) hj, ?_⟩
    rw [f_X8_chooseNext_7, if_pos (by decide)]
  | succ c ih =>
    intro k cs hc hk ⟨m, hm⟩ h1 h2
    obtain ⟨k, rfl⟩ : ∃ k', k = k' + 1 := ⟨k - 1, by omega⟩
    have en : n - (c + 1) = n - 1 - c := by omega
    have e : n - c = (n - 1 - c) + 1 := by omega
    rw [en] at hm
    obtain ⟨a1, a2⟩ := nx_dg hB hB4 (show c < n by omega) hm
    have hd := dg_lt hB n v c
    have hcs := h1 c (by omega)
    unfold chV at hcs
    rw [pk_m1, f_X8_chooseNext_7, if_neg (nI_pos (n := c) (by omega)), if_neg (ckN (i := c) (by omega) (by decide)), cl5 (by omega), hcs]
    by_cases hx : dg B n v c = B - 1
    · obtain ⟨b1, m', b2⟩ := a1 hx
      rw [if_pos ((nI_b (by omega) (by omega)).mpr (by omega))]
      simp only [bnd]
      refine ih k (upd cs c 1) (by omega) (by omega) ⟨m', ?_⟩ (fun j hj => ?_) (fun j hj hjn => ?_)
      · rw [e, Nat.pow_succ]
        exact b2
      · rw [upd_ne (by omega)]; exact h1 j (by omega)
      · by_cases hjc : j = c
        · rw [hjc, upd_eq]; unfold chV; rw [b1]; rfl
        · rw [upd_ne hjc]; exact h2 j (by omega) hjn
    · obtain ⟨b1, b2⟩ := a2 hx
      rw [if_neg (fun h => by have := (nI_b (by omega) (by omega)).mp h; omega)]
      refine ⟨_, fun j hj => ?_, rfl⟩
      by_cases hjc : j = c
      · rw [hjc, upd_eq, nI_1]; unfold chV; rw [b1]
      · rw [upd_ne hjc]
        by_cases hlt : j < c
        · rw [h1 j (by omega)]; unfold chV; rw [b2 j hlt]
        · exact h2 j (by omega) hj
theorem s1 (n : Nat) : nI n - 1 = nI n + (-1) := by rw [Int32.sub_eq_add_neg]
theorem cNext {B n v : Nat} (hB : 1 ≤ B) (hB4 : B ≤ 4) (hn : n ≤ 5) {cs : Nat → Int32} (h : ∀ j, j < n → cs j = chV B n v j) : ∃ cs', (∀ j, j < n → cs' j = chV B n (v + 1) j) ∧ f_X8_chooseNext (nI B) cs (nI n) = some cs' := by
  obtain ⟨cs', a1, a2⟩ := nx_aux (v := v) hB hB4 hn n 4096 cs (Nat.le_refl _) (by omega) ⟨v + 1, by rw [Nat.sub_self, Nat.pow_zero, Nat.one_mul]⟩ h (fun j hj hjn => by omega)
  refine ⟨cs', a1, ?_⟩
  rw [f_X8_chooseNext]
  simp only [bnd]
  rw [s1]
  exact a2
theorem cFirst {n : Nat} (B : Nat) (hn : n ≤ 5) (cs : Nat → Int32) : ∃ cs' : Nat → Int32, (∀ j, j < n → cs' j = chV B n 0 j) ∧ f_X8_chooseFirst cs (nI n) = some cs' := by
  obtain ⟨cs', c1, c2⟩ := lpU0 (fun k y q => f_X8_chooseFirst_2 k (nI n) y q) (fun q => (nI n, q)) n (fun i q => ∀ j, j < i → q j = chV B n 0 j) cs (by omega) (fun j hj => by omega)
    (fun k q _ => by show f_X8_chooseFirst_2 (k + 1) _ _ _ = _; rw [f_X8_chooseFirst_2, if_pos (le_t n)])
    (fun k i q hi hI => by
      show ∃ st', _ ∧ f_X8_chooseFirst_2 (k + 1) _ _ _ = _
      rw [f_X8_chooseFirst_2, if_neg (le_f hi (by omega)), if_neg (ckN (i := i) (by omega) (by decide)), cl5 (i := i) (by omega)]
      simp only [bnd, nI_1]
      refine ⟨_, fun j hj => ?_, rfl⟩
      by_cases hji : j = i
      · subst hji; rw [upd_eq]; unfold chV; rw [dg_0]; rfl
      · rw [upd_ne hji]; exact hI j (by omega))
  refine ⟨cs', c1, ?_⟩
  rw [f_X8_chooseFirst]
  have c2' : f_X8_chooseFirst_2 4096 (nI n) 0 cs = some (nI n, cs') := c2
  rw [c2']
  rfl
theorem cWeigh {B n : Nat} (hB : 1 ≤ B) (hB4 : B ≤ 4) (hn : n ≤ 5) (w : Nat → Int32) : ∃ w' : Nat → Int32, (∀ j, j < n → w' j = nI (B ^ (n - 1 - j))) ∧ f_X8_weigh (nI B) (nI n) w = some (nI (B ^ n), w') := by
  obtain ⟨⟨p, w'⟩, ⟨c0, c1⟩, c2⟩ := lpD (fun k y (q : Int32 × (Nat → Int32)) => f_X8_weigh_9 k (nI B) (nI n) y q.1 q.2) (fun q => ((-1 : Int32), q.1, q.2)) n (fun c q => q.1 = nI (B ^ (n - c)) ∧ ∀ j, c ≤ j → j < n → q.2 j = nI (B ^ (n - 1 - j)))
    (fun k q _ => by show f_X8_weigh_9 (k + 1) _ _ _ _ _ = _; rw [f_X8_weigh_9, if_pos (by decide)])
    (fun k c q hc hI => by
      show ∃ st', _ ∧ f_X8_weigh_9 (k + 1) _ _ _ _ _ = _
      obtain ⟨q1, q2⟩ := q
      obtain ⟨h1, h2⟩ := hI
      dsimp only at h1 h2 ⊢
      rw [f_X8_weigh_9, if_neg (nI_pos (n := c) (by omega)), if_neg (ckN (i := c) (by omega) (by decide)), cl5 (i := c) (by omega), h1]
      simp only [bnd]
      have e1 : n - (c + 1) = n - 1 - c := by omega
      have e2 : n - c = (n - 1 - c) + 1 := by omega
      refine ⟨(nI (B ^ (n - (c + 1))) * nI B, upd q2 c (nI (B ^ (n - (c + 1))))), ⟨?_, fun j hj hjn => ?_⟩, rfl⟩
      · show nI (B ^ (n - (c + 1))) * nI B = _
        rw [pk_mul, e1, e2, Nat.pow_succ]
      · show upd q2 c _ j = _
        by_cases hjc : j = c
        · rw [hjc, upd_eq, e1]
        · rw [upd_ne hjc]; exact h2 j (by omega) hjn)
    n 4096 (1, w) (Nat.le_refl _) (by omega) ⟨by rw [Nat.sub_self]; rfl, fun j hj hjn => by omega⟩
  refine ⟨w', fun j hj => c1 j (by omega) hj, ?_⟩
  have c0' : p = nI (B ^ n) := c0
  have c2' : f_X8_weigh_9 4096 (nI B) (nI n) (nI n + (-1)) 1 w = some (-1, p, w') := c2
  have hp := pw_le hB4 hn
  rw [f_X8_weigh]
  simp only [bnd]
  rw [s1, c2', c0']
  simp only [Option.bind_some]
  rw [if_neg (fun h => by have := (nI_ltI (a := 1024) (b := B ^ n) (by decide) (by omega)).mp h; omega)]
end
