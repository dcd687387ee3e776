section
theorem ckN {i N : Nat} (h : i < N) (hN : N < 2 ^ 31) : ¬ (nI i < 0 ∨ N ≤ (nI i).toNatClampNeg) := nI_in h hN
theorem cl5 {i : Nat} (h : i < 2 ^ 31) : (nI i).toNatClampNeg = i := nI_clamp h
/-- a loop that counts up to n -/
theorem lpU {S R : Type} (F : Nat → Int32 → S → Option R) (fin : S → R) (n : Nat) (I : Nat → S → Prop)
    (hstop : ∀ k st, I n st → F (k + 1) (nI n) st = some (fin st))
    (hstep : ∀ k i st, i < n → I i st → ∃ st', I (i + 1) st' ∧ F (k + 1) (nI i) st = F k (nI (i + 1)) st') :
    ∀ (m k i : Nat) (st : S), n - i = m → m < k → i ≤ n → I i st → ∃ st', I n st' ∧ F k (nI i) st = some (fin st') := by
  intro m
  induction m with
  | zero =>
    intro k i st hm hk hi hI
    have hin : i = n := by omega
    subst hin
    obtain ⟨k, rfl⟩ : ∃ k', k = k' + 1 := ⟨k - 1, by omega⟩
    exact ⟨st, hI, hstop k st hI⟩
  | succ m ih =>
    intro k i st hm hk hi hI
    obtain ⟨k, rfl⟩ : ∃ k', k = k' + 1 := ⟨k - 1, by omega⟩
    obtain ⟨st', hI', he⟩ := hstep k i st (by omega) hI
    rw [he]
    exact ih k (i + 1) st' (by omega) (by omega) (by omega) hI'
theorem lpU0 {S R : Type} (F : Nat → Int32 → S → Option R) (fin : S → R) (n : Nat) (I : Nat → S → Prop) (st : S) (hn : n < 4096) (h0 : I 0 st)
    (hstop : ∀ k st, I n st → F (k + 1) (nI n) st = some (fin st))
    (hstep : ∀ k i st, i < n → I i st → ∃ st', I (i + 1) st' ∧ F (k + 1) (nI i) st = F k (nI (i + 1)) st') :
    ∃ st', I n st' ∧ F 4096 0 st = some (fin st') := lpU F fin n I hstop hstep n 4096 0 st rfl hn (Nat.zero_le _) h0
theorem le_f {i n : Nat} (h : i < n) (hn : n < 2 ^ 31) : ¬ nI n ≤ nI i := nI_ge h hn
theorem le_t (n : Nat) : nI n ≤ nI n := Int32.le_refl _
def TF (tc : Nat → Int32) (a i : Nat) : Prop := ((tc i >>> (nI a &&& 31)) &&& 1) = 1
theorem TF_congr {tc tc' : Nat → Int32} {i : Nat} (h : tc i = tc' i) (a : Nat) : TF tc a i ↔ TF tc' a i := by unfold TF; rw [h]
theorem upd_eq (f : Nat → Int32) (k : Nat) (x : Int32) : upd f k x k = x := by simp [upd]
theorem upd_ne {f : Nat → Int32} {k j : Nat} {x : Int32} (h : j ≠ k) : upd f k x j = f j := by simp [upd, h]
theorem has_t {t : Int32} {a : Nat} (h : ((t >>> (nI a &&& 31)) &&& 1) = 1) : f_X12_has t (nI a) = some 1 := by rw [f_X12_has, if_pos h]
theorem has_f {t : Int32} {a : Nat} (h : ¬ ((t >>> (nI a &&& 31)) &&& 1) = 1) : f_X12_has t (nI a) = some 0 := by rw [f_X12_has, if_neg h]
end
section
variable {n : Nat} {K : Nat → Nat} {ch wd tc : Nat → Int32} {e : Nat → Nat}
/-- the reference's first loop: the ends -/
theorem lay_2 (hn : n ≤ 5) {co ki wo tb : Nat → Int32} (he : ∀ i, i < n → f_X12_ownEnd (nI i) co ki wo = some (nI (e i))) (st : Nat → Int32) : ∃ st', (∀ i, i < n → st' i = nI (e i)) ∧ f_X12_layStops_2 4096 (nI n) co ki tb wo 0 st = some (nI n, st') := by
  obtain ⟨st', h1, h2⟩ := lpU0 (fun k y st => f_X12_layStops_2 k (nI n) co ki tb wo y st) (fun st => (nI n, st)) n (fun i st => ∀ j, j < i → st j = nI (e j)) st (by omega) (fun j hj => by omega)
    (fun k st _ => by show f_X12_layStops_2 (k + 1) _ _ _ _ _ _ _ = _; rw [f_X12_layStops_2, if_pos (le_t n)])
    (fun k i st hi hI => by
      refine ⟨upd st i (nI (e i)), fun j hj => ?_, ?_⟩
      · by_cases hji : j = i
        · rw [hji, upd_eq]
        · rw [upd_ne hji]; exact hI j (by omega)
      · show f_X12_layStops_2 (k + 1) _ _ _ _ _ _ _ = _
        rw [f_X12_layStops_2, if_neg (le_f hi (by omega)), he i hi]
        simp only [Option.bind_some, bnd]
        rw [if_neg (ckN (by omega) (by decide)), nI_1, cl5 (by omega)])
  exact ⟨st', h1, h2⟩
theorem nI_b {a b : Nat} (ha : a < 2 ^ 31) (hb : b < 2 ^ 31) : nI a ≤ nI b ↔ a ≤ b := nI_leI ha hb
/-- the reference's second loop -/
theorem lay_29 (hn : n ≤ 5) (h0 : 0 < n) {co ki wo tb : Nat → Int32} (hb : ∀ i, i < n → e i < 1000) (st : Nat → Int32) (hst : ∀ i, i < n → st i = nI (e i)) : ∃ st', (∀ i, i < n → st' i = nI (DD n e (TF tb) i)) ∧ f_X12_layStops_29 4096 (nI n) co ki tb wo 0 st = some (nI (n * n * n), st') := by
  have hnn : n * n * n < 2 ^ 31 ∧ n * n * n < 4096 ∧ 0 < n * n := by
    have : n = 1 ∨ n = 2 ∨ n = 3 ∨ n = 4 ∨ n = 5 := by omega
    rcases this with h | h | h | h | h <;> subst h <;> decide
  obtain ⟨st', ⟨d, h1, h2, h3, h4⟩, h5⟩ := lpU0 (fun k y st => f_X12_layStops_29 k (nI n) co ki tb wo y st) (fun st => (nI (n * n * n), st)) (n * n * n)
    (fun k st => ∃ d : Nat → Nat, (∀ i, i < n → st i = nI (d i)) ∧ Low n e (TF tb) d ∧ Fin_ n e (TF tb) (k / (n * n)) d ∧ ∀ b, b < n → ∀ a, a < n → b * n + a < k % (n * n) → TF tb a b → rk n (DD n e (TF tb)) a ≤ k / (n * n) → d b ≤ DD n e (TF tb) a + 1) st hnn.2.1
    ⟨e, hst, low_e n e _, by rw [Nat.zero_div]; exact fin_0 (low_e n e _), fun b _ a _ h => by rw [Nat.zero_mod] at h; omega⟩
    (fun k st _ => by
      show f_X12_layStops_29 (k + 1) _ _ _ _ _ _ _ = _
      rw [f_X12_layStops_29, pk_mul, pk_mul, if_pos (le_t _)])
    (fun k i st hi ⟨d, g1, g2, g3, g4⟩ => by
      have ea : nI i - nI i / nI n * nI n = nI (i % n) := pk_rem (by omega) h0 (by omega)
      have ed : nI i / nI n = nI (i / n) := pk_div (by omega) h0 (by omega)
      have hdl : i / n ≤ i := Nat.div_le_self i n
      rw [ed] at ea
      have eb : nI (i / n) - nI (i / n) / nI n * nI n = nI (i / n % n) := pk_rem (by omega) h0 (by omega)
      have ha : i % n < n := Nat.mod_lt _ h0
      have hbn : i / n % n < n := Nat.mod_lt _ h0
      have hm : i / n % n * n + i % n = i % (n * n) := by
        have e1 := Nat.mod_mul_right_div_self i n n
        have e2 : i % (n * n) % n = i % n := Nat.mod_mul_right_mod i n n
        have e3 := Nat.div_add_mod (i % (n * n)) n
        rw [e1, e2, Nat.mul_comm n] at e3
        exact e3
      have hd : ∀ j, j < n → d j < 1000 := fun j hj => Nat.lt_of_le_of_lt (g2 j hj).2 (hb j hj)
      -- the new heights
      have key : ∀ d' : Nat → Nat, (∀ j, j < n → d' j ≤ d j) → Low n e (TF tb) d' → (TF tb (i % n) (i / n % n) → d' (i / n % n) ≤ d (i % n) + 1) → Fin_ n e (TF tb) ((i + 1) / (n * n)) d' ∧ ∀ b, b < n → ∀ a, a < n → b * n + a < (i + 1) % (n * n) → TF tb a b → rk n (DD n e (TF tb)) a ≤ (i + 1) / (n * n) → d' b ≤ DD n e (TF tb) a + 1 := by
        intro d' hle hlow hnew
        have hcov : ∀ b, b < n → ∀ a, a < n → b * n + a ≤ i % (n * n) → TF tb a b → rk n (DD n e (TF tb)) a ≤ i / (n * n) → d' b ≤ DD n e (TF tb) a + 1 := by
          intro b hb' a ha' hlt hT hr
          by_cases hlt' : b * n + a < i % (n * n)
          · exact Nat.le_trans (hle b hb') (g4 b hb' a ha' hlt' hT hr)
          · have heq : b * n + a = i / n % n * n + i % n := by omega
            have hbb : b = i / n % n := by
              have q1 : (b * n + a) / n = b := by rw [Nat.mul_comm, Nat.mul_add_div h0, Nat.div_eq_of_lt ha', Nat.add_zero]
              have q2 : (i / n % n * n + i % n) / n = i / n % n := by rw [Nat.mul_comm, Nat.mul_add_div h0, Nat.div_eq_of_lt ha, Nat.add_zero]
              rw [← q1, heq, q2]
            have haa : a = i % n := by rw [hbb] at heq; omega
            subst hbb
            subst haa
            have := hnew hT
            have := g3 (i % n) ha hr
            omega
        by_cases hw : i % (n * n) + 1 < n * n
        · have q1 : (i + 1) % (n * n) = i % (n * n) + 1 := by
            rw [Nat.add_mod, Nat.mod_eq_of_lt (a := 1) (by omega), Nat.mod_eq_of_lt hw]
          have q2 : (i + 1) / (n * n) = i / (n * n) := by
            have e1 := Nat.div_add_mod (i + 1) (n * n)
            have e2 := Nat.div_add_mod i (n * n)
            rw [q1] at e1
            have : n * n * ((i + 1) / (n * n)) = n * n * (i / (n * n)) := by omega
            exact Nat.eq_of_mul_eq_mul_left hnn.2.2 this
          rw [q1, q2]
          refine ⟨fun j hj hr => Nat.le_trans (hle j hj) (g3 j hj hr), fun b hb' a ha' hlt => hcov b hb' a ha' (by omega)⟩
        · have hlt := Nat.mod_lt i hnn.2.2
          have q0 : i % (n * n) + 1 = n * n := by omega
          have q1 : (i + 1) % (n * n) = 0 := by
            rw [← Nat.div_add_mod i (n * n), Nat.add_assoc, q0, ← Nat.mul_succ, Nat.mul_mod_right]
          have q2 : (i + 1) / (n * n) = i / (n * n) + 1 := by
            have e2 := Nat.div_add_mod i (n * n)
            have e1 := Nat.div_add_mod (i + 1) (n * n)
            rw [q1] at e1
            have : n * n * ((i + 1) / (n * n)) = n * n * (i / (n * n) + 1) := by rw [Nat.mul_add, Nat.mul_one]; omega
            exact Nat.eq_of_mul_eq_mul_left hnn.2.2 this
          rw [q1, q2]
          refine ⟨fin_step hlow (fun b hb' a ha' hT hr => hcov b hb' a ha' ?_ hT hr), fun b _ a _ h => by omega⟩
          have : b * n + a < n * n := by
            have : b * n + n ≤ n * n := by rw [← Nat.succ_mul]; exact Nat.mul_le_mul_right n hb'
            omega
          omega
      have goal : ∃ st', (∃ d : Nat → Nat, (∀ j, j < n → st' j = nI (d j)) ∧ Low n e (TF tb) d ∧ Fin_ n e (TF tb) ((i + 1) / (n * n)) d ∧ ∀ b, b < n → ∀ a, a < n → b * n + a < (i + 1) % (n * n) → TF tb a b → rk n (DD n e (TF tb)) a ≤ (i + 1) / (n * n) → d b ≤ DD n e (TF tb) a + 1) ∧ f_X12_layStops_29 (k + 1) (nI n) co ki tb wo (nI i) st = f_X12_layStops_29 k (nI n) co ki tb wo (nI (i + 1)) st' := by
        have hne0 : ¬ nI n = 0 := nI_ne0 h0 (by omega)
        rw [f_X12_layStops_29, pk_mul, pk_mul, if_neg (le_f hi (by omega)), if_neg hne0]
        simp only [bnd, ed, ea, eb, nI_1]
        rw [if_neg (ckN (by omega) (by decide)), cl5 (by omega)]
        by_cases hT : TF tb (i % n) (i / n % n)
        · rw [has_t hT]
          simp only [Option.bind_some]
          rw [if_neg (by decide), if_neg (ckN (by omega) (by decide)), cl5 (by omega), g1 _ hbn, g1 _ ha, nI_1]
          have hda := hd _ ha
          have hdb := hd _ hbn
          by_cases hl : d (i / n % n) ≤ d (i % n) + 1
          · rw [if_pos ((nI_b (by omega) (by omega)).mpr hl)]
            refine ⟨_, ⟨d, fun j hj => ?_, g2, key d (fun _ _ => Nat.le_refl _) g2 (fun _ => hl)⟩, rfl⟩
            by_cases hjb : j = i / n % n
            · rw [hjb, upd_eq]
            · rw [upd_ne hjb]; exact g1 j hj
          · rw [if_neg (fun h => hl ((nI_b (by omega) (by omega)).mp h))]
            refine ⟨_, ⟨fun j => if j = i / n % n then d (i % n) + 1 else d j, fun j hj => ?_, low_relax g2 ha hbn hT (by omega), key _ (fun j _ => ?_) (low_relax g2 ha hbn hT (by omega)) (fun _ => by simp)⟩, rfl⟩
            · by_cases hjb : j = i / n % n
              · rw [hjb, upd_eq]; simp
              · rw [upd_ne hjb]; simp [hjb]; exact g1 j hj
            · show (if j = i / n % n then d (i % n) + 1 else d j) ≤ d j
              split
              · rename_i h; rw [h]; omega
              · exact Nat.le_refl _
        · rw [has_f hT]
          simp only [Option.bind_some]
          rw [if_pos trivial]
          refine ⟨_, ⟨d, fun j hj => ?_, g2, key d (fun _ _ => Nat.le_refl _) g2 (fun h => absurd h hT)⟩, rfl⟩
          by_cases hjb : j = i / n % n
          · rw [hjb, upd_eq]; exact g1 _ hbn
          · rw [upd_ne hjb]; exact g1 j hj
      exact goal)
  refine ⟨st', fun i hi => ?_, h5⟩
  have hq : n * n * n / (n * n) = n := Nat.mul_div_cancel_left n hnn.2.2
  rw [hq] at h3
  rw [h1 i hi, fin_all h2 (by omega) h3 i hi]
end
