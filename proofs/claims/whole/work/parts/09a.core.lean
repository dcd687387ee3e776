section
/-- how many places below m have p -/
def cnt (p : Nat → Bool) : Nat → Nat
  | 0 => 0
  | m + 1 => cnt p m + if p m then 1 else 0
theorem cnt_le (p : Nat → Bool) (m : Nat) : cnt p m ≤ m := by
  induction m with
  | zero => exact Nat.le_refl 0
  | succ m ih => rw [cnt]; split <;> omega
theorem cnt_mono {p q : Nat → Bool} {m : Nat} (h : ∀ j, j < m → p j = true → q j = true) : cnt p m ≤ cnt q m := by
  induction m with
  | zero => exact Nat.le_refl 0
  | succ m ih =>
    have h1 := ih (fun j hj => h j (by omega))
    rw [cnt, cnt]
    have h2 := h m (by omega)
    cases hp : p m <;> cases hq : q m <;> simp [hp, hq] at h2 ⊢ <;> omega
theorem cnt_lt {p q : Nat → Bool} {m a : Nat} (h : ∀ j, j < m → p j = true → q j = true) (ha : a < m) (hp : p a = false) (hq : q a = true) : cnt p m < cnt q m := by
  induction m with
  | zero => omega
  | succ m ih =>
    rw [cnt, cnt]
    by_cases hm : a = m
    · subst hm
      have h1 := cnt_mono (p := p) (q := q) (m := a) (fun j hj => h j (by omega))
      rw [hp, hq]
      simp
      omega
    · have h1 := ih (fun j hj => h j (by omega)) (by omega)
      have h2 := h m (by omega)
      cases hp : p m <;> cases hq : q m <;> simp [hp, hq] at h2 ⊢ <;> omega
theorem cnt_all {p : Nat → Bool} {m a : Nat} (ha : a < m) (hp : p a = false) : cnt p m < m := by
  have h := cnt_lt (p := p) (q := fun _ => true) (m := m) (fun _ _ _ => rfl) ha hp rfl
  have h2 := cnt_le (fun _ => true) m
  omega
theorem cnt_congr {p q : Nat → Bool} {m : Nat} (h : ∀ j, j < m → p j = q j) : cnt p m = cnt q m := by
  induction m with
  | zero => rfl
  | succ m ih => rw [cnt, cnt, ih (fun j hj => h j (by omega)), h m (by omega)]
theorem cnt_zero {p : Nat → Bool} {m : Nat} : cnt p m = 0 ↔ ∀ j, j < m → p j = false := by
  induction m with
  | zero => exact ⟨fun _ j hj => by omega, fun _ => rfl⟩
  | succ m ih =>
    rw [cnt]
    constructor
    · intro h j hj
      have h0 : cnt p m = 0 := by omega
      have h1 : p m = false := by
        cases hp : p m with
        | false => rfl
        | true => rw [hp] at h; simp at h
      by_cases hm : j = m
      · rw [hm]; exact h1
      · exact ih.mp h0 j (by omega)
    · intro h
      rw [ih.mpr (fun j hj => h j (by omega)), h m (by omega)]
      rfl
theorem cnt_one {p : Nat → Bool} {m : Nat} : cnt p m = 1 ↔ ∃ a, a < m ∧ p a = true ∧ ∀ j, j < m → p j = true → j = a := by
  induction m with
  | zero => exact ⟨fun h => (by cases h), fun ⟨a, ha, _⟩ => (by omega)⟩
  | succ m ih =>
    rw [cnt]
    constructor
    · intro h
      cases hp : p m with
      | true =>
        rw [hp] at h
        have h0 : cnt p m = 0 := by simp at h; omega
        refine ⟨m, by omega, hp, fun j hj hpj => ?_⟩
        by_cases hm : j = m
        · exact hm
        · have := cnt_zero.mp h0 j (by omega); rw [this] at hpj; cases hpj
      | false =>
        rw [hp] at h
        obtain ⟨a, ha, hpa, hu⟩ := ih.mp (by simpa using h)
        refine ⟨a, by omega, hpa, fun j hj hpj => ?_⟩
        by_cases hm : j = m
        · rw [hm, hp] at hpj; cases hpj
        · exact hu j (by omega) hpj
    · intro ⟨a, ha, hpa, hu⟩
      by_cases hm : a = m
      · subst hm
        rw [hpa, cnt_zero.mpr (fun j hj => by
          cases hpj : p j with
          | false => rfl
          | true => have := hu j (by omega) hpj; omega)]
        rfl
      · have h1 : cnt p m = 1 := ih.mpr ⟨a, by omega, hpa, fun j hj hpj => hu j (by omega) hpj⟩
        have h2 : p m = false := by
          cases hpm : p m with
          | false => rfl
          | true => have := hu m (by omega) hpm; omega
        rw [h1, h2]
        rfl
end
section
/-- f keeps under the ends, and by touches at most one behind -/
def Pot (n : Nat) (e : Nat → Nat) (T : Nat → Nat → Prop) (f : Nat → Nat) : Prop := (∀ i, i < n → f i ≤ e i) ∧ ∀ i, i < n → ∀ a, a < n → T a i → f i ≤ f a + 1
/-- the greatest of them -/
def IsD (n : Nat) (e : Nat → Nat) (T : Nat → Nat → Prop) (d : Nat → Nat) : Prop := Pot n e T d ∧ ∀ f, Pot n e T f → ∀ i, i < n → f i ≤ d i
def tot (d : Nat → Nat) : Nat → Nat
  | 0 => 0
  | m + 1 => tot d m + d m
theorem tot_le {d f : Nat → Nat} {m : Nat} (h : ∀ i, i < m → d i ≤ f i) : tot d m ≤ tot f m := by
  induction m with
  | zero => exact Nat.le_refl 0
  | succ m ih => rw [tot, tot]; have := ih (fun i hi => h i (by omega)); have := h m (by omega); omega
theorem tot_lt {d f : Nat → Nat} {m a : Nat} (h : ∀ i, i < m → d i ≤ f i) (ha : a < m) (hl : d a < f a) : tot d m < tot f m := by
  induction m with
  | zero => omega
  | succ m ih =>
    rw [tot, tot]
    by_cases hm : a = m
    · subst hm
      have := tot_le (d := d) (f := f) (m := a) (fun i hi => h i (by omega))
      omega
    · have := ih (fun i hi => h i (by omega)) (by omega)
      have := h m (by omega)
      omega
theorem exD_aux (n : Nat) (e : Nat → Nat) (T : Nat → Nat → Prop) : ∀ (t : Nat) (d : Nat → Nat), tot d n ≤ t → (∀ i, i < n → d i ≤ e i) → (∀ f, Pot n e T f → ∀ i, i < n → f i ≤ d i) → ∃ d, IsD n e T d := by
  intro t
  induction t with
  | zero =>
    intro d ht he hf
    refine ⟨d, ⟨he, fun i hi a ha _ => ?_⟩, hf⟩
    have h0 : d i = 0 := by
      have : ¬ 0 < d i := fun h => by
        have := tot_lt (d := fun _ => 0) (f := d) (m := n) (fun _ _ => Nat.zero_le _) hi h
        omega
      omega
    omega
  | succ t ih =>
    intro d ht he hf
    by_cases hp : ∀ i, i < n → ∀ a, a < n → T a i → d i ≤ d a + 1
    · exact ⟨d, ⟨he, hp⟩, hf⟩
    · have hp : ∃ i, i < n ∧ ∃ a, a < n ∧ T a i ∧ d a + 1 < d i := by
        apply Classical.byContradiction
        intro hq
        apply hp
        intro i hi a ha hT
        apply Classical.byContradiction
        intro hl
        exact hq ⟨i, hi, a, ha, hT, by omega⟩
      obtain ⟨i, hi, a, ha, hT, hl⟩ := hp
      refine ih (fun j => if j = i then d a + 1 else d j) ?_ ?_ ?_
      · have := tot_lt (d := fun j => if j = i then d a + 1 else d j) (f := d) (m := n) (fun j _ => by show (if j = i then d a + 1 else d j) ≤ d j; split <;> rename_i h <;> first | (subst h; omega) | omega) hi (by simp; omega)
        omega
      · intro j hj
        show (if j = i then d a + 1 else d j) ≤ e j
        split
        · rename_i h; subst h; have := he j hj; omega
        · exact he j hj
      · intro f hfp j hj
        show f j ≤ (if j = i then d a + 1 else d j)
        split
        · rename_i h; subst h
          have h1 := hfp.2 j hj a ha hT
          have h2 := hf f hfp a ha
          omega
        · exact hf f hfp j hj
theorem exD (n : Nat) (e : Nat → Nat) (T : Nat → Nat → Prop) : ∃ d, IsD n e T d := exD_aux n e T (tot e n) e (Nat.le_refl _) (fun _ _ => Nat.le_refl _) (fun _ hf i hi => hf.1 i hi)
noncomputable def DD (n : Nat) (e : Nat → Nat) (T : Nat → Nat → Prop) : Nat → Nat := Classical.choose (exD n e T)
theorem DD_is (n : Nat) (e : Nat → Nat) (T : Nat → Nat → Prop) : IsD n e T (DD n e T) := Classical.choose_spec (exD n e T)
theorem Pot.congr {n : Nat} {e e' : Nat → Nat} {T T' : Nat → Nat → Prop} {f : Nat → Nat} (he : ∀ i, i < n → e i = e' i) (hT : ∀ i, i < n → ∀ a, a < n → (T a i ↔ T' a i)) (h : Pot n e T f) : Pot n e' T' f := ⟨fun i hi => by rw [← he i hi]; exact h.1 i hi, fun i hi a ha ht => h.2 i hi a ha ((hT i hi a ha).mpr ht)⟩
theorem DD_congr {n : Nat} {e e' : Nat → Nat} {T T' : Nat → Nat → Prop} (he : ∀ i, i < n → e i = e' i) (hT : ∀ i, i < n → ∀ a, a < n → (T a i ↔ T' a i)) : ∀ i, i < n → DD n e T i = DD n e' T' i := by
  intro i hi
  have h1 := DD_is n e T
  have h2 := DD_is n e' T'
  have a1 := h2.2 _ (h1.1.congr he hT) i hi
  have a2 := h1.2 _ (h2.1.congr (fun i hi => (he i hi).symm) (fun i hi a ha => (hT i hi a ha).symm)) i hi
  omega
/-- it is reached by an end or by a touch -/
theorem DD_att {n : Nat} {e : Nat → Nat} {T : Nat → Nat → Prop} {i : Nat} (hi : i < n) : DD n e T i = e i ∨ ∃ a, a < n ∧ T a i ∧ DD n e T i = DD n e T a + 1 := by
  have h := DD_is n e T
  apply Classical.byContradiction
  intro hq
  have q1 : DD n e T i < e i := by
    have := h.1.1 i hi
    have : ¬ DD n e T i = e i := fun h => hq (Or.inl h)
    omega
  have q2 : ∀ a, a < n → T a i → DD n e T i < DD n e T a + 1 := fun a ha hT => by
    have := h.1.2 i hi a ha hT
    have : ¬ DD n e T i = DD n e T a + 1 := fun h => hq (Or.inr ⟨a, ha, hT, h⟩)
    omega
  have hp : Pot n e T (fun j => if j = i then DD n e T i + 1 else DD n e T j) := by
    refine ⟨fun j hj => ?_, fun j hj a ha hT => ?_⟩
    · show (if j = i then DD n e T i + 1 else DD n e T j) ≤ e j
      split
      · rename_i hji; subst hji; omega
      · exact h.1.1 j hj
    · show (if j = i then DD n e T i + 1 else DD n e T j) ≤ (if a = i then DD n e T i + 1 else DD n e T a) + 1
      split
      · rename_i hji; subst hji
        have := q2 a ha hT
        split <;> omega
      · have := h.1.2 j hj a ha hT
        split
        · rename_i hai; subst hai; omega
        · omega
  have := h.2 _ hp i hi
  simp at this
  omega
/-- how many are ahead -/
def rk (n : Nat) (d : Nat → Nat) (i : Nat) : Nat := cnt (fun j => decide (d j < d i)) n
theorem rk_lt {n : Nat} {d : Nat → Nat} {a b : Nat} (ha : a < n) (h : d a < d b) : rk n d a < rk n d b := cnt_lt (fun j _ hj => by simp at hj ⊢; omega) ha (by simp) (by simpa using h)
theorem rk_n {n : Nat} {d : Nat → Nat} {i : Nat} (hi : i < n) : rk n d i < n := cnt_all hi (by simp)
/-- after r rounds those of rank r are right -/
def Fin_ (n : Nat) (e : Nat → Nat) (T : Nat → Nat → Prop) (r : Nat) (d : Nat → Nat) : Prop := ∀ i, i < n → rk n (DD n e T) i ≤ r → d i ≤ DD n e T i
def Low (n : Nat) (e : Nat → Nat) (T : Nat → Nat → Prop) (d : Nat → Nat) : Prop := ∀ i, i < n → DD n e T i ≤ d i ∧ d i ≤ e i
theorem low_e (n : Nat) (e : Nat → Nat) (T : Nat → Nat → Prop) : Low n e T e := fun i hi => ⟨(DD_is n e T).1.1 i hi, Nat.le_refl _⟩
theorem fin_0 {n : Nat} {e : Nat → Nat} {T : Nat → Nat → Prop} {d : Nat → Nat} (h : Low n e T d) : Fin_ n e T 0 d := by
  intro i hi hr
  rcases DD_att (e := e) (T := T) hi with h1 | ⟨a, ha, hT, h1⟩
  · rw [h1]; exact (h i hi).2
  · have := rk_lt (n := n) (d := DD n e T) (a := a) (b := i) ha (by omega)
    omega
theorem fin_step {n : Nat} {e : Nat → Nat} {T : Nat → Nat → Prop} {r : Nat} {d : Nat → Nat} (h : Low n e T d) (hs : ∀ b, b < n → ∀ a, a < n → T a b → rk n (DD n e T) a ≤ r → d b ≤ DD n e T a + 1) : Fin_ n e T (r + 1) d := by
  intro i hi hr
  rcases DD_att (e := e) (T := T) hi with h1 | ⟨a, ha, hT, h1⟩
  · rw [h1]; exact (h i hi).2
  · have h2 := rk_lt (n := n) (d := DD n e T) (a := a) (b := i) ha (by omega)
    rw [h1]
    exact hs i hi a ha hT (by omega)
theorem fin_all {n : Nat} {e : Nat → Nat} {T : Nat → Nat → Prop} {r : Nat} {d : Nat → Nat} (h : Low n e T d) (hr : n ≤ r + 1) (hf : Fin_ n e T r d) : ∀ i, i < n → d i = DD n e T i := fun i hi => by
  have h1 := hf i hi (by have := rk_n (n := n) (d := DD n e T) hi; omega)
  have h2 := (h i hi).1
  omega
theorem fix_all {n : Nat} {e : Nat → Nat} {T : Nat → Nat → Prop} {d : Nat → Nat} (h : Low n e T d) (hp : ∀ i, i < n → ∀ a, a < n → T a i → d i ≤ d a + 1) : ∀ i, i < n → d i = DD n e T i := fun i hi => by
  have h1 := (DD_is n e T).2 d ⟨fun j hj => (h j hj).2, hp⟩ i hi
  have h2 := (h i hi).1
  omega
/-- one step of relaxing keeps what is above the least -/
theorem low_relax {n : Nat} {e : Nat → Nat} {T : Nat → Nat → Prop} {d : Nat → Nat} {a b : Nat} (h : Low n e T d) (ha : a < n) (hb : b < n) (hT : T a b) (hl : d a + 1 < d b) : Low n e T (fun j => if j = b then d a + 1 else d j) := fun i hi => by
  show DD n e T i ≤ (if i = b then d a + 1 else d i) ∧ (if i = b then d a + 1 else d i) ≤ e i
  split
  · rename_i hib; subst hib
    have h1 := (DD_is n e T).1.2 i hi a ha hT
    have h2 := (h a ha).1
    have h3 := (h i hi).2
    exact ⟨by omega, by omega⟩
  · exact h i hi
end
