section
variable {ρ τ : Nat → Nat} {n : Nat}
def so_it (f : Nat → Nat) : Nat → Nat → Nat
  | 0, i => i
  | t + 1, i => f (so_it f t i)
theorem so_it_a (f : Nat → Nat) (a b i : Nat) : so_it f (a + b) i = so_it f a (so_it f b i) := by
  induction a with
  | zero => rw [Nat.zero_add]; rfl
  | succ a ih =>
    rw [Nat.succ_add]
    show f (so_it f (a + b) i) = f (so_it f a (so_it f b i))
    rw [ih]
/-- a rearrangement of 0 .. n - 1 -/
def so_pm (n : Nat) (ρ : Nat → Nat) : Prop := (∀ i, i < n → ρ i < n) ∧ (∀ i j, i < n → j < n → ρ i = ρ j → i = j)
theorem so_it_l (h : so_pm n ρ) (t : Nat) {i : Nat} (hi : i < n) : so_it ρ t i < n := by
  induction t with
  | zero => exact hi
  | succ t ih => exact h.1 _ ih
theorem so_it_j (h : so_pm n ρ) (t : Nat) {i j : Nat} (hi : i < n) (hj : j < n) (e : so_it ρ t i = so_it ρ t j) : i = j := by
  induction t with
  | zero => exact e
  | succ t ih => exact ih (h.2 _ _ (so_it_l h t hi) (so_it_l h t hj) e)
theorem so_per2 (h : so_pm n ρ) {i a b : Nat} (hi : i < n) (hab : a < b) (e : so_it ρ a i = so_it ρ b i) : so_it ρ (b - a) i = i := by
  have e1 : a + (b - a) = b := by omega
  have e2 := so_it_a ρ a (b - a) i
  rw [e1, ← e] at e2
  exact (so_it_j h a hi (so_it_l h _ hi) e2).symm
theorem so_per (h : so_pm n ρ) {i : Nat} (hi : i < n) : ∃ T, 0 < T ∧ T ≤ n ∧ so_it ρ T i = i := by
  by_cases c : ∀ a b, a < n → b < n → so_it ρ a i = so_it ρ b i → a = b
  · obtain ⟨k, hk, e⟩ := so_sur (q := fun a => so_it ρ a i) (fun a _ => so_it_l h a hi) c (so_it_l h n hi)
    exact ⟨n - k, by omega, by omega, so_per2 h hi hk e⟩
  · have c' : ∃ a b, a < b ∧ b < n ∧ so_it ρ a i = so_it ρ b i := by
      refine Classical.byContradiction fun z => c fun a b ha hb e => ?_
      rcases Nat.lt_trichotomy a b with x | x | x
      · exact (z ⟨a, b, x, hb, e⟩).elim
      · exact x
      · exact (z ⟨b, a, x, ha, e.symm⟩).elim
    obtain ⟨a, b, h1, h2, e⟩ := c'
    exact ⟨b - a, by omega, by omega, so_per2 h hi h1 e⟩
theorem so_pers {i T : Nat} (e : so_it ρ T i = i) (k : Nat) : so_it ρ (k * T) i = i := by
  induction k with
  | zero => rw [Nat.zero_mul]; rfl
  | succ k ih => rw [Nat.add_mul, Nat.one_mul, so_it_a, e, ih]
/-- i's cycle holds j -/
def so_cy (ρ : Nat → Nat) (i j : Nat) : Prop := ∃ t, so_it ρ t i = j
theorem so_cy_r (i : Nat) : so_cy ρ i i := ⟨0, rfl⟩
theorem so_cy_t {i j k : Nat} (h1 : so_cy ρ i j) (h2 : so_cy ρ j k) : so_cy ρ i k := by
  obtain ⟨a, rfl⟩ := h1
  obtain ⟨b, rfl⟩ := h2
  exact ⟨b + a, so_it_a ρ b a i⟩
theorem so_cy_l (h : so_pm n ρ) {i j : Nat} (hi : i < n) (hc : so_cy ρ i j) : j < n := by
  obtain ⟨a, rfl⟩ := hc
  exact so_it_l h a hi
theorem so_cy_s (h : so_pm n ρ) {i j : Nat} (hi : i < n) (hc : so_cy ρ i j) : so_cy ρ j i := by
  obtain ⟨a, rfl⟩ := hc
  obtain ⟨T, h1, h2, e⟩ := so_per h hi
  refine ⟨a * T - a, ?_⟩
  have e1 : a * T - a + a = a * T := Nat.sub_add_cancel (Nat.le_mul_of_pos_right a h1)
  rw [← so_it_a, e1]
  exact so_pers e a
/-- a step back stays in the cycle -/
theorem so_cy_b (h : so_pm n ρ) (ht : ∀ k, k < n → τ k < n ∧ ρ (τ k) = k) {i j : Nat} (hi : i < n) (hc : so_cy ρ i j) : so_cy ρ i (τ j) := by
  have hj := so_cy_l h hi hc
  have h1 : so_cy ρ (τ j) j := ⟨1, (ht j hj).2⟩
  exact so_cy_t hc (so_cy_s h (ht j hj).1 h1)
/-- what is closed under steps back holds the cycle -/
theorem so_cy_c (h : so_pm n ρ) (ht : ∀ k, k < n → τ k < n ∧ ρ (τ k) = k) {M : Nat → Prop} {i : Nat} (hi : i < n) (h0 : M i) (hs : ∀ j, j < n → M j → M (τ j)) : ∀ j, so_cy ρ i j → M j := by
  intro j hc
  have hj := so_cy_l h hi hc
  obtain ⟨a, e⟩ := so_cy_s h hi hc
  induction a generalizing j with
  | zero => have : j = i := e
            rw [this]; exact h0
  | succ a ih =>
    have e2 : so_it ρ a (ρ j) = i := by
      have := so_it_a ρ a 1 j
      rw [show so_it ρ 1 j = ρ j from rfl] at this
      rw [← this]; exact e
    have h3 : M (ρ j) := ih (ρ j) (so_cy_t hc ⟨1, rfl⟩) (h.1 j hj) e2
    have h4 := hs (ρ j) (h.1 j hj) h3
    have h5 : τ (ρ j) = j := h.2 _ _ (ht _ (h.1 j hj)).1 hj (ht _ (h.1 j hj)).2
    rw [h5] at h4
    exact h4
/-- a place of an earlier place's cycle -/
def so_ea (ρ : Nat → Nat) (p j : Nat) : Prop := ∃ m, m < p ∧ so_cy ρ m j
theorem so_ea_s (p j : Nat) : so_ea ρ (p + 1) j ↔ so_ea ρ p j ∨ so_cy ρ p j := by
  constructor
  · rintro ⟨m, h1, h2⟩
    by_cases c : m = p
    · rw [c] at h2; exact Or.inr h2
    · exact Or.inl ⟨m, by omega, h2⟩
  · rintro (⟨m, h1, h2⟩ | h)
    · exact ⟨m, by omega, h2⟩
    · exact ⟨p, by omega, h⟩
theorem so_ea_y {p j : Nat} (h : so_ea ρ p p) (hc : so_cy ρ p j) : so_ea ρ p j := by
  obtain ⟨m, h1, h2⟩ := h
  exact ⟨m, h1, so_cy_t h2 hc⟩
/-- none of the cycle has been met, if its first has not -/
theorem so_ea_n (h : so_pm n ρ) {p j : Nat} (hp : p < n) (hn : ¬ so_ea ρ p p) (hc : so_cy ρ p j) : ¬ so_ea ρ p j := by
  rintro ⟨m, h1, h2⟩
  exact hn ⟨m, h1, so_cy_t h2 (so_cy_s h hp hc)⟩
theorem so_ea_i (h : so_pm n ρ) {i : Nat} (hi : i < n) : so_ea ρ i i ↔ ∃ t, so_it ρ t i < i := by
  constructor
  · rintro ⟨m, h1, h2⟩
    obtain ⟨t, e⟩ := so_cy_s h (by omega) h2
    exact ⟨t, by omega⟩
  · rintro ⟨t, e⟩
    exact ⟨so_it ρ t i, e, so_cy_s h hi ⟨t, rfl⟩⟩
/-- with the way back at T all of the cycle lies before it -/
theorem so_ea_T {i T : Nat} (hT : 0 < T) (e : so_it ρ T i = i) (hs : ∀ s, 0 < s → s < T → i < so_it ρ s i) : ¬ ∃ t, so_it ρ t i < i := by
  rintro ⟨t, ht⟩
  have e1 : so_it ρ t i = so_it ρ (t % T) i := by
    have e2 : t % T + t / T * T = t := by rw [Nat.mul_comm]; exact Nat.mod_add_div t T
    have e3 := so_it_a ρ (t % T) (t / T * T) i
    rw [e2, so_pers e] at e3
    exact e3
  rw [e1] at ht
  by_cases c : t % T = 0
  · rw [c] at ht; exact Nat.lt_irrefl _ ht
  · have := hs (t % T) (by omega) (Nat.mod_lt _ hT)
    omega
/-- marking: what the marks hold, x being the next place -/
def so_mk (n : Nat) (ρ τ : Nat → Nat) (p x s : Nat) (se : Nat → Bool) : Prop :=
  x < n ∧ so_cy ρ p x ∧ (∀ j, j < n → se j = true → so_ea ρ p j ∨ so_cy ρ p j) ∧ (∀ j, j < n → so_ea ρ p j → se j = true) ∧
  (∀ j, j < n → se j = true → ¬ so_ea ρ p j → se (τ j) = true ∨ τ j = x) ∧ (se p = true ∨ x = p) ∧ s ≤ so_c se n
theorem so_mk_0 {p : Nat} {se : Nat → Bool} (hp : p < n) (h : ∀ j, j < n → (se j = true ↔ so_ea ρ p j)) : so_mk n ρ τ p p 0 se :=
  ⟨hp, so_cy_r p, fun j hj a => Or.inl ((h j hj).1 a), fun j hj a => (h j hj).2 a, fun j hj a b => (b ((h j hj).1 a)).elim, Or.inr rfl, Nat.zero_le _⟩
theorem so_mk_s (h : so_pm n ρ) (ht : ∀ k, k < n → τ k < n ∧ ρ (τ k) = k) {p x s : Nat} {se : Nat → Bool} (hp : p < n) (hm : so_mk n ρ τ p x s se) (hx : se x = false) :
    so_mk n ρ τ p (τ x) (s + 1) (fun m => if m = x then true else se m) := by
  obtain ⟨h1, h2, h3, h4, h5, h6, h7⟩ := hm
  refine ⟨(ht x h1).1, so_cy_b h ht hp h2, fun j hj a => ?_, fun j hj a => ?_, fun j hj a b => ?_, ?_, ?_⟩
  · by_cases c : j = x
    · rw [c]; exact Or.inr h2
    · try dsimp only at a
      rw [if_neg c] at a; exact h3 j hj a
  · show (if j = x then true else se j) = true
    split
    · rfl
    · exact h4 j hj a
  · by_cases c : j = x
    · rw [c]; exact Or.inr rfl
    · try dsimp only at a
      rw [if_neg c] at a
      left
      show (if τ j = x then true else se (τ j)) = true
      split
      · rfl
      · rename_i d
        rcases h5 j hj a b with y | y
        · exact y
        · exact (d y).elim
  · left
    show (if p = x then true else se p) = true
    split
    · rfl
    · rename_i d
      rcases h6 with y | y
      · exact y
      · exact (d y.symm).elim
  · have := so_c_upd se true h1
    rw [hx, so_f0, so_t1] at this
    omega
theorem so_mk_e (h : so_pm n ρ) (ht : ∀ k, k < n → τ k < n ∧ ρ (τ k) = k) {p x s : Nat} {se : Nat → Bool} (hp : p < n) (hn : ¬ so_ea ρ p p) (hm : so_mk n ρ τ p x s se) (hx : se x = true ∨ n ≤ s) :
    ∀ j, j < n → (se j = true ↔ so_ea ρ (p + 1) j) := by
  obtain ⟨h1, h2, h3, h4, h5, h6, h7⟩ := hm
  have hx' : se x = true := by
    rcases hx with a | a
    · exact a
    · cases c : se x with
      | true => rfl
      | false =>
        have := so_c_str (p := se) (q := fun _ => true) (n := n) (fun _ _ _ => rfl) h1 c rfl
        rw [so_c_tt] at this
        omega
  have hp' : se p = true := by
    rcases h6 with a | a
    · exact a
    · rw [← a]; exact hx'
  have hall := so_cy_c h ht (M := fun j => se j = true ∧ so_cy ρ p j) hp ⟨hp', so_cy_r p⟩ (fun j hj a => by
    refine ⟨?_, so_cy_b h ht hp a.2⟩
    rcases h5 j hj a.1 (so_ea_n h hp hn a.2) with y | y
    · exact y
    · rw [y]; exact hx')
  intro j hj
  rw [so_ea_s]
  constructor
  · exact h3 j hj
  · rintro (a | a)
    · exact h4 j hj a
    · exact (hall j a).1
end
