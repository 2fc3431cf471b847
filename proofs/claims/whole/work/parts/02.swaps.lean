section
variable {B : Int32 → Int32 → Bool} {o : Nat → Int32}
theorem so_lt_le (h : so_O B) {x y z : Int32} (h1 : B x y = true) (h2 : B z y = false) : B x z = true := by
  by_cases c : y = z
  · rw [← c]; exact h1
  · rcases h.2.2 y z c with a | a
    · exact h.2.1 x y z h1 a
    · exact (so_tf a h2).elim
/-- insertion: sorted up to s but for the place k, which is not after any behind it -/
def so_I (B : Int32 → Int32 → Bool) (o : Nat → Int32) (k s : Nat) : Prop :=
  (∀ i j, i < j → j ≤ s → i ≠ k → j ≠ k → B (o j) (o i) = false) ∧ (∀ j, k < j → j ≤ s → B (o j) (o k) = false)
theorem so_I0 {s : Nat} (h : so_S B o 0 s) : so_I B o s s :=
  ⟨fun i j h1 h2 _ h4 => h i j (by omega) h1 (by omega), fun j h1 h2 => by omega⟩
theorem so_Is (hB : so_O B) {k s : Nat} (h : so_I B o (k + 1) s) (hk : k + 1 ≤ s) (hb : B (o (k + 1)) (o k) = true) : so_I B (so_w o (k + 1) k) k s := by
  refine ⟨fun i j h1 h2 h3 h4 => ?_, fun j h1 h2 => ?_⟩
  · by_cases c : j = k + 1
    · subst c
      rw [so_wi, so_wn o (by omega) (by omega)]
      exact h.1 i k (by omega) (by omega) (by omega) (by omega)
    · rw [so_wn o c h4]
      by_cases d : i = k + 1
      · subst d
        rw [so_wi]
        exact h.1 k j (by omega) (by omega) (by omega) (by omega)
      · rw [so_wn o d h3]
        exact h.1 i j h1 h2 d c
  · rw [so_wj]
    by_cases c : j = k + 1
    · subst c
      rw [so_wi]
      exact so_as hB hb
    · rw [so_wn o c (by omega)]
      exact h.2 j (by omega) h2
theorem so_Ie0 {s : Nat} (h : so_I B o 0 s) : so_S B o 0 (s + 1) := by
  intro i j _ h1 h2
  by_cases c : i = 0
  · subst c; exact h.2 j h1 (by omega)
  · exact h.1 i j h1 (by omega) c (by omega)
theorem so_Ie (hB : so_O B) {k s : Nat} (h : so_I B o (k + 1) s) (hb : B (o (k + 1)) (o k) = false) : so_S B o 0 (s + 1) := by
  intro i j _ h1 h2
  by_cases c : i = k + 1
  · subst c; exact h.2 j h1 (by omega)
  · by_cases d : j = k + 1
    · subst d
      by_cases e : i = k
      · subst e; exact hb
      · exact so_tr hB (h.1 i k (by omega) (by omega) (by omega) (by omega)) hb
    · exact h.1 i j h1 (by omega) c d
/-- selection: the first k places are the least, in order -/
def so_Se (B : Int32 → Int32 → Bool) (o : Nat → Int32) (k n : Nat) : Prop := ∀ i j, i < k → i < j → j < n → B (o j) (o i) = false
theorem so_Se_s {k f n : Nat} (h : so_Se B o k n) (hf : k ≤ f) (hf' : f < n) (hm : ∀ j, k ≤ j → j < n → B (o j) (o f) = false) : so_Se B (so_w o k f) (k + 1) n := by
  intro i j h1 h2 h3
  by_cases c : i = k
  · subst c
    rw [so_wi]
    by_cases d : j = f
    · subst d; rw [so_wj]; exact hm i (by omega) (by omega)
    · rw [so_wn o (by omega) d]; exact hm j (by omega) h3
  · rw [so_wn o c (by omega)]
    by_cases d : j = f
    · subst d; rw [so_wj]; exact h i k (by omega) (by omega) (by omega)
    · by_cases e : j = k
      · subst e; rw [so_wi]; exact h i f (by omega) (by omega) hf'
      · rw [so_wn o e d]; exact h i j (by omega) h2 h3
theorem so_Se_m (hB : so_O B) {k f j : Nat} (h : ∀ m, k ≤ m → m < j → B (o m) (o f) = false) (hb : B (o j) (o f) = true) : ∀ m, k ≤ m → m < j + 1 → B (o m) (o j) = false := by
  intro m h1 h2
  by_cases c : m = j
  · subst c; exact hB.1 _
  · exact so_tr hB (so_as hB hb) (h m h1 (by omega))
theorem so_Se_k {k f j : Nat} (h : ∀ m, k ≤ m → m < j → B (o m) (o f) = false) (hb : B (o j) (o f) = false) : ∀ m, k ≤ m → m < j + 1 → B (o m) (o f) = false := by
  intro m h1 h2
  by_cases c : m = j
  · subst c; exact hb
  · exact h m h1 (by omega)
theorem so_Se_e {k n : Nat} (h : so_Se B o k n) (hk : n ≤ k) : so_S B o 0 n := fun i j _ h2 h3 => h i j (by omega) h2 h3
/-- a pair put in order -/
def so_pr (B : Int32 → Int32 → Bool) (o : Nat → Int32) (k : Nat) : Nat → Int32 := if B (o (k + 1)) (o k) = true then so_w o k (k + 1) else o
theorem so_pr_t {k : Nat} (h : B (o (k + 1)) (o k) = true) : so_pr B o k = so_w o k (k + 1) := if_pos h
theorem so_pr_f {k : Nat} (h : B (o (k + 1)) (o k) = false) : so_pr B o k = o := if_neg (by rw [h]; exact Bool.false_ne_true)
theorem so_pr_P {n k : Nat} (h : so_P n o) (hk : k + 1 < n) : so_P n (so_pr B o k) := by
  cases e : B (o (k + 1)) (o k) with
  | true => rw [so_pr_t e]; exact so_P_w h (by omega) hk
  | false => rw [so_pr_f e]; exact h
theorem so_pr_n {k m : Nat} (h1 : m ≠ k) (h2 : m ≠ k + 1) : so_pr B o k m = o m := by
  cases e : B (o (k + 1)) (o k) with
  | true => rw [so_pr_t e]; exact so_wn o h1 h2
  | false => rw [so_pr_f e]
/-- bubbles: behind last all is in place -/
def so_Bu (B : Int32 → Int32 → Bool) (o : Nat → Int32) (last n : Nat) : Prop := ∀ i j, last < j → j < n → i < j → B (o j) (o i) = false
theorem so_Bu_w {a b last n : Nat} (h : so_Bu B o last n) (ha : a ≤ last) (hb : b ≤ last) : so_Bu B (so_w o a b) last n := by
  intro i j h1 h2 h3
  rw [so_wn o (m := j) (by omega) (by omega)]
  by_cases c : i = a
  · subst c; rw [so_wi]; exact h b j h1 h2 (by omega)
  · by_cases d : i = b
    · subst d; rw [so_wj]; exact h a j h1 h2 (by omega)
    · rw [so_wn o c d]; exact h i j h1 h2 h3
theorem so_Bu_p {k last n : Nat} (h : so_Bu B o last n) (hk : k < last) : so_Bu B (so_pr B o k) last n := by
  cases e : B (o (k + 1)) (o k) with
  | true => rw [so_pr_t e]; exact so_Bu_w h (by omega) (by omega)
  | false => rw [so_pr_f e]; exact h
theorem so_Bu_i (hB : so_O B) {k : Nat} (h : ∀ i, i < k → B (o k) (o i) = false) : ∀ i, i < k + 1 → B (so_pr B o k (k + 1)) (so_pr B o k i) = false := by
  intro i hi
  cases e : B (o (k + 1)) (o k) with
  | true =>
    rw [so_pr_t e, so_wj]
    by_cases c : i = k
    · subst c; rw [so_wi]; exact so_as hB e
    · rw [so_wn o c (by omega)]; exact h i (by omega)
  | false =>
    rw [so_pr_f e]
    by_cases c : i = k
    · subst c; exact e
    · exact so_tr hB (h i (by omega)) e
theorem so_Bu_s {last n : Nat} (h : so_Bu B o (last + 1) n) (hi : ∀ i, i < last + 1 → B (o (last + 1)) (o i) = false) : so_Bu B o last n := by
  intro i j h1 h2 h3
  by_cases c : j = last + 1
  · subst c; exact hi i h3
  · exact h i j (by omega) h2 h3
theorem so_Bu_e {n : Nat} (h : so_Bu B o 0 n) : so_S B o 0 n := fun i j _ h2 h3 => h i j (by omega) h3 h2
theorem so_Bu_0 {n last : Nat} (hl : n ≤ last + 1) : so_Bu B o last n := fun i j h1 h2 => by omega

/-- odd-even: how a round stands at k, against the row at its beginning -/
def so_oe (B : Int32 → Int32 → Bool) (o0 o : Nat → Int32) (r k : Nat) : Prop :=
  (∀ m, k ≤ m → o m = o0 m) ∧ ∀ x, (∀ q, (k ≤ q ∨ q % 2 = r % 2) → so_c (fun m => B x (o m)) q = so_c (fun m => B x (o0 m)) q) ∧
    (∀ q, q + 1 < k → (q + 1) % 2 ≠ r % 2 → so_c (fun m => B x (o m)) (q + 1) ≤ so_c (fun m => B x (o0 m)) q ∨ so_c (fun m => B x (o m)) (q + 1) + 1 ≤ so_c (fun m => B x (o0 m)) (q + 2))
theorem so_oe_0 (r k : Nat) (hk : k ≤ 1) : so_oe B o o r k := ⟨fun _ _ => rfl, fun _ => ⟨fun _ _ => rfl, fun q h => by omega⟩⟩
theorem so_pr_c (x : Int32) (k : Nat) : (∀ q, q ≤ k → so_c (fun m => B x (so_pr B o k m)) q = so_c (fun m => B x (o m)) q) ∧
    (∀ q, k + 2 ≤ q → so_c (fun m => B x (so_pr B o k m)) q = so_c (fun m => B x (o m)) q) := by
  have h1 : ∀ q, q ≤ k → so_c (fun m => B x (so_pr B o k m)) q = so_c (fun m => B x (o m)) q := fun q hq =>
    so_c_ext (fun m hm => by rw [so_pr_n (by omega) (by omega)])
  refine ⟨h1, fun q hq => ?_⟩
  obtain ⟨d, rfl⟩ := Nat.le.dest hq
  clear hq
  induction d with
  | zero =>
    have h2 := h1 k (Nat.le_refl _)
    show so_c (fun m => B x (so_pr B o k m)) (k + 1 + 1) = so_c (fun m => B x (o m)) (k + 1 + 1)
    rw [so_cs, so_cs, so_cs, so_cs, h2]
    cases e : B (o (k + 1)) (o k) with
    | true => rw [so_pr_t e, so_wi, so_wj]; omega
    | false => rw [so_pr_f e]
  | succ d ih =>
    show so_c (fun m => B x (so_pr B o k m)) (k + 2 + d + 1) = so_c (fun m => B x (o m)) (k + 2 + d + 1)
    rw [so_cs, so_cs, ih, so_pr_n (by omega) (by omega)]
theorem so_pr_b (hB : so_O B) {x : Int32} {k : Nat} (h : B x (so_pr B o k k) = true) : B x (o k) = true ∧ B x (o (k + 1)) = true := by
  cases e : B (o (k + 1)) (o k) with
  | true => rw [so_pr_t e, so_wi] at h; exact ⟨hB.2.1 _ _ _ h e, h⟩
  | false => rw [so_pr_f e] at h; exact ⟨h, so_lt_le hB h e⟩
theorem so_oe_s (hB : so_O B) {o0 : Nat → Int32} {r k : Nat} (h : so_oe B o0 o r k) (hk : k % 2 = r % 2) : so_oe B o0 (so_pr B o k) r (k + 2) := by
  refine ⟨fun m hm => by rw [so_pr_n (by omega) (by omega)]; exact h.1 m (by omega), fun x => ?_⟩
  obtain ⟨h1, h2⟩ := h.2 x
  obtain ⟨p1, p2⟩ := so_pr_c (B := B) (o := o) x k
  refine ⟨fun q hq => ?_, fun q hq hr => ?_⟩
  · by_cases c : k + 2 ≤ q
    · rw [p2 q c]; exact h1 q (by omega)
    · rw [p1 q (by omega)]; exact h1 q (by omega)
  · by_cases c : q = k
    · subst c
      have h3 := h1 q (by omega)
      have h4 := p1 q (Nat.le_refl _)
      have h5 : so_c (fun m => B x (o0 m)) (q + 2) = so_c (fun m => B x (o0 m)) q + (B x (o0 q)).toNat + (B x (o0 (q + 1))).toNat := rfl
      rw [so_cs]
      cases e : B x (so_pr B o q q) with
      | false => rw [so_f0]; exact Or.inl (by omega)
      | true =>
        obtain ⟨e1, e2⟩ := so_pr_b hB e
        rw [h.1 q (by omega)] at e1
        rw [h.1 (q + 1) (by omega)] at e2
        rw [e1, e2, so_t1] at h5
        rw [so_t1]
        exact Or.inr (by omega)
    · rw [p1 (q + 1) (by omega)]
      exact h2 q (by omega) hr
/-- odd-even: for each threshold the greater ones have come far enough after r rounds -/
def so_A (B : Int32 → Int32 → Bool) (n r : Nat) (o : Nat → Int32) : Prop := ∀ x M t, so_c (fun m => B x (o m)) n = M → (2 * t + 1 = M ∨ 2 * t + 2 = M) →
  ∀ j q, j < M → q + j + 1 ≤ n → q + 2 * j ≤ r + 2 * t → so_c (fun m => B x (o m)) q + j + 1 ≤ M
theorem so_A_0 (n : Nat) (o : Nat → Int32) : so_A B n 0 o := by
  intro x M t hM ht j q hj h1 h2
  have := so_c_le (fun m => B x (o m)) q
  omega
theorem so_A_s {n r k : Nat} {o0 : Nat → Int32} (h : so_A B n r o0) (he : so_oe B o0 o r k) (hk : k % 2 = r % 2) (h1 : k ≤ n) (h2 : n ≤ k + 1) : so_A B n (r + 1) o := by
  intro x M t hM ht j q hj g1 g2
  obtain ⟨e1, e2⟩ := he.2 x
  have hM0 : so_c (fun m => B x (o0 m)) n = M := by rw [← e1 n (Or.inl h1)]; exact hM
  have hA := h x M t hM0 ht
  by_cases c : q % 2 = r % 2
  · rw [e1 q (Or.inr c)]
    exact hA j q hj g1 (by omega)
  · cases q with
    | zero => show 0 + j + 1 ≤ M; omega
    | succ q =>
      rcases e2 q (by omega) c with a | a
      · have := hA j q hj (by omega) (by omega)
        omega
      · cases j with
        | zero =>
          have := so_c_mono (fun m => B x (o0 m)) (a := q + 2) (b := n) (by omega)
          omega
        | succ j =>
          have := hA j (q + 2) (by omega) (by omega) (by omega)
          omega
theorem so_c_dif (p : Nat → Bool) {a b : Nat} (h : a ≤ b) : so_c p b ≤ so_c p a + (b - a) := by
  obtain ⟨d, rfl⟩ := Nat.le.dest h
  clear h
  induction d with
  | zero => exact Nat.le_add_right _ _
  | succ d ih =>
    have e : so_c p (a + (d + 1)) = so_c p (a + d) + (p (a + d)).toNat := rfl
    have := so_tb (p (a + d))
    omega
theorem so_A_e (hB : so_O B) {n : Nat} (h : so_A B n n o) : so_S B o 0 n := by
  intro i j _ hij hj
  cases e : B (o j) (o i) with
  | false => rfl
  | true =>
    exfalso
    have hM := so_c_nz (p := fun m => B (o j) (o m)) (n := n) (m := i) (by omega) e
    have hl := so_c_le (fun m => B (o j) (o m)) n
    have ht : ∃ t, 2 * t + 1 = so_c (fun m => B (o j) (o m)) n ∨ 2 * t + 2 = so_c (fun m => B (o j) (o m)) n :=
      ⟨(so_c (fun m => B (o j) (o m)) n - 1) / 2, by omega⟩
    obtain ⟨t, ht⟩ := ht
    have h1 := h (o j) _ t rfl ht (so_c (fun m => B (o j) (o m)) n - 1) (n - so_c (fun m => B (o j) (o m)) n) (by omega) (by omega) (by omega)
    have h2 : ¬ i < n - so_c (fun m => B (o j) (o m)) n := fun c => by
      have := so_c_nz (p := fun m => B (o j) (o m)) c e
      omega
    have h3 := so_c_dif (fun m => B (o j) (o m)) (a := j + 1) (b := n) hj
    have h4 := so_c_dif (fun m => B (o j) (o m)) (a := n - so_c (fun m => B (o j) (o m)) n) (b := j) (by omega)
    rw [so_cs, hB.1, so_f0] at h3
    omega
end
