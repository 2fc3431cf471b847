section
variable {B : Int32 → Int32 → Bool} {o : Nat → Int32}
/-- a stretch of another row put in -/
def so_cp (o s : Nat → Int32) (a b : Nat) : Nat → Int32 := fun m => if a ≤ m ∧ m < b then s m else o m
theorem so_cp_i (o s : Nat → Int32) {a b m : Nat} (h1 : a ≤ m) (h2 : m < b) : so_cp o s a b m = s m := if_pos ⟨h1, h2⟩
theorem so_cp_o (o s : Nat → Int32) {a b m : Nat} (h : m < a ∨ b ≤ m) : so_cp o s a b m = o m := if_neg (by omega)
theorem so_cp_0 (o s : Nat → Int32) (a : Nat) : so_cp o s a a = o := funext fun _ => so_cp_o o s (by omega)
theorem so_cp_s (o s : Nat → Int32) {a b : Nat} (h : a ≤ b) : upd (so_cp o s a b) b (s b) = so_cp o s a (b + 1) := by
  funext m
  show (if m = b then s b else so_cp o s a b m) = so_cp o s a (b + 1) m
  by_cases c : m = b
  · subst c; rw [if_pos rfl, so_cp_i o s h (by omega)]
  · rw [if_neg c]
    by_cases d : a ≤ m ∧ m < b
    · rw [so_cp_i o s d.1 d.2, so_cp_i o s d.1 (by omega)]
    · rw [so_cp_o o s (by omega), so_cp_o o s (by omega)]
theorem so_c_add (p : Nat → Bool) (a d : Nat) : so_c p (a + d) = so_c p a + so_c (fun m => p (a + m)) d := by
  induction d with
  | zero => rfl
  | succ d ih =>
    show so_c p (a + d) + (p (a + d)).toNat = so_c p a + (so_c (fun m => p (a + m)) d + (p (a + d)).toNat)
    omega
theorem so_cp_c {s : Nat → Int32} {a b n : Nat} (hab : a ≤ b) (hb : b ≤ n) (p : Int32 → Bool)
    (h : so_c (fun m => p (s m)) b + so_c (fun m => p (o m)) a = so_c (fun m => p (s m)) a + so_c (fun m => p (o m)) b) :
    so_c (fun m => p (so_cp o s a b m)) n = so_c (fun m => p (o m)) n := by
  obtain ⟨d, rfl⟩ := Nat.le.dest hab
  obtain ⟨e, rfl⟩ := Nat.le.dest hb
  have e1 : so_c (fun m => p (so_cp o s a (a + d) m)) a = so_c (fun m => p (o m)) a := so_c_ext (fun m hm => by rw [so_cp_o o s (by omega)])
  have e2 : so_c (fun m => p (so_cp o s a (a + d) (a + m))) d = so_c (fun m => p (s (a + m))) d := so_c_ext (fun m hm => by rw [so_cp_i o s (by omega) (by omega)])
  have e3 : so_c (fun m => p (so_cp o s a (a + d) (a + d + m))) e = so_c (fun m => p (o (a + d + m))) e := so_c_ext (fun m hm => by rw [so_cp_o o s (by omega)])
  have f1 := so_c_add (fun m => p (so_cp o s a (a + d) m)) (a + d) e
  have f2 := so_c_add (fun m => p (so_cp o s a (a + d) m)) a d
  have f3 := so_c_add (fun m => p (s m)) a d
  have f4 := so_c_add (fun m => p (o m)) (a + d) e
  try dsimp only at f1 f2 f3 f4
  omega
/-- merging: how it stands at k -/
def so_m (B : Int32 → Int32 → Bool) (o : Nat → Int32) (lo mi hi l r k : Nat) (s : Nat → Int32) : Prop :=
  lo ≤ l ∧ l ≤ mi ∧ mi ≤ r ∧ r ≤ hi ∧ k + mi = l + r ∧ so_S B s lo k ∧ (∀ i j, lo ≤ i → i < k → l ≤ j → j < mi → B (o j) (s i) = false) ∧
  (∀ i j, lo ≤ i → i < k → r ≤ j → j < hi → B (o j) (s i) = false) ∧
  (∀ p : Int32 → Bool, so_c (fun m => p (s m)) k + so_c (fun m => p (o m)) lo + so_c (fun m => p (o m)) mi = so_c (fun m => p (s m)) lo + so_c (fun m => p (o m)) l + so_c (fun m => p (o m)) r)
theorem so_m_0 {lo mi hi : Nat} (h1 : lo ≤ mi) (h2 : mi ≤ hi) (s : Nat → Int32) : so_m B o lo mi hi lo mi lo s :=
  ⟨by omega, h1, by omega, h2, by omega, fun i j a b c => by omega, fun i j a b => by omega, fun i j a b => by omega, fun p => rfl⟩
theorem so_uS {s : Nat → Int32} {k : Nat} {x : Int32} : upd s k x k = x := if_pos rfl
theorem so_uN {s : Nat → Int32} {k m : Nat} {x : Int32} (h : m ≠ k) : upd s k x m = s m := if_neg h
theorem so_m_c {s : Nat → Int32} {k : Nat} (x : Int32) (p : Int32 → Bool) : so_c (fun m => p (upd s k x m)) (k + 1) = so_c (fun m => p (s m)) k + (p x).toNat := by
  rw [so_cs, so_uS, so_c_ext (q := fun m => p (s m)) (fun m hm => by rw [so_uN (by omega)])]
theorem so_m_l (hB : so_O B) {lo mi hi l r k : Nat} {s : Nat → Int32} (h : so_m B o lo mi hi l r k s) (s1 : so_S B o lo mi) (s2 : so_S B o mi hi) (hl : l < mi)
    (hc : hi ≤ r ∨ B (o l) (o r) = true) : so_m B o lo mi hi (l + 1) r (k + 1) (upd s k (o l)) := by
  obtain ⟨h1, h2, h3, h4, h5, h6, h7, h8, h9⟩ := h
  refine ⟨by omega, by omega, h3, h4, by omega, fun i j a b c => ?_, fun i j a b c d => ?_, fun i j a b c d => ?_, fun p => ?_⟩
  · rw [so_uN (m := i) (by omega)]
    by_cases e : j = k
    · rw [e, so_uS]; exact h7 i l a (by omega) (Nat.le_refl _) hl
    · rw [so_uN e]; exact h6 i j a b (by omega)
  · by_cases e : i = k
    · rw [e, so_uS]; exact s1 l j h1 (by omega) d
    · rw [so_uN e]; exact h7 i j a (by omega) (by omega) d
  · by_cases e : i = k
    · rw [e, so_uS]
      rcases hc with x | x
      · omega
      · by_cases f : j = r
        · rw [f]; exact so_as hB x
        · exact so_tr hB (so_as hB x) (s2 r j h3 (by omega) d)
    · rw [so_uN e]; exact h8 i j a (by omega) c d
  · have e1 := h9 p
    have e2 := so_m_c (s := s) (k := k) (o l) p
    have e3 : so_c (fun m => p (upd s k (o l) m)) lo = so_c (fun m => p (s m)) lo := so_c_ext (fun m hm => by rw [so_uN (by omega)])
    have e4 := so_cs (fun m => p (o m)) l
    try dsimp only at e4
    omega
theorem so_m_r (hB : so_O B) {lo mi hi l r k : Nat} {s : Nat → Int32} (h : so_m B o lo mi hi l r k s) (s1 : so_S B o lo mi) (s2 : so_S B o mi hi) (hr : r < hi)
    (hc : mi ≤ l ∨ B (o l) (o r) = false) : so_m B o lo mi hi l (r + 1) (k + 1) (upd s k (o r)) := by
  obtain ⟨h1, h2, h3, h4, h5, h6, h7, h8, h9⟩ := h
  refine ⟨h1, h2, by omega, by omega, by omega, fun i j a b c => ?_, fun i j a b c d => ?_, fun i j a b c d => ?_, fun p => ?_⟩
  · rw [so_uN (m := i) (by omega)]
    by_cases e : j = k
    · rw [e, so_uS]; exact h8 i r a (by omega) (Nat.le_refl _) hr
    · rw [so_uN e]; exact h6 i j a b (by omega)
  · by_cases e : i = k
    · rw [e, so_uS]
      rcases hc with x | x
      · omega
      · by_cases f : j = l
        · rw [f]; exact x
        · exact so_tr hB x (s1 l j h1 (by omega) d)
    · rw [so_uN e]; exact h7 i j a (by omega) c d
  · by_cases e : i = k
    · rw [e, so_uS]; exact s2 r j h3 (by omega) d
    · rw [so_uN e]; exact h8 i j a (by omega) (by omega) d
  · have e1 := h9 p
    have e2 := so_m_c (s := s) (k := k) (o r) p
    have e3 : so_c (fun m => p (upd s k (o r) m)) lo = so_c (fun m => p (s m)) lo := so_c_ext (fun m hm => by rw [so_uN (by omega)])
    have e4 := so_cs (fun m => p (o m)) r
    try dsimp only at e4
    omega
theorem so_m_e {lo mi hi l r n : Nat} {s : Nat → Int32} (h : so_m B o lo mi hi l r hi s) (hn : hi ≤ n) (hP : so_P n o) :
    so_P n (so_cp o s lo hi) ∧ so_S B (so_cp o s lo hi) lo hi := by
  obtain ⟨h1, h2, h3, h4, h5, h6, h7, h8, h9⟩ := h
  refine ⟨fun p => ?_, fun i j a b c => ?_⟩
  · rw [← hP p]
    have e1 := h9 p
    have e2 : l = mi := by omega
    have e3 : r = hi := by omega
    rw [e2, e3] at e1
    exact so_cp_c (by omega) hn p (by omega)
  · rw [so_cp_i o s (by omega) c, so_cp_i o s a (by omega)]
    exact h6 i j a b c
def so_G (B : Int32 → Int32 → Bool) (o : Nat → Int32) (a b n : Nat) : Prop := ∀ i j, a ≤ i → i < j → j < b → j < n → B (o j) (o i) = false
/-- each stretch of width w is sorted -/
def so_V (B : Int32 → Int32 → Bool) (o : Nat → Int32) (w n : Nat) : Prop := ∀ q, so_G B o (q * w) (q * w + w) n
/-- the first q stretches of width 2 w, and the later ones of width w -/
def so_Vi (B : Int32 → Int32 → Bool) (o : Nat → Int32) (w q n : Nat) : Prop :=
  (∀ q', q' < q → so_G B o (q' * (2 * w)) (q' * (2 * w) + 2 * w) n) ∧ (∀ q', 2 * q ≤ q' → so_G B o (q' * w) (q' * w + w) n)
theorem so_V_1 (o : Nat → Int32) (n : Nat) : so_V B o 1 n := fun q i j a b c => by omega
theorem so_V_e {w n : Nat} (h : so_V B o w n) (hw : n ≤ w) : so_S B o 0 n := fun i j a b c => h 0 i j (by omega) b (by omega) c
theorem so_Vi_0 {w n : Nat} (h : so_V B o w n) : so_Vi B o w 0 n := ⟨fun q hq => by omega, fun q _ => h q⟩
theorem so_Vi_e {w q n : Nat} (h : so_Vi B o w q n) (hq : n ≤ q * (2 * w)) : so_V B o (2 * w) n := by
  intro q'
  by_cases c : q' < q
  · exact h.1 q' c
  · intro i j a b d e
    have := Nat.mul_le_mul_right (2 * w) (Nat.le_of_not_lt c)
    omega
theorem so_Vi_a {w q n : Nat} (h : so_Vi B o w q n) : so_G B o (q * (2 * w)) (q * (2 * w) + w) n ∧ so_G B o (q * (2 * w) + w) (q * (2 * w) + w + w) n := by
  have e1 : 2 * q * w = q * (2 * w) := by rw [Nat.mul_comm 2 q, Nat.mul_assoc]
  have e2 : (2 * q + 1) * w = q * (2 * w) + w := by rw [Nat.add_mul, e1, Nat.one_mul]
  have h1 := h.2 (2 * q) (Nat.le_refl _)
  have h2 := h.2 (2 * q + 1) (by omega)
  rw [e1] at h1
  rw [e2] at h2
  exact ⟨h1, h2⟩
theorem so_Vi_s {w q n : Nat} {o' : Nat → Int32} (h : so_Vi B o w q n) (hk : ∀ m, m < q * (2 * w) ∨ q * (2 * w) + 2 * w ≤ m → o' m = o m)
    (hg : so_G B o' (q * (2 * w)) (q * (2 * w) + 2 * w) n) : so_Vi B o' w (q + 1) n := by
  refine ⟨fun q' hq' => ?_, fun q' hq' => ?_⟩
  · by_cases c : q' = q
    · rw [c]; exact hg
    · intro i j a b d e
      have h1 : q' * (2 * w) + 2 * w ≤ q * (2 * w) := by
        have := Nat.mul_le_mul_right (2 * w) (show q' + 1 ≤ q by omega)
        rw [Nat.add_mul, Nat.one_mul] at this
        exact this
      rw [hk i (by omega), hk j (by omega)]
      exact h.1 q' (by omega) i j a b d e
  · intro i j a b d e
    have h1 : q * (2 * w) + 2 * w ≤ q' * w := by
      have := Nat.mul_le_mul_right w hq'
      have e1 : 2 * (q + 1) * w = q * (2 * w) + 2 * w := by
        rw [Nat.mul_comm 2 (q + 1), Nat.mul_assoc, Nat.add_mul, Nat.one_mul]
      rw [e1] at this
      exact this
    rw [hk i (by omega), hk j (by omega)]
    exact h.2 q' (by omega) i j a b d e
end
