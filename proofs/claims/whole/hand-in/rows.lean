section
/-- how many m below n have p -/
def so_c (p : Nat → Bool) : Nat → Nat
  | 0 => 0
  | n + 1 => so_c p n + (p n).toNat

theorem so_cs (p : Nat → Bool) (n : Nat) : so_c p (n + 1) = so_c p n + (p n).toNat := rfl
theorem so_t1 : true.toNat = 1 := rfl
theorem so_f0 : false.toNat = 0 := rfl
theorem so_tb (b : Bool) : b.toNat ≤ 1 := by cases b <;> decide
theorem so_c_ext {p q : Nat → Bool} {n : Nat} (h : ∀ m, m < n → p m = q m) : so_c p n = so_c q n := by
  induction n with
  | zero => rfl
  | succ n ih => rw [so_cs, so_cs, ih (fun m hm => h m (Nat.lt_succ_of_lt hm)), h n (Nat.lt_succ_self n)]
theorem so_c_le (p : Nat → Bool) (n : Nat) : so_c p n ≤ n := by
  induction n with
  | zero => exact Nat.le_refl _
  | succ n ih => rw [so_cs]; have := so_tb (p n); omega
theorem so_c_mono (p : Nat → Bool) {a b : Nat} (h : a ≤ b) : so_c p a ≤ so_c p b := by
  obtain ⟨d, rfl⟩ := Nat.le.dest h
  clear h
  induction d with
  | zero => exact Nat.le_refl _
  | succ d ih =>
    have e : so_c p (a + (d + 1)) = so_c p (a + d) + (p (a + d)).toNat := rfl
    omega
theorem so_c_z {p : Nat → Bool} {n : Nat} (h : ∀ m, m < n → p m = false) : so_c p n = 0 := by
  induction n with
  | zero => rfl
  | succ n ih => rw [so_cs, ih (fun m hm => h m (by omega)), h n (by omega)]; rfl
theorem so_c_nz {p : Nat → Bool} {n m : Nat} (hm : m < n) (h : p m = true) : 0 < so_c p n := by
  have h1 : so_c p (m + 1) ≤ so_c p n := so_c_mono p hm
  rw [so_cs, h, so_t1] at h1
  omega
theorem so_c_ex {p : Nat → Bool} {n : Nat} (h : 0 < so_c p n) : ∃ m, m < n ∧ p m = true := by
  induction n with
  | zero => exact absurd h (Nat.lt_irrefl 0)
  | succ n ih =>
    cases e : p n with
    | true => exact ⟨n, by omega, e⟩
    | false =>
      rw [so_cs, e, so_f0] at h
      obtain ⟨m, hm, hp⟩ := ih (by omega)
      exact ⟨m, by omega, hp⟩
theorem so_c_one {p : Nat → Bool} {n : Nat} (h : ∀ a b, a < n → b < n → p a = true → p b = true → a = b) : so_c p n ≤ 1 := by
  induction n with
  | zero => exact Nat.zero_le _
  | succ n ih =>
    rw [so_cs]
    cases e : p n with
    | false =>
      rw [so_f0]
      exact ih (fun a b ha hb => h a b (by omega) (by omega))
    | true =>
      have : so_c p n = 0 := so_c_z (fun m hm => by
        cases c : p m with
        | false => rfl
        | true => have := h m n (by omega) (by omega) c e; omega)
      rw [this, so_t1]; omega
theorem so_c_upd (p : Nat → Bool) (b : Bool) {i n : Nat} (hi : i < n) :
    so_c (fun m => if m = i then b else p m) n + (p i).toNat = so_c p n + b.toNat := by
  induction n with
  | zero => omega
  | succ n ih =>
    rw [so_cs, so_cs]
    by_cases h : n = i
    · subst h
      have e : so_c (fun m => if m = n then b else p m) n = so_c p n := so_c_ext (fun m hm => if_neg (by omega))
      rw [e, if_pos rfl]; omega
    · have := ih (by omega)
      rw [if_neg h]; omega
theorem so_c_lt (k n : Nat) : so_c (fun m => decide (m < k)) n = min k n := by
  induction n with
  | zero => show 0 = min k 0; omega
  | succ n ih =>
    rw [so_cs, ih]
    by_cases h : n < k
    · rw [decide_eq_true h, so_t1]; omega
    · rw [decide_eq_false h, so_f0]; omega
theorem so_c_imp {p q : Nat → Bool} {n : Nat} (h : ∀ m, m < n → p m = true → q m = true) : so_c p n ≤ so_c q n := by
  induction n with
  | zero => exact Nat.le_refl _
  | succ n ih =>
    have h1 := ih (fun m hm => h m (by omega))
    rw [so_cs, so_cs]
    cases e : p n with
    | false => rw [so_f0]; omega
    | true => rw [h n (by omega) e]; omega
theorem so_c_str {p q : Nat → Bool} {n i : Nat} (h : ∀ m, m < n → p m = true → q m = true) (hi : i < n) (h1 : p i = false) (h2 : q i = true) :
    so_c p n < so_c q n := by
  induction n with
  | zero => omega
  | succ n ih =>
    rw [so_cs, so_cs]
    by_cases c : i = n
    · subst c
      have h3 := so_c_imp (p := p) (q := q) (n := i) (fun m hm => h m (by omega))
      rw [h1, h2, so_t1, so_f0]; omega
    · have h3 := ih (fun m hm => h m (by omega)) (by omega)
      cases e : p n with
      | false => rw [so_f0]; omega
      | true => rw [h n (by omega) e]; omega
theorem so_c_tt (n : Nat) : so_c (fun _ => true) n = n := by
  induction n with
  | zero => rfl
  | succ n ih => rw [so_cs, ih, so_t1]
theorem so_re : ∀ (n : Nat) (q : Nat → Nat) (g : Nat → Bool), (∀ i, i < n → q i < n) → (∀ i j, i < n → j < n → q i = q j → i = j) →
    so_c (fun i => g (q i)) n = so_c g n := by
  intro n
  induction n with
  | zero => intros; rfl
  | succ n ih =>
    intro q g hq hi
    have ht : q n < n + 1 := hq n (by omega)
    have hn : ∀ i, i < n → q i ≠ q n := fun i h e => by
      have := hi i n (by omega) (by omega) e
      omega
    have h1 := ih (fun i => if q i = n then q n else q i) (fun a => if a = q n then g n else g a)
      (fun i h => by
        have a1 := hn i h
        have a2 := hq i (by omega)
        show (if q i = n then q n else q i) < n
        split <;> omega)
      (fun i j h h' e => by
        have a1 := hn i h
        have a2 := hn j h'
        have e' : (if q i = n then q n else q i) = (if q j = n then q n else q j) := e
        apply hi i j (by omega) (by omega)
        split at e' <;> split at e' <;> omega)
    have h2 : so_c (fun i => g (q i)) n = so_c (fun i => (fun a => if a = q n then g n else g a) ((fun i => if q i = n then q n else q i) i)) n :=
      so_c_ext (fun i h => by
        have a1 := hn i h
        show g (q i) = if (if q i = n then q n else q i) = q n then g n else g (if q i = n then q n else q i)
        by_cases c : q i = n
        · rw [if_pos c, if_pos rfl, c]
        · rw [if_neg c, if_neg a1])
    rw [so_cs, so_cs, h2, h1]
    by_cases c : q n = n
    · have e : so_c (fun a => if a = q n then g n else g a) n = so_c g n := so_c_ext (fun m hm => if_neg (by omega))
      rw [e, c]
    · have := so_c_upd g (g n) (i := q n) (n := n) (by omega)
      omega
noncomputable def so_b (P : Prop) : Bool := @decide P (Classical.propDecidable P)
theorem so_bi {P : Prop} : so_b P = true ↔ P := @decide_eq_true_iff P (Classical.propDecidable P)
theorem so_bf {P : Prop} : so_b P = false ↔ ¬ P := @decide_eq_false_iff_not P (Classical.propDecidable P)
theorem so_sur {n : Nat} {q : Nat → Nat} (hq : ∀ i, i < n → q i < n) (hi : ∀ i j, i < n → j < n → q i = q j → i = j) {k : Nat} (hk : k < n) : ∃ i, i < n ∧ q i = k := by
  have h1 := so_c_nz (p := fun a => so_b (a = k)) hk (so_bi.2 rfl)
  have h2 := so_re n q (fun a => so_b (a = k)) hq hi
  try dsimp only at h2
  rw [← h2] at h1
  obtain ⟨m, hm, e⟩ := so_c_ex h1
  exact ⟨m, hm, so_bi.1 e⟩

/-- the row holds each of 0 .. n - 1 as often as the row 0 .. n - 1 itself -/
def so_P (n : Nat) (o : Nat → Int32) : Prop := ∀ p : Int32 → Bool, so_c (fun m => p (o m)) n = so_c (fun m => p (nI m)) n
theorem so_P_id {n : Nat} {o : Nat → Int32} (h : ∀ m, m < n → o m = nI m) : so_P n o :=
  fun p => so_c_ext (fun m hm => by rw [h m hm])
/-- two places exchanged -/
def so_w (o : Nat → Int32) (i j : Nat) : Nat → Int32 := upd (upd o i (o j)) j (o i)
theorem so_wi (o : Nat → Int32) (i j : Nat) : so_w o i j i = o j := by
  show (if i = j then o i else if i = i then o j else o i) = o j
  by_cases c : i = j
  · rw [if_pos c, c]
  · rw [if_neg c, if_pos rfl]
theorem so_wj (o : Nat → Int32) (i j : Nat) : so_w o i j j = o i := by
  show (if j = j then o i else if j = i then o j else o j) = o i
  rw [if_pos rfl]
theorem so_wn (o : Nat → Int32) {i j m : Nat} (hi : m ≠ i) (hj : m ≠ j) : so_w o i j m = o m := by
  show (if m = j then o i else if m = i then o j else o m) = o m
  rw [if_neg hj, if_neg hi]
theorem so_P_w {n i j : Nat} {o : Nat → Int32} (h : so_P n o) (hi : i < n) (hj : j < n) : so_P n (so_w o i j) := by
  intro p
  rw [← h p]
  have h1 := so_c_upd (fun m => p (o m)) (p (o j)) hi
  have h2 := so_c_upd (fun m => if m = i then p (o j) else p (o m)) (p (o i)) hj
  have e : so_c (fun m => p (so_w o i j m)) n = so_c (fun m => if m = j then p (o i) else if m = i then p (o j) else p (o m)) n :=
    so_c_ext (fun m _ => by
      show p (if m = j then o i else if m = i then o j else o m) = _
      split
      · rfl
      · split <;> rfl)
  have e2 : (if j = i then p (o j) else p (o j)) = p (o j) := by split <;> rfl
  try dsimp only at h1 h2
  rw [e2] at h2
  rw [e]
  omega
theorem so_P_all {n : Nat} {o : Nat → Int32} (h : so_P n o) (p : Int32 → Bool) (hp : ∀ m, m < n → p (nI m) = true) {m : Nat} (hm : m < n) : p (o m) = true := by
  cases e : p (o m) with
  | true => rfl
  | false =>
    have h1 := h (fun x => !p x)
    have h2 : so_c (fun m => !p (nI m)) n = 0 := so_c_z (fun m hm => by rw [hp m hm]; rfl)
    have h3 := so_c_nz (p := fun m => !p (o m)) hm (by show (!p (o m)) = true; rw [e]; rfl)
    try dsimp only at h1
    omega
theorem so_P_in {n : Nat} {o : Nat → Int32} (h : so_P n o) {m : Nat} (hm : m < n) : ∃ i, i < n ∧ o m = nI i :=
  so_bi.1 (so_P_all h (fun x => so_b (∃ i, i < n ∧ x = nI i)) (fun m hm => so_bi.2 ⟨m, hm, rfl⟩) hm)
theorem so_P_sur {n : Nat} {o : Nat → Int32} (h : so_P n o) {i : Nat} (hi : i < n) : ∃ m, m < n ∧ o m = nI i := by
  have h1 := so_c_nz (p := fun m => so_b (nI m = nI i)) hi (so_bi.2 rfl)
  have h2 := h (fun x => so_b (x = nI i))
  try dsimp only at h2
  rw [← h2] at h1
  obtain ⟨m, hm, e⟩ := so_c_ex h1
  exact ⟨m, hm, so_bi.1 e⟩
theorem so_P_inj {n : Nat} (hn : n < 2 ^ 31) {o : Nat → Int32} (h : so_P n o) {a b : Nat} (ha : a < n) (hb : b < n) (e : o a = o b) : a = b := by
  have key : ∀ a b : Nat, a < b → b < n → o a = o b → False := by
    intro a b hab hb e
    have h2 := h (fun x => so_b (x = o a))
    try dsimp only at h2
    have h3 : so_c (fun m => so_b (nI m = o a)) n ≤ 1 := so_c_one (fun c d hc hd e1 e2 => by
      have e3 : nI c = nI d := (so_bi.1 e1).trans (so_bi.1 e2).symm
      exact (nI_eq (by omega) (by omega)).1 e3)
    have h4 := so_c_nz (p := fun m => so_b (o m = o a)) hab (so_bi.2 rfl)
    have h5 := so_c_mono (fun m => so_b (o m = o a)) (a := b + 1) (b := n) hb
    rw [so_cs] at h5
    have h6 : so_b (o b = o a) = true := so_bi.2 e.symm
    rw [h6, so_t1] at h5
    omega
  rcases Nat.lt_trichotomy a b with c | c | c
  · exact (key a b c hb e).elim
  · exact c
  · exact (key b a c ha e.symm).elim

/-- a strict order in which no two tie -/
def so_O (B : Int32 → Int32 → Bool) : Prop :=
  (∀ x, B x x = false) ∧ (∀ x y z, B x y = true → B y z = true → B x z = true) ∧ (∀ x y, x ≠ y → B x y = true ∨ B y x = true)
theorem so_tf {b : Bool} (h : b = true) (h' : b = false) : False := by rw [h] at h'; cases h'
theorem so_nt {b : Bool} (h : ¬ b = true) : b = false := by cases b <;> simp_all
theorem so_as {B : Int32 → Int32 → Bool} (h : so_O B) {x y : Int32} (h1 : B x y = true) : B y x = false := by
  cases e : B y x with
  | false => rfl
  | true => exact (so_tf (h.2.1 x y x h1 e) (h.1 x)).elim
/-- not after, twice -/
theorem so_tr {B : Int32 → Int32 → Bool} (h : so_O B) {x y z : Int32} (h1 : B y x = false) (h2 : B z y = false) : B z x = false := by
  cases e : B z x with
  | false => rfl
  | true =>
    by_cases c : x = y
    · subst c; exact (so_tf e h2).elim
    · rcases h.2.2 x y c with a | a
      · exact (so_tf (h.2.1 z x y e a) h2).elim
      · exact (so_tf a h1).elim
def so_S (B : Int32 → Int32 → Bool) (o : Nat → Int32) (a b : Nat) : Prop := ∀ i j, a ≤ i → i < j → j < b → B (o j) (o i) = false
def so_rk (B : Int32 → Int32 → Bool) (n : Nat) (x : Int32) : Nat := so_c (fun m => B (nI m) x) n
theorem so_rk_at {B : Int32 → Int32 → Bool} (hB : so_O B) {n : Nat} {o : Nat → Int32} (hn : n < 2 ^ 31) (hP : so_P n o) (hS : so_S B o 0 n) {k : Nat} (hk : k < n) :
    so_rk B n (o k) = k := by
  have h1 := hP (fun x => B x (o k))
  have h2 : so_c (fun m => B (o m) (o k)) n = so_c (fun m => decide (m < k)) n := so_c_ext (fun m hm => by
    by_cases c : m < k
    · rw [decide_eq_true c]
      have e : o m ≠ o k := fun e => by
        have := so_P_inj hn hP hm hk e
        omega
      rcases hB.2.2 _ _ e with a | a
      · exact a
      · exact (so_tf a (hS m k (by omega) c hk)).elim
    · rw [decide_eq_false c]
      by_cases d : m = k
      · rw [d]; exact hB.1 _
      · exact hS k m (by omega) (by omega) hm)
  have h3 := so_c_lt k n
  unfold so_rk
  try dsimp only at h1
  omega
/-- the row is THE sorted order -/
def so_D (B : Int32 → Int32 → Bool) (n : Nat) (o : Nat → Int32) : Prop := ∀ i, i < n → o (so_rk B n (nI i)) = nI i
theorem so_D_of {B : Int32 → Int32 → Bool} (hB : so_O B) {n : Nat} {o : Nat → Int32} (hn : n < 2 ^ 31) (hP : so_P n o) (hS : so_S B o 0 n) : so_D B n o := by
  intro i hi
  obtain ⟨m, hm, e⟩ := so_P_sur hP hi
  rw [← e, so_rk_at hB hn hP hS hm]
theorem so_rk_lt {B : Int32 → Int32 → Bool} (hB : so_O B) {n i : Nat} (hi : i < n) : so_rk B n (nI i) < n := by
  have h := so_c_str (p := fun m => B (nI m) (nI i)) (q := fun _ => true) (n := n) (fun _ _ _ => rfl) hi (hB.1 _) rfl
  rw [so_c_tt] at h
  exact h
theorem so_rk_up {B : Int32 → Int32 → Bool} (hB : so_O B) {n i : Nat} (hi : i < n) {y : Int32} (h : B (nI i) y = true) : so_rk B n (nI i) < so_rk B n y :=
  so_c_str (fun m _ h1 => hB.2.1 _ _ _ h1 h) hi (hB.1 _) h
theorem so_rk_iff {B : Int32 → Int32 → Bool} (hB : so_O B) {n i j : Nat} (hi : i < n) (hj : j < n) : B (nI i) (nI j) = true ↔ so_rk B n (nI i) < so_rk B n (nI j) := by
  refine ⟨so_rk_up hB hi, fun h => ?_⟩
  cases e : B (nI i) (nI j) with
  | true => rfl
  | false =>
    by_cases c : nI i = nI j
    · rw [c] at h; omega
    · rcases hB.2.2 _ _ c with a | a
      · exact (so_tf a e).elim
      · have := so_rk_up hB hj a; omega
theorem so_rk_inj {B : Int32 → Int32 → Bool} (hB : so_O B) {n i j : Nat} (hn : n < 2 ^ 31) (hi : i < n) (hj : j < n) (h : so_rk B n (nI i) = so_rk B n (nI j)) : i = j := by
  by_cases c : nI i = nI j
  · exact (nI_eq (by omega) (by omega)).1 c
  · rcases hB.2.2 _ _ c with a | a
    · have := so_rk_up hB hi a; omega
    · have := so_rk_up hB hj a; omega
theorem so_rk_sur {B : Int32 → Int32 → Bool} (hB : so_O B) {n k : Nat} (hn : n < 2 ^ 31) (hk : k < n) : ∃ i, i < n ∧ so_rk B n (nI i) = k :=
  so_sur (q := fun i => so_rk B n (nI i)) (fun _ hi => so_rk_lt hB hi) (fun _ _ hi hj h => so_rk_inj hB hn hi hj h) hk

/-- first by g, then by the places themselves -/
def so_L (g : Int32 → Int) (x y : Int32) : Bool := decide (g x < g y) || (decide (g x = g y) && decide (x < y))
theorem so_Li (g : Int32 → Int) (x y : Int32) : so_L g x y = true ↔ g x < g y ∨ (g x = g y ∧ x.toInt < y.toInt) := by
  simp [so_L, Int32.lt_iff_toInt_lt]
theorem so_LO (g : Int32 → Int) : so_O (so_L g) := by
  refine ⟨fun x => so_nt fun h => ?_, fun x y z h1 h2 => ?_, fun x y h => ?_⟩
  · rw [so_Li] at h; omega
  · rw [so_Li] at h1 h2 ⊢; omega
  · rw [so_Li, so_Li]
    have : x.toInt ≠ y.toInt := fun e => h (Int32.toInt_inj.1 e)
    omega
def so_B (L : Nat → Int32) : Int32 → Int32 → Bool := so_L (fun x => (L x.toNatClampNeg).toInt)
theorem so_BO (L : Nat → Int32) : so_O (so_B L) := so_LO _
end
section
section
variable {B : Int32 → Int32 → Bool} {o : Nat → Int32}
theorem so_lt_le (h : so_O B) {x y z : Int32} (h1 : B x y = true) (h2 : B z y = false) : B x z = true := by
  by_cases c : y = z
  · rw [← c]; exact h1
  · rcases h.2.2 y z c with a | a
    · exact h.2.1 x y z h1 a
    · exact (so_tf a h2).elim
/-- insertion: sorted up to s but for the place k, which is not after any behind it -/
def so_I (B : Int32 → Int32 → Bool) (o : Nat → Int32) (k s : Nat) : Prop :=
  (∀ i j, i < j → j ≤ s → i ≠ k → j ≠ k → B (o j) (o i) = false) ∧ (∀ j, k < j → j ≤ s → B (o j) (o k) = false)
theorem so_I0 {s : Nat} (h : so_S B o 0 s) : so_I B o s s :=
  ⟨fun i j h1 h2 _ h4 => h i j (by omega) h1 (by omega), fun j h1 h2 => by omega⟩
theorem so_Is (hB : so_O B) {k s : Nat} (h : so_I B o (k + 1) s) (hk : k + 1 ≤ s) (hb : B (o (k + 1)) (o k) = true) : so_I B (so_w o (k + 1) k) k s := by
  refine ⟨fun i j h1 h2 h3 h4 => ?_, fun j h1 h2 => ?_⟩
  · by_cases c : j = k + 1
    · subst c
      rw [so_wi, so_wn o (by omega) (by omega)]
      exact h.1 i k (by omega) (by omega) (by omega) (by omega)
    · rw [so_wn o c h4]
      by_cases d : i = k + 1
      · subst d
        rw [so_wi]
        exact h.1 k j (by omega) (by omega) (by omega) (by omega)
      · rw [so_wn o d h3]
        exact h.1 i j h1 h2 d c
  · rw [so_wj]
    by_cases c : j = k + 1
    · subst c
      rw [so_wi]
      exact so_as hB hb
    · rw [so_wn o c (by omega)]
      exact h.2 j (by omega) h2
theorem so_Ie0 {s : Nat} (h : so_I B o 0 s) : so_S B o 0 (s + 1) := by
  intro i j _ h1 h2
  by_cases c : i = 0
  · subst c; exact h.2 j h1 (by omega)
  · exact h.1 i j h1 (by omega) c (by omega)
theorem so_Ie (hB : so_O B) {k s : Nat} (h : so_I B o (k + 1) s) (hb : B (o (k + 1)) (o k) = false) : so_S B o 0 (s + 1) := by
  intro i j _ h1 h2
  by_cases c : i = k + 1
  · subst c; exact h.2 j h1 (by omega)
  · by_cases d : j = k + 1
    · subst d
      by_cases e : i = k
      · subst e; exact hb
      · exact so_tr hB (h.1 i k (by omega) (by omega) (by omega) (by omega)) hb
    · exact h.1 i j h1 (by omega) c d
/-- selection: the first k places are the least, in order -/
def so_Se (B : Int32 → Int32 → Bool) (o : Nat → Int32) (k n : Nat) : Prop := ∀ i j, i < k → i < j → j < n → B (o j) (o i) = false
theorem so_Se_s {k f n : Nat} (h : so_Se B o k n) (hf : k ≤ f) (hf' : f < n) (hm : ∀ j, k ≤ j → j < n → B (o j) (o f) = false) : so_Se B (so_w o k f) (k + 1) n := by
  intro i j h1 h2 h3
  by_cases c : i = k
  · subst c
    rw [so_wi]
    by_cases d : j = f
    · subst d; rw [so_wj]; exact hm i (by omega) (by omega)
    · rw [so_wn o (by omega) d]; exact hm j (by omega) h3
  · rw [so_wn o c (by omega)]
    by_cases d : j = f
    · subst d; rw [so_wj]; exact h i k (by omega) (by omega) (by omega)
    · by_cases e : j = k
      · subst e; rw [so_wi]; exact h i f (by omega) (by omega) hf'
      · rw [so_wn o e d]; exact h i j (by omega) h2 h3
theorem so_Se_m (hB : so_O B) {k f j : Nat} (h : ∀ m, k ≤ m → m < j → B (o m) (o f) = false) (hb : B (o j) (o f) = true) : ∀ m, k ≤ m → m < j + 1 → B (o m) (o j) = false := by
  intro m h1 h2
  by_cases c : m = j
  · subst c; exact hB.1 _
  · exact so_tr hB (so_as hB hb) (h m h1 (by omega))
theorem so_Se_k {k f j : Nat} (h : ∀ m, k ≤ m → m < j → B (o m) (o f) = false) (hb : B (o j) (o f) = false) : ∀ m, k ≤ m → m < j + 1 → B (o m) (o f) = false := by
  intro m h1 h2
  by_cases c : m = j
  · subst c; exact hb
  · exact h m h1 (by omega)
theorem so_Se_e {k n : Nat} (h : so_Se B o k n) (hk : n ≤ k) : so_S B o 0 n := fun i j _ h2 h3 => h i j (by omega) h2 h3
/-- a pair put in order -/
def so_pr (B : Int32 → Int32 → Bool) (o : Nat → Int32) (k : Nat) : Nat → Int32 := if B (o (k + 1)) (o k) = true then so_w o k (k + 1) else o
theorem so_pr_t {k : Nat} (h : B (o (k + 1)) (o k) = true) : so_pr B o k = so_w o k (k + 1) := if_pos h
theorem so_pr_f {k : Nat} (h : B (o (k + 1)) (o k) = false) : so_pr B o k = o := if_neg (by rw [h]; exact Bool.false_ne_true)
theorem so_pr_P {n k : Nat} (h : so_P n o) (hk : k + 1 < n) : so_P n (so_pr B o k) := by
  cases e : B (o (k + 1)) (o k) with
  | true => rw [so_pr_t e]; exact so_P_w h (by omega) hk
  | false => rw [so_pr_f e]; exact h
theorem so_pr_n {k m : Nat} (h1 : m ≠ k) (h2 : m ≠ k + 1) : so_pr B o k m = o m := by
  cases e : B (o (k + 1)) (o k) with
  | true => rw [so_pr_t e]; exact so_wn o h1 h2
  | false => rw [so_pr_f e]
/-- bubbles: behind last all is in place -/
def so_Bu (B : Int32 → Int32 → Bool) (o : Nat → Int32) (last n : Nat) : Prop := ∀ i j, last < j → j < n → i < j → B (o j) (o i) = false
theorem so_Bu_w {a b last n : Nat} (h : so_Bu B o last n) (ha : a ≤ last) (hb : b ≤ last) : so_Bu B (so_w o a b) last n := by
  intro i j h1 h2 h3
  rw [so_wn o (m := j) (by omega) (by omega)]
  by_cases c : i = a
  · subst c; rw [so_wi]; exact h b j h1 h2 (by omega)
  · by_cases d : i = b
    · subst d; rw [so_wj]; exact h a j h1 h2 (by omega)
    · rw [so_wn o c d]; exact h i j h1 h2 h3
theorem so_Bu_p {k last n : Nat} (h : so_Bu B o last n) (hk : k < last) : so_Bu B (so_pr B o k) last n := by
  cases e : B (o (k + 1)) (o k) with
  | true => rw [so_pr_t e]; exact so_Bu_w h (by omega) (by omega)
  | false => rw [so_pr_f e]; exact h
theorem so_Bu_i (hB : so_O B) {k : Nat} (h : ∀ i, i < k → B (o k) (o i) = false) : ∀ i, i < k + 1 → B (so_pr B o k (k + 1)) (so_pr B o k i) = false := by
  intro i hi
  cases e : B (o (k + 1)) (o k) with
  | true =>
    rw [so_pr_t e, so_wj]
    by_cases c : i = k
    · subst c; rw [so_wi]; exact so_as hB e
    · rw [so_wn o c (by omega)]; exact h i (by omega)
  | false =>
    rw [so_pr_f e]
    by_cases c : i = k
    · subst c; exact e
    · exact so_tr hB (h i (by omega)) e
theorem so_Bu_s {last n : Nat} (h : so_Bu B o (last + 1) n) (hi : ∀ i, i < last + 1 → B (o (last + 1)) (o i) = false) : so_Bu B o last n := by
  intro i j h1 h2 h3
  by_cases c : j = last + 1
  · subst c; exact hi i h3
  · exact h i j (by omega) h2 h3
theorem so_Bu_e {n : Nat} (h : so_Bu B o 0 n) : so_S B o 0 n := fun i j _ h2 h3 => h i j (by omega) h3 h2
theorem so_Bu_0 {n last : Nat} (hl : n ≤ last + 1) : so_Bu B o last n := fun i j h1 h2 => by omega

/-- odd-even: how a round stands at k, against the row at its beginning -/
def so_oe (B : Int32 → Int32 → Bool) (o0 o : Nat → Int32) (r k : Nat) : Prop :=
  (∀ m, k ≤ m → o m = o0 m) ∧ ∀ x, (∀ q, (k ≤ q ∨ q % 2 = r % 2) → so_c (fun m => B x (o m)) q = so_c (fun m => B x (o0 m)) q) ∧
    (∀ q, q + 1 < k → (q + 1) % 2 ≠ r % 2 → so_c (fun m => B x (o m)) (q + 1) ≤ so_c (fun m => B x (o0 m)) q ∨ so_c (fun m => B x (o m)) (q + 1) + 1 ≤ so_c (fun m => B x (o0 m)) (q + 2))
theorem so_oe_0 (r k : Nat) (hk : k ≤ 1) : so_oe B o o r k := ⟨fun _ _ => rfl, fun _ => ⟨fun _ _ => rfl, fun q h => by omega⟩⟩
theorem so_pr_c (x : Int32) (k : Nat) : (∀ q, q ≤ k → so_c (fun m => B x (so_pr B o k m)) q = so_c (fun m => B x (o m)) q) ∧
    (∀ q, k + 2 ≤ q → so_c (fun m => B x (so_pr B o k m)) q = so_c (fun m => B x (o m)) q) := by
  have h1 : ∀ q, q ≤ k → so_c (fun m => B x (so_pr B o k m)) q = so_c (fun m => B x (o m)) q := fun q hq =>
    so_c_ext (fun m hm => by rw [so_pr_n (by omega) (by omega)])
  refine ⟨h1, fun q hq => ?_⟩
  obtain ⟨d, rfl⟩ := Nat.le.dest hq
  clear hq
  induction d with
  | zero =>
    have h2 := h1 k (Nat.le_refl _)
    show so_c (fun m => B x (so_pr B o k m)) (k + 1 + 1) = so_c (fun m => B x (o m)) (k + 1 + 1)
    rw [so_cs, so_cs, so_cs, so_cs, h2]
    cases e : B (o (k + 1)) (o k) with
    | true => rw [so_pr_t e, so_wi, so_wj]; omega
    | false => rw [so_pr_f e]
  | succ d ih =>
    show so_c (fun m => B x (so_pr B o k m)) (k + 2 + d + 1) = so_c (fun m => B x (o m)) (k + 2 + d + 1)
    rw [so_cs, so_cs, ih, so_pr_n (by omega) (by omega)]
theorem so_pr_b (hB : so_O B) {x : Int32} {k : Nat} (h : B x (so_pr B o k k) = true) : B x (o k) = true ∧ B x (o (k + 1)) = true := by
  cases e : B (o (k + 1)) (o k) with
  | true => rw [so_pr_t e, so_wi] at h; exact ⟨hB.2.1 _ _ _ h e, h⟩
  | false => rw [so_pr_f e] at h; exact ⟨h, so_lt_le hB h e⟩
theorem so_oe_s (hB : so_O B) {o0 : Nat → Int32} {r k : Nat} (h : so_oe B o0 o r k) (hk : k % 2 = r % 2) : so_oe B o0 (so_pr B o k) r (k + 2) := by
  refine ⟨fun m hm => by rw [so_pr_n (by omega) (by omega)]; exact h.1 m (by omega), fun x => ?_⟩
  obtain ⟨h1, h2⟩ := h.2 x
  obtain ⟨p1, p2⟩ := so_pr_c (B := B) (o := o) x k
  refine ⟨fun q hq => ?_, fun q hq hr => ?_⟩
  · by_cases c : k + 2 ≤ q
    · rw [p2 q c]; exact h1 q (by omega)
    · rw [p1 q (by omega)]; exact h1 q (by omega)
  · by_cases c : q = k
    · subst c
      have h3 := h1 q (by omega)
      have h4 := p1 q (Nat.le_refl _)
      have h5 : so_c (fun m => B x (o0 m)) (q + 2) = so_c (fun m => B x (o0 m)) q + (B x (o0 q)).toNat + (B x (o0 (q + 1))).toNat := rfl
      rw [so_cs]
      cases e : B x (so_pr B o q q) with
      | false => rw [so_f0]; exact Or.inl (by omega)
      | true =>
        obtain ⟨e1, e2⟩ := so_pr_b hB e
        rw [h.1 q (by omega)] at e1
        rw [h.1 (q + 1) (by omega)] at e2
        rw [e1, e2, so_t1] at h5
        rw [so_t1]
        exact Or.inr (by omega)
    · rw [p1 (q + 1) (by omega)]
      exact h2 q (by omega) hr
/-- odd-even: for each threshold the greater ones have come far enough after r rounds -/
def so_A (B : Int32 → Int32 → Bool) (n r : Nat) (o : Nat → Int32) : Prop := ∀ x M t, so_c (fun m => B x (o m)) n = M → (2 * t + 1 = M ∨ 2 * t + 2 = M) →
  ∀ j q, j < M → q + j + 1 ≤ n → q + 2 * j ≤ r + 2 * t → so_c (fun m => B x (o m)) q + j + 1 ≤ M
theorem so_A_0 (n : Nat) (o : Nat → Int32) : so_A B n 0 o := by
  intro x M t hM ht j q hj h1 h2
  have := so_c_le (fun m => B x (o m)) q
  omega
theorem so_A_s {n r k : Nat} {o0 : Nat → Int32} (h : so_A B n r o0) (he : so_oe B o0 o r k) (hk : k % 2 = r % 2) (h1 : k ≤ n) (h2 : n ≤ k + 1) : so_A B n (r + 1) o := by
  intro x M t hM ht j q hj g1 g2
  obtain ⟨e1, e2⟩ := he.2 x
  have hM0 : so_c (fun m => B x (o0 m)) n = M := by rw [← e1 n (Or.inl h1)]; exact hM
  have hA := h x M t hM0 ht
  by_cases c : q % 2 = r % 2
  · rw [e1 q (Or.inr c)]
    exact hA j q hj g1 (by omega)
  · cases q with
    | zero => show 0 + j + 1 ≤ M; omega
    | succ q =>
      rcases e2 q (by omega) c with a | a
      · have := hA j q hj (by omega) (by omega)
        omega
      · cases j with
        | zero =>
          have := so_c_mono (fun m => B x (o0 m)) (a := q + 2) (b := n) (by omega)
          omega
        | succ j =>
          have := hA j (q + 2) (by omega) (by omega) (by omega)
          omega
theorem so_c_dif (p : Nat → Bool) {a b : Nat} (h : a ≤ b) : so_c p b ≤ so_c p a + (b - a) := by
  obtain ⟨d, rfl⟩ := Nat.le.dest h
  clear h
  induction d with
  | zero => exact Nat.le_add_right _ _
  | succ d ih =>
    have e : so_c p (a + (d + 1)) = so_c p (a + d) + (p (a + d)).toNat := rfl
    have := so_tb (p (a + d))
    omega
theorem so_A_e (hB : so_O B) {n : Nat} (h : so_A B n n o) : so_S B o 0 n := by
  intro i j _ hij hj
  cases e : B (o j) (o i) with
  | false => rfl
  | true =>
    exfalso
    have hM := so_c_nz (p := fun m => B (o j) (o m)) (n := n) (m := i) (by omega) e
    have hl := so_c_le (fun m => B (o j) (o m)) n
    have ht : ∃ t, 2 * t + 1 = so_c (fun m => B (o j) (o m)) n ∨ 2 * t + 2 = so_c (fun m => B (o j) (o m)) n :=
      ⟨(so_c (fun m => B (o j) (o m)) n - 1) / 2, by omega⟩
    obtain ⟨t, ht⟩ := ht
    have h1 := h (o j) _ t rfl ht (so_c (fun m => B (o j) (o m)) n - 1) (n - so_c (fun m => B (o j) (o m)) n) (by omega) (by omega) (by omega)
    have h2 : ¬ i < n - so_c (fun m => B (o j) (o m)) n := fun c => by
      have := so_c_nz (p := fun m => B (o j) (o m)) c e
      omega
    have h3 := so_c_dif (fun m => B (o j) (o m)) (a := j + 1) (b := n) hj
    have h4 := so_c_dif (fun m => B (o j) (o m)) (a := n - so_c (fun m => B (o j) (o m)) n) (b := j) (by omega)
    rw [so_cs, hB.1, so_f0] at h3
    omega
end
end
section
section
variable {B : Int32 → Int32 → Bool} {o : Nat → Int32}
/-- within the window lo .. hi - 1 only places of the window have moved -/
def so_W (lo hi : Nat) (o0 o : Nat → Int32) : Prop :=
  (∀ m, m < lo ∨ hi ≤ m → o m = o0 m) ∧ (∀ j, lo ≤ j → j < hi → ∃ j', lo ≤ j' ∧ j' < hi ∧ o j = o0 j')
theorem so_W_r (lo hi : Nat) (o : Nat → Int32) : so_W lo hi o o := ⟨fun _ _ => rfl, fun j h1 h2 => ⟨j, h1, h2, rfl⟩⟩
theorem so_W_w {lo hi a b : Nat} {o0 : Nat → Int32} (h : so_W lo hi o0 o) (ha : lo ≤ a) (ha' : a < hi) (hb : lo ≤ b) (hb' : b < hi) : so_W lo hi o0 (so_w o a b) := by
  refine ⟨fun m hm => ?_, fun j h1 h2 => ?_⟩
  · rw [so_wn o (by omega) (by omega)]; exact h.1 m hm
  · by_cases c : j = a
    · subst c; rw [so_wi]; exact h.2 b hb hb'
    · by_cases d : j = b
      · subst d; rw [so_wj]; exact h.2 a ha ha'
      · rw [so_wn o c d]; exact h.2 j h1 h2
theorem so_Bu_W {lo hi last n : Nat} {o0 : Nat → Int32} (h : so_Bu B o0 last n) (hw : so_W lo hi o0 o) (hh : hi ≤ last + 1) : so_Bu B o last n := by
  intro i j h1 h2 h3
  rw [hw.1 j (by omega)]
  by_cases c : lo ≤ i ∧ i < hi
  · obtain ⟨i', a1, a2, e⟩ := hw.2 i c.1 c.2
    rw [e]; exact h i' j h1 h2 (by omega)
  · rw [hw.1 i (by omega)]; exact h i j h1 h2 h3

/-- a heap from lo on, within hi -/
def so_Hf (B : Int32 → Int32 → Bool) (o : Nat → Int32) (lo hi : Nat) : Prop := ∀ c, 0 < c → c < hi → lo ≤ (c - 1) / 2 → B (o ((c - 1) / 2)) (o c) = false
/-- the same, but for what hangs below x -/
def so_Hx (B : Int32 → Int32 → Bool) (o : Nat → Int32) (lo hi x : Nat) : Prop :=
  (∀ c, 0 < c → c < hi → lo ≤ (c - 1) / 2 → (c - 1) / 2 ≠ x → B (o ((c - 1) / 2)) (o c) = false) ∧
  (∀ c, 0 < x → lo ≤ (x - 1) / 2 → 0 < c → c < hi → (c - 1) / 2 = x → B (o ((x - 1) / 2)) (o c) = false)
theorem so_Hx_0 {x hi : Nat} (h : so_Hf B o (x + 1) hi) : so_Hx B o x hi x :=
  ⟨fun c h1 h2 h3 h4 => h c h1 h2 (by omega), fun c h1 h2 => by omega⟩
theorem so_Hx_e {lo hi x : Nat} (h : so_Hx B o lo hi x) (hc : ∀ c, 0 < c → c < hi → (c - 1) / 2 = x → B (o x) (o c) = false) : so_Hf B o lo hi := by
  intro c h1 h2 h3
  by_cases e : (c - 1) / 2 = x
  · rw [e]; exact hc c h1 h2 e
  · exact h.1 c h1 h2 h3 e
theorem so_Hx_s (hB : so_O B) {lo hi x y : Nat} (h : so_Hx B o lo hi x) (hx : lo ≤ x) (hy : (y - 1) / 2 = x) (hy0 : 0 < y) (hyh : y < hi) (hb : B (o x) (o y) = true)
    (hg : ∀ c, 0 < c → c < hi → (c - 1) / 2 = x → B (o y) (o c) = false) : so_Hx B (so_w o x y) lo hi y := by
  refine ⟨fun c h1 h2 h3 h4 => ?_, fun c h1 h2 h3 h4 h5 => ?_⟩
  · by_cases c1 : c = x
    · have e1 : (c - 1) / 2 ≠ x := by omega
      have e2 : (c - 1) / 2 ≠ y := by omega
      rw [so_wn o e1 e2, c1, so_wi]
      rw [c1] at h1 h3
      exact h.2 y h1 h3 hy0 hyh hy
    · by_cases c2 : c = y
      · rw [c2, hy, so_wi, so_wj]
        exact so_as hB hb
      · rw [so_wn o c1 c2]
        by_cases e : (c - 1) / 2 = x
        · rw [e, so_wi]; exact hg c h1 h2 e
        · rw [so_wn o e h4]; exact h.1 c h1 h2 h3 e
  · rw [hy, so_wi, so_wn o (m := c) (by omega) (by omega)]
    have := h.1 c h3 h4 (by omega) (by omega)
    rw [h5] at this
    exact this
theorem so_Hf_max (hB : so_O B) {hi : Nat} (h : so_Hf B o 0 hi) : ∀ c, c < hi → B (o 0) (o c) = false := by
  intro c
  induction c using Nat.strongRecOn with
  | ind c ih =>
    intro hc
    by_cases e : c = 0
    · subst e; exact hB.1 _
    · exact so_tr hB (h c (by omega) hc (by omega)) (ih ((c - 1) / 2) (by omega) (by omega))
theorem so_Hf_out (hB : so_O B) {e n : Nat} (h : so_Hf B o 0 (e + 2)) (hu : so_Bu B o (e + 1) n) : so_Hf B (so_w o 0 (e + 1)) 1 (e + 1) ∧ so_Bu B (so_w o 0 (e + 1)) e n := by
  refine ⟨fun c h1 h2 h3 => ?_, so_Bu_s (so_Bu_w hu (by omega) (by omega)) (fun i hi => ?_)⟩
  · rw [so_wn o (by omega) (by omega), so_wn o (by omega) (by omega)]
    exact h c h1 (by omega) (by omega)
  · rw [so_wj]
    by_cases c : i = 0
    · subst c; rw [so_wi]; exact so_Hf_max hB h _ (by omega)
    · rw [so_wn o c (by omega)]; exact so_Hf_max hB h _ (by omega)
theorem so_Hf_0 {n lo : Nat} (h : n ≤ 2 * lo + 1) : so_Hf B o lo n := fun c h1 h2 h3 => by omega

/-- partition: below b before the one at hi, from b to k not -/
def so_pa (B : Int32 → Int32 → Bool) (o : Nat → Int32) (lo b k hi : Nat) : Prop :=
  lo ≤ b ∧ b ≤ k ∧ k ≤ hi ∧ (∀ i, lo ≤ i → i < b → B (o i) (o hi) = true) ∧ (∀ i, b ≤ i → i < k → B (o i) (o hi) = false)
theorem so_pa_0 {lo hi : Nat} (h : lo ≤ hi) : so_pa B o lo lo lo hi := ⟨by omega, by omega, h, fun i h1 h2 => by omega, fun i h1 h2 => by omega⟩
theorem so_pa_t {lo b k hi : Nat} (h : so_pa B o lo b k hi) (hk : k < hi) (hb : B (o k) (o hi) = true) : so_pa B (so_w o b k) lo (b + 1) (k + 1) hi := by
  obtain ⟨h1, h2, h3, h4, h5⟩ := h
  refine ⟨by omega, by omega, by omega, fun i a1 a2 => ?_, fun i a1 a2 => ?_⟩
  · rw [so_wn o (m := hi) (by omega) (by omega)]
    by_cases c : i = b
    · subst c; rw [so_wi]; exact hb
    · rw [so_wn o c (by omega)]; exact h4 i a1 (by omega)
  · rw [so_wn o (m := hi) (by omega) (by omega)]
    by_cases c : i = k
    · subst c; rw [so_wj]; exact h5 b (by omega) (by omega)
    · rw [so_wn o (by omega) c]; exact h5 i (by omega) (by omega)
theorem so_pa_f {lo b k hi : Nat} (h : so_pa B o lo b k hi) (hk : k < hi) (hb : B (o k) (o hi) = false) : so_pa B o lo b (k + 1) hi := by
  obtain ⟨h1, h2, h3, h4, h5⟩ := h
  refine ⟨by omega, by omega, by omega, h4, fun i a1 a2 => ?_⟩
  by_cases c : i = k
  · subst c; exact hb
  · exact h5 i a1 (by omega)
/-- parted at b -/
def so_pd (B : Int32 → Int32 → Bool) (o : Nat → Int32) (lo b hi : Nat) : Prop :=
  lo ≤ b ∧ b ≤ hi ∧ (∀ i, lo ≤ i → i < b → B (o b) (o i) = false) ∧ (∀ i, b < i → i ≤ hi → B (o i) (o b) = false)
theorem so_pa_e (hB : so_O B) {lo b hi : Nat} (h : so_pa B o lo b hi hi) : so_pd B (so_w o b hi) lo b hi := by
  obtain ⟨h1, h2, h3, h4, h5⟩ := h
  refine ⟨h1, h2, fun i a1 a2 => ?_, fun i a1 a2 => ?_⟩
  · rw [so_wi, so_wn o (by omega) (by omega)]
    exact so_as hB (h4 i a1 a2)
  · rw [so_wi]
    by_cases c : i = hi
    · subst c; rw [so_wj]; exact h5 b (by omega) (by omega)
    · rw [so_wn o (by omega) c]; exact h5 i (by omega) (by omega)
/-- the waiting ranges -/
def so_Qs (n : Nat) (l h : Nat → Nat) (r : Nat) : Prop := (∀ t, t < r → l t < h t ∧ h t < n) ∧ (∀ s t, s < t → t < r → h s < l t)
def so_Qp (B : Int32 → Int32 → Bool) (n : Nat) (o : Nat → Int32) (l h : Nat → Nat) (r : Nat) (E : Nat → Nat → Prop) : Prop :=
  ∀ i j, i < j → j < n → B (o j) (o i) = false ∨ (∃ t, t < r ∧ l t ≤ i ∧ j ≤ h t) ∨ E i j
def so_pu (f : Nat → Nat) (r a : Nat) : Nat → Nat := fun t => if t = r then a else f t
theorem so_pu_r (f : Nat → Nat) (r a : Nat) : so_pu f r a r = a := if_pos rfl
theorem so_pu_n (f : Nat → Nat) {r t : Nat} (a : Nat) (h : t ≠ r) : so_pu f r a t = f t := if_neg h
def so_sm (l h : Nat → Nat) : Nat → Nat
  | 0 => 0
  | r + 1 => so_sm l h r + (h r - l r)
theorem so_sm_x {l h l' h' : Nat → Nat} {r : Nat} (e : ∀ t, t < r → l t = l' t ∧ h t = h' t) : so_sm l h r = so_sm l' h' r := by
  induction r with
  | zero => rfl
  | succ r ih =>
    show so_sm l h r + (h r - l r) = so_sm l' h' r + (h' r - l' r)
    rw [ih (fun t ht => e t (by omega)), (e r (by omega)).1, (e r (by omega)).2]
theorem so_sm_r {n : Nat} {l h : Nat → Nat} {r : Nat} (hs : so_Qs n l h r) : r ≤ so_sm l h r := by
  induction r with
  | zero => exact Nat.le_refl _
  | succ r ih =>
    have h1 := ih ⟨fun t ht => hs.1 t (by omega), fun s t a b => hs.2 s t a (by omega)⟩
    have h2 := hs.1 r (by omega)
    show r + 1 ≤ so_sm l h r + (h r - l r)
    omega
theorem so_Qs_less {n : Nat} {l h : Nat → Nat} {r : Nat} (hs : so_Qs n l h (r + 1)) : so_Qs n l h r :=
  ⟨fun t ht => hs.1 t (by omega), fun s t a b => hs.2 s t a (by omega)⟩
theorem so_Qs_push {n : Nat} {l h : Nat → Nat} {r a c : Nat} (hs : so_Qs n l h r) (hac : a < c) (hc : c < n) (hl : ∀ t, t < r → h t < a) :
    so_Qs n (so_pu l r a) (so_pu h r c) (r + 1) := by
  refine ⟨fun t ht => ?_, fun s t h1 h2 => ?_⟩
  · by_cases e : t = r
    · subst e; rw [so_pu_r, so_pu_r]; exact ⟨hac, hc⟩
    · rw [so_pu_n _ _ e, so_pu_n _ _ e]; exact hs.1 t (by omega)
  · rw [so_pu_n h c (t := s) (by omega)]
    by_cases e : t = r
    · subst e; rw [so_pu_r]; exact hl s (by omega)
    · rw [so_pu_n _ _ e]; exact hs.2 s t h1 (by omega)
theorem so_sm_push (l h : Nat → Nat) (r a c : Nat) : so_sm (so_pu l r a) (so_pu h r c) (r + 1) = so_sm l h r + (c - a) := by
  show so_sm (so_pu l r a) (so_pu h r c) r + (so_pu h r c r - so_pu l r a r) = so_sm l h r + (c - a)
  rw [so_pu_r, so_pu_r, so_sm_x (l' := l) (h' := h) (fun t ht => ⟨so_pu_n _ _ (by omega), so_pu_n _ _ (by omega)⟩)]
theorem so_Qp_push {n : Nat} {l h : Nat → Nat} {r a c : Nat} {E : Nat → Nat → Prop} (hp : so_Qp B n o l h r (fun i j => (a ≤ i ∧ j ≤ c) ∨ E i j)) :
    so_Qp B n o (so_pu l r a) (so_pu h r c) (r + 1) E := by
  intro i j h1 h2
  rcases hp i j h1 h2 with x | ⟨t, x1, x2, x3⟩ | x | x
  · exact Or.inl x
  · exact Or.inr (Or.inl ⟨t, by omega, by rw [so_pu_n _ _ (by omega)]; exact x2, by rw [so_pu_n _ _ (by omega)]; exact x3⟩)
  · exact Or.inr (Or.inl ⟨r, by omega, by rw [so_pu_r]; exact x.1, by rw [so_pu_r]; exact x.2⟩)
  · exact Or.inr (Or.inr x)
theorem so_Qp_no {n : Nat} {l h : Nat → Nat} {r a c : Nat} {E : Nat → Nat → Prop} (hp : so_Qp B n o l h r (fun i j => (a ≤ i ∧ j ≤ c) ∨ E i j)) (hac : c ≤ a) :
    so_Qp B n o l h r E := by
  intro i j h1 h2
  rcases hp i j h1 h2 with x | x | x | x
  · exact Or.inl x
  · exact Or.inr (Or.inl x)
  · omega
  · exact Or.inr (Or.inr x)
theorem so_Qp_part (hB : so_O B) {n : Nat} {l h : Nat → Nat} {r b : Nat} {o0 : Nat → Int32} (hs : so_Qs n l h (r + 1)) (hp : so_Qp B n o0 l h (r + 1) (fun _ _ => False))
    (hw : so_W (l r) (h r + 1) o0 o) (hd : so_pd B o (l r) b (h r)) :
    so_Qp B n o l h r (fun i j => (l r ≤ i ∧ j ≤ b - 1) ∨ ((b + 1 ≤ i ∧ j ≤ h r) ∨ False)) := by
  obtain ⟨d1, d2, d3, d4⟩ := hd
  have hn : ∀ t, t < r → h t < l r := fun t ht => hs.2 t r ht (by omega)
  have hr := hs.1 r (by omega)
  intro i j h1 h2
  by_cases ci : l r ≤ i ∧ i ≤ h r
  · by_cases cj : l r ≤ j ∧ j ≤ h r
    · by_cases x : j < b
      · exact Or.inr (Or.inr (Or.inl ⟨ci.1, by omega⟩))
      · by_cases y : b < i
        · exact Or.inr (Or.inr (Or.inr (Or.inl ⟨by omega, cj.2⟩)))
        · left
          by_cases z : i = b
          · subst z; exact d4 j (by omega) cj.2
          · have e1 := d3 i ci.1 (by omega)
            by_cases z' : j = b
            · subst z'; exact e1
            · exact so_tr hB e1 (d4 j (by omega) cj.2)
    · left
      obtain ⟨i', a1, a2, e⟩ := hw.2 i ci.1 (by omega)
      rw [hw.1 j (by omega), e]
      rcases hp i' j (by omega) h2 with x | ⟨t, x1, x2, x3⟩ | x
      · exact x
      · by_cases et : t = r
        · subst et; omega
        · have := hn t (by omega); omega
      · exact x.elim
  · by_cases cj : l r ≤ j ∧ j ≤ h r
    · left
      obtain ⟨j', a1, a2, e⟩ := hw.2 j cj.1 (by omega)
      rw [hw.1 i (by omega), e]
      rcases hp i j' (by omega) (by omega) with x | ⟨t, x1, x2, x3⟩ | x
      · exact x
      · by_cases et : t = r
        · subst et; omega
        · have := hn t (by omega); omega
      · exact x.elim
    · rw [hw.1 i (by omega), hw.1 j (by omega)]
      rcases hp i j h1 h2 with x | ⟨t, x1, x2, x3⟩ | x
      · exact Or.inl x
      · by_cases et : t = r
        · subst et; omega
        · exact Or.inr (Or.inl ⟨t, by omega, x2, x3⟩)
      · exact x.elim
theorem so_Qp_e {n : Nat} {l h : Nat → Nat} (hp : so_Qp B n o l h 0 (fun _ _ => False)) : so_S B o 0 n := by
  intro i j _ h1 h2
  rcases hp i j h1 h2 with x | ⟨t, x, _⟩ | x
  · exact x
  · omega
  · exact x.elim
end
end
section
section
variable {B : Int32 → Int32 → Bool} {o : Nat → Int32}
/-- a stretch of another row put in -/
def so_cp (o s : Nat → Int32) (a b : Nat) : Nat → Int32 := fun m => if a ≤ m ∧ m < b then s m else o m
theorem so_cp_i (o s : Nat → Int32) {a b m : Nat} (h1 : a ≤ m) (h2 : m < b) : so_cp o s a b m = s m := if_pos ⟨h1, h2⟩
theorem so_cp_o (o s : Nat → Int32) {a b m : Nat} (h : m < a ∨ b ≤ m) : so_cp o s a b m = o m := if_neg (by omega)
theorem so_cp_0 (o s : Nat → Int32) (a : Nat) : so_cp o s a a = o := funext fun _ => so_cp_o o s (by omega)
theorem so_cp_s (o s : Nat → Int32) {a b : Nat} (h : a ≤ b) : upd (so_cp o s a b) b (s b) = so_cp o s a (b + 1) := by
  funext m
  show (if m = b then s b else so_cp o s a b m) = so_cp o s a (b + 1) m
  by_cases c : m = b
  · subst c; rw [if_pos rfl, so_cp_i o s h (by omega)]
  · rw [if_neg c]
    by_cases d : a ≤ m ∧ m < b
    · rw [so_cp_i o s d.1 d.2, so_cp_i o s d.1 (by omega)]
    · rw [so_cp_o o s (by omega), so_cp_o o s (by omega)]
theorem so_c_add (p : Nat → Bool) (a d : Nat) : so_c p (a + d) = so_c p a + so_c (fun m => p (a + m)) d := by
  induction d with
  | zero => rfl
  | succ d ih =>
    show so_c p (a + d) + (p (a + d)).toNat = so_c p a + (so_c (fun m => p (a + m)) d + (p (a + d)).toNat)
    omega
theorem so_cp_c {s : Nat → Int32} {a b n : Nat} (hab : a ≤ b) (hb : b ≤ n) (p : Int32 → Bool)
    (h : so_c (fun m => p (s m)) b + so_c (fun m => p (o m)) a = so_c (fun m => p (s m)) a + so_c (fun m => p (o m)) b) :
    so_c (fun m => p (so_cp o s a b m)) n = so_c (fun m => p (o m)) n := by
  obtain ⟨d, rfl⟩ := Nat.le.dest hab
  obtain ⟨e, rfl⟩ := Nat.le.dest hb
  have e1 : so_c (fun m => p (so_cp o s a (a + d) m)) a = so_c (fun m => p (o m)) a := so_c_ext (fun m hm => by rw [so_cp_o o s (by omega)])
  have e2 : so_c (fun m => p (so_cp o s a (a + d) (a + m))) d = so_c (fun m => p (s (a + m))) d := so_c_ext (fun m hm => by rw [so_cp_i o s (by omega) (by omega)])
  have e3 : so_c (fun m => p (so_cp o s a (a + d) (a + d + m))) e = so_c (fun m => p (o (a + d + m))) e := so_c_ext (fun m hm => by rw [so_cp_o o s (by omega)])
  have f1 := so_c_add (fun m => p (so_cp o s a (a + d) m)) (a + d) e
  have f2 := so_c_add (fun m => p (so_cp o s a (a + d) m)) a d
  have f3 := so_c_add (fun m => p (s m)) a d
  have f4 := so_c_add (fun m => p (o m)) (a + d) e
  try dsimp only at f1 f2 f3 f4
  omega
/-- merging: how it stands at k -/
def so_m (B : Int32 → Int32 → Bool) (o : Nat → Int32) (lo mi hi l r k : Nat) (s : Nat → Int32) : Prop :=
  lo ≤ l ∧ l ≤ mi ∧ mi ≤ r ∧ r ≤ hi ∧ k + mi = l + r ∧ so_S B s lo k ∧ (∀ i j, lo ≤ i → i < k → l ≤ j → j < mi → B (o j) (s i) = false) ∧
  (∀ i j, lo ≤ i → i < k → r ≤ j → j < hi → B (o j) (s i) = false) ∧
  (∀ p : Int32 → Bool, so_c (fun m => p (s m)) k + so_c (fun m => p (o m)) lo + so_c (fun m => p (o m)) mi = so_c (fun m => p (s m)) lo + so_c (fun m => p (o m)) l + so_c (fun m => p (o m)) r)
theorem so_m_0 {lo mi hi : Nat} (h1 : lo ≤ mi) (h2 : mi ≤ hi) (s : Nat → Int32) : so_m B o lo mi hi lo mi lo s :=
  ⟨by omega, h1, by omega, h2, by omega, fun i j a b c => by omega, fun i j a b => by omega, fun i j a b => by omega, fun p => rfl⟩
theorem so_uS {s : Nat → Int32} {k : Nat} {x : Int32} : upd s k x k = x := if_pos rfl
theorem so_uN {s : Nat → Int32} {k m : Nat} {x : Int32} (h : m ≠ k) : upd s k x m = s m := if_neg h
theorem so_m_c {s : Nat → Int32} {k : Nat} (x : Int32) (p : Int32 → Bool) : so_c (fun m => p (upd s k x m)) (k + 1) = so_c (fun m => p (s m)) k + (p x).toNat := by
  rw [so_cs, so_uS, so_c_ext (q := fun m => p (s m)) (fun m hm => by rw [so_uN (by omega)])]
theorem so_m_l (hB : so_O B) {lo mi hi l r k : Nat} {s : Nat → Int32} (h : so_m B o lo mi hi l r k s) (s1 : so_S B o lo mi) (s2 : so_S B o mi hi) (hl : l < mi)
    (hc : hi ≤ r ∨ B (o l) (o r) = true) : so_m B o lo mi hi (l + 1) r (k + 1) (upd s k (o l)) := by
  obtain ⟨h1, h2, h3, h4, h5, h6, h7, h8, h9⟩ := h
  refine ⟨by omega, by omega, h3, h4, by omega, fun i j a b c => ?_, fun i j a b c d => ?_, fun i j a b c d => ?_, fun p => ?_⟩
  · rw [so_uN (m := i) (by omega)]
    by_cases e : j = k
    · rw [e, so_uS]; exact h7 i l a (by omega) (Nat.le_refl _) hl
    · rw [so_uN e]; exact h6 i j a b (by omega)
  · by_cases e : i = k
    · rw [e, so_uS]; exact s1 l j h1 (by omega) d
    · rw [so_uN e]; exact h7 i j a (by omega) (by omega) d
  · by_cases e : i = k
    · rw [e, so_uS]
      rcases hc with x | x
      · omega
      · by_cases f : j = r
        · rw [f]; exact so_as hB x
        · exact so_tr hB (so_as hB x) (s2 r j h3 (by omega) d)
    · rw [so_uN e]; exact h8 i j a (by omega) c d
  · have e1 := h9 p
    have e2 := so_m_c (s := s) (k := k) (o l) p
    have e3 : so_c (fun m => p (upd s k (o l) m)) lo = so_c (fun m => p (s m)) lo := so_c_ext (fun m hm => by rw [so_uN (by omega)])
    have e4 := so_cs (fun m => p (o m)) l
    try dsimp only at e4
    omega
theorem so_m_r (hB : so_O B) {lo mi hi l r k : Nat} {s : Nat → Int32} (h : so_m B o lo mi hi l r k s) (s1 : so_S B o lo mi) (s2 : so_S B o mi hi) (hr : r < hi)
    (hc : mi ≤ l ∨ B (o l) (o r) = false) : so_m B o lo mi hi l (r + 1) (k + 1) (upd s k (o r)) := by
  obtain ⟨h1, h2, h3, h4, h5, h6, h7, h8, h9⟩ := h
  refine ⟨h1, h2, by omega, by omega, by omega, fun i j a b c => ?_, fun i j a b c d => ?_, fun i j a b c d => ?_, fun p => ?_⟩
  · rw [so_uN (m := i) (by omega)]
    by_cases e : j = k
    · rw [e, so_uS]; exact h8 i r a (by omega) (Nat.le_refl _) hr
    · rw [so_uN e]; exact h6 i j a b (by omega)
  · by_cases e : i = k
    · rw [e, so_uS]
      rcases hc with x | x
      · omega
      · by_cases f : j = l
        · rw [f]; exact x
        · exact so_tr hB x (s1 l j h1 (by omega) d)
    · rw [so_uN e]; exact h7 i j a (by omega) c d
  · by_cases e : i = k
    · rw [e, so_uS]; exact s2 r j h3 (by omega) d
    · rw [so_uN e]; exact h8 i j a (by omega) (by omega) d
  · have e1 := h9 p
    have e2 := so_m_c (s := s) (k := k) (o r) p
    have e3 : so_c (fun m => p (upd s k (o r) m)) lo = so_c (fun m => p (s m)) lo := so_c_ext (fun m hm => by rw [so_uN (by omega)])
    have e4 := so_cs (fun m => p (o m)) r
    try dsimp only at e4
    omega
theorem so_m_e {lo mi hi l r n : Nat} {s : Nat → Int32} (h : so_m B o lo mi hi l r hi s) (hn : hi ≤ n) (hP : so_P n o) :
    so_P n (so_cp o s lo hi) ∧ so_S B (so_cp o s lo hi) lo hi := by
  obtain ⟨h1, h2, h3, h4, h5, h6, h7, h8, h9⟩ := h
  refine ⟨fun p => ?_, fun i j a b c => ?_⟩
  · rw [← hP p]
    have e1 := h9 p
    have e2 : l = mi := by omega
    have e3 : r = hi := by omega
    rw [e2, e3] at e1
    exact so_cp_c (by omega) hn p (by omega)
  · rw [so_cp_i o s (by omega) c, so_cp_i o s a (by omega)]
    exact h6 i j a b c
def so_G (B : Int32 → Int32 → Bool) (o : Nat → Int32) (a b n : Nat) : Prop := ∀ i j, a ≤ i → i < j → j < b → j < n → B (o j) (o i) = false
/-- each stretch of width w is sorted -/
def so_V (B : Int32 → Int32 → Bool) (o : Nat → Int32) (w n : Nat) : Prop := ∀ q, so_G B o (q * w) (q * w + w) n
/-- the first q stretches of width 2 w, and the later ones of width w -/
def so_Vi (B : Int32 → Int32 → Bool) (o : Nat → Int32) (w q n : Nat) : Prop :=
  (∀ q', q' < q → so_G B o (q' * (2 * w)) (q' * (2 * w) + 2 * w) n) ∧ (∀ q', 2 * q ≤ q' → so_G B o (q' * w) (q' * w + w) n)
theorem so_V_1 (o : Nat → Int32) (n : Nat) : so_V B o 1 n := fun q i j a b c => by omega
theorem so_V_e {w n : Nat} (h : so_V B o w n) (hw : n ≤ w) : so_S B o 0 n := fun i j a b c => h 0 i j (by omega) b (by omega) c
theorem so_Vi_0 {w n : Nat} (h : so_V B o w n) : so_Vi B o w 0 n := ⟨fun q hq => by omega, fun q _ => h q⟩
theorem so_Vi_e {w q n : Nat} (h : so_Vi B o w q n) (hq : n ≤ q * (2 * w)) : so_V B o (2 * w) n := by
  intro q'
  by_cases c : q' < q
  · exact h.1 q' c
  · intro i j a b d e
    have := Nat.mul_le_mul_right (2 * w) (Nat.le_of_not_lt c)
    omega
theorem so_Vi_a {w q n : Nat} (h : so_Vi B o w q n) : so_G B o (q * (2 * w)) (q * (2 * w) + w) n ∧ so_G B o (q * (2 * w) + w) (q * (2 * w) + w + w) n := by
  have e1 : 2 * q * w = q * (2 * w) := by rw [Nat.mul_comm 2 q, Nat.mul_assoc]
  have e2 : (2 * q + 1) * w = q * (2 * w) + w := by rw [Nat.add_mul, e1, Nat.one_mul]
  have h1 := h.2 (2 * q) (Nat.le_refl _)
  have h2 := h.2 (2 * q + 1) (by omega)
  rw [e1] at h1
  rw [e2] at h2
  exact ⟨h1, h2⟩
theorem so_Vi_s {w q n : Nat} {o' : Nat → Int32} (h : so_Vi B o w q n) (hk : ∀ m, m < q * (2 * w) ∨ q * (2 * w) + 2 * w ≤ m → o' m = o m)
    (hg : so_G B o' (q * (2 * w)) (q * (2 * w) + 2 * w) n) : so_Vi B o' w (q + 1) n := by
  refine ⟨fun q' hq' => ?_, fun q' hq' => ?_⟩
  · by_cases c : q' = q
    · rw [c]; exact hg
    · intro i j a b d e
      have h1 : q' * (2 * w) + 2 * w ≤ q * (2 * w) := by
        have := Nat.mul_le_mul_right (2 * w) (show q' + 1 ≤ q by omega)
        rw [Nat.add_mul, Nat.one_mul] at this
        exact this
      rw [hk i (by omega), hk j (by omega)]
      exact h.1 q' (by omega) i j a b d e
  · intro i j a b d e
    have h1 : q * (2 * w) + 2 * w ≤ q' * w := by
      have := Nat.mul_le_mul_right w hq'
      have e1 : 2 * (q + 1) * w = q * (2 * w) + 2 * w := by
        rw [Nat.mul_comm 2 (q + 1), Nat.mul_assoc, Nat.add_mul, Nat.one_mul]
      rw [e1] at this
      exact this
    rw [hk i (by omega), hk j (by omega)]
    exact h.2 q' (by omega) i j a b d e
end
end
section
section
variable {B : Int32 → Int32 → Bool} {o : Nat → Int32}
/-- filling by rank -/
def so_fi (B : Int32 → Int32 → Bool) (n p : Nat) (o : Nat → Int32) : Prop := ∀ i, i < p → o (so_rk B n (nI i)) = nI i
theorem so_fi_0 (n : Nat) (o : Nat → Int32) : so_fi B n 0 o := fun i hi => by omega
theorem so_fi_s (hB : so_O B) {n p : Nat} (hn : n < 2 ^ 31) (hp : p < n) (h : so_fi B n p o) : so_fi B n (p + 1) (upd o (so_rk B n (nI p)) (nI p)) := by
  intro i hi
  by_cases c : i = p
  · subst c; exact so_uS
  · rw [so_uN]
    · exact h i (by omega)
    · exact fun e => c (so_rk_inj hB hn (by omega) hp e)
theorem so_c_or {p q r : Nat → Bool} {n : Nat} (h : ∀ m, m < n → (r m).toNat = (p m).toNat + (q m).toNat) : so_c r n = so_c p n + so_c q n := by
  induction n with
  | zero => rfl
  | succ n ih =>
    have h1 := ih (fun m hm => h m (by omega))
    have h2 := h n (by omega)
    rw [so_cs, so_cs, so_cs]; omega
theorem so_c_res {q r : Nat → Bool} {k n : Nat} (hk : k ≤ n) (h1 : ∀ m, m < k → r m = q m) (h2 : ∀ m, k ≤ m → r m = false) : so_c r n = so_c q k := by
  obtain ⟨d, rfl⟩ := Nat.le.dest hk
  clear hk
  induction d with
  | zero => exact so_c_ext h1
  | succ d ih =>
    show so_c r (k + d) + (r (k + d)).toNat = so_c q k
    rw [ih, h2 (k + d) (by omega)]; rfl
theorem so_Bk {L : Nat → Int32} {ky : Nat → Nat} {n m p : Nat} (hn : n < 2 ^ 31) (hk : ∀ i, i < n → (L i).toInt = (ky i : Int) - 99) (hm : m < n) (hp : p < n) :
    so_B L (nI m) (nI p) = true ↔ ky m < ky p ∨ (ky m = ky p ∧ m < p) := by
  unfold so_B
  rw [so_Li, nI_clamp (by omega), nI_clamp (by omega), hk m hm, hk p hp, nI_toInt (by omega), nI_toInt (by omega)]
  omega
theorem so_ck {L : Nat → Int32} {ky : Nat → Nat} {n p : Nat} (hn : n < 2 ^ 31) (hk : ∀ i, i < n → (L i).toInt = (ky i : Int) - 99) (hp : p < n) :
    so_c (fun m => decide (ky m < ky p)) n + so_c (fun m => decide (ky m = ky p)) p = so_rk (so_B L) n (nI p) := by
  have e1 : so_c (fun m => decide (ky m = ky p ∧ m < p)) n = so_c (fun m => decide (ky m = ky p)) p :=
    so_c_res (by omega) (fun m hm => by simp [hm]) (fun m hm => by
      have : ¬ m < p := by omega
      simp [this])
  rw [← e1]
  symm
  unfold so_rk
  refine so_c_or (fun m hm => ?_)
  have e2 := so_Bk hn hk hm hp
  by_cases c : ky m < ky p
  · have c2 : ¬ (ky m = ky p ∧ m < p) := by omega
    rw [e2.2 (Or.inl c), decide_eq_true c, decide_eq_false c2]; rfl
  · rw [decide_eq_false c]
    by_cases d : ky m = ky p ∧ m < p
    · rw [e2.2 (Or.inr d), decide_eq_true d]; rfl
    · have : so_B L (nI m) (nI p) = false := so_nt (fun x => by rcases e2.1 x with a | a; exact c a; exact d a)
      rw [this, decide_eq_false d]; rfl

/-- radix: the order by the lowest b bits of the key, then by place -/
def so_Rb (kf : Int32 → Nat) (b : Nat) : Int32 → Int32 → Bool := so_L (fun x => ((kf x % 2 ^ b : Nat) : Int))
theorem so_Rb_O (kf : Int32 → Nat) (b : Nat) : so_O (so_Rb kf b) := so_LO _
theorem so_Rb_i (kf : Int32 → Nat) (b : Nat) (x y : Int32) : so_Rb kf b x y = false ↔ ¬ (kf x % 2 ^ b < kf y % 2 ^ b ∨ (kf x % 2 ^ b = kf y % 2 ^ b ∧ x.toInt < y.toInt)) := by
  unfold so_Rb
  rw [← Bool.not_eq_true, so_Li]
  omega
theorem so_Rb_0 {kf : Int32 → Nat} {n : Nat} (hn : n < 2 ^ 31) (h : ∀ m, m < n → o m = nI m) : so_S (so_Rb kf 0) o 0 n := by
  intro i j _ h1 h2
  rw [so_Rb_i, h i (by omega), h j h2, nI_toInt (by omega), nI_toInt (by omega)]
  simp only [Nat.pow_zero, Nat.mod_one]
  omega
def so_bt (kf : Int32 → Nat) (b : Nat) (x : Int32) : Nat := kf x / 2 ^ b % 2
theorem so_Rb_s (kf : Int32 → Nat) (b : Nat) (x : Int32) : kf x % 2 ^ (b + 1) = kf x % 2 ^ b + 2 ^ b * so_bt kf b x := by
  rw [Nat.pow_succ, Nat.mod_mul]; rfl
/-- how many of the first k have this bit -/
def so_cb (kf : Int32 → Nat) (b w : Nat) (o : Nat → Int32) (k : Nat) : Nat := so_c (fun m => decide (so_bt kf b (o m) = w)) k
theorem so_cb_n (kf : Int32 → Nat) (b : Nat) (o : Nat → Int32) (k : Nat) : so_cb kf b 0 o k + so_cb kf b 1 o k = k := by
  have h : so_c (fun _ => true) k = so_cb kf b 0 o k + so_cb kf b 1 o k := so_c_or (fun m _ => by
    have : so_bt kf b (o m) < 2 := Nat.mod_lt _ (by omega)
    by_cases c : so_bt kf b (o m) = 0
    · have d : ¬ so_bt kf b (o m) = 1 := by omega
      rw [decide_eq_true c, decide_eq_false d]; rfl
    · have d : so_bt kf b (o m) = 1 := by omega
      rw [decide_eq_false c, decide_eq_true d]; rfl)
  rw [so_c_tt] at h
  exact h.symm
theorem so_cb_lt {kf : Int32 → Nat} {b w : Nat} {k n : Nat} (hk : k < n) (h : so_bt kf b (o k) = w) : so_cb kf b w o k < so_cb kf b w o n := by
  have h1 : so_cb kf b w o (k + 1) ≤ so_cb kf b w o n := so_c_mono _ hk
  have h2 : so_cb kf b w o (k + 1) = so_cb kf b w o k + (decide (so_bt kf b (o k) = w)).toNat := rfl
  rw [decide_eq_true h, so_t1] at h2
  omega
/-- collecting: what the spare row holds when k places have been looked at -/
def so_co (kf : Int32 → Nat) (b w st : Nat) (o : Nat → Int32) (k : Nat) (s0 s : Nat → Int32) : Prop :=
  (∀ m, m < st → s m = s0 m) ∧ (∀ m, m < k → so_bt kf b (o m) = w → s (st + so_cb kf b w o m) = o m)
theorem so_co_0 (kf : Int32 → Nat) (b w st : Nat) (o s : Nat → Int32) : so_co kf b w st o 0 s s := ⟨fun _ _ => rfl, fun m hm => by omega⟩
theorem so_co_t {kf : Int32 → Nat} {b w st k : Nat} {s0 s : Nat → Int32} (h : so_co kf b w st o k s0 s) (hb : so_bt kf b (o k) = w) :
    so_co kf b w st o (k + 1) s0 (upd s (st + so_cb kf b w o k) (o k)) := by
  refine ⟨fun m hm => by rw [so_uN (by omega)]; exact h.1 m hm, fun m hm e => ?_⟩
  by_cases c : m = k
  · rw [c]; exact so_uS
  · have := so_cb_lt (n := k) (show m < k by omega) e
    rw [so_uN (by omega)]; exact h.2 m (by omega) e
theorem so_co_f {kf : Int32 → Nat} {b w st k : Nat} {s0 s : Nat → Int32} (h : so_co kf b w st o k s0 s) (hb : ¬ so_bt kf b (o k) = w) : so_co kf b w st o (k + 1) s0 s :=
  ⟨h.1, fun m hm e => by
    by_cases c : m = k
    · rw [c] at e; exact (hb e).elim
    · exact h.2 m (by omega) e⟩
theorem so_cb_t {kf : Int32 → Nat} {b w k : Nat} (hb : so_bt kf b (o k) = w) : so_cb kf b w o (k + 1) = so_cb kf b w o k + 1 := by
  show so_cb kf b w o k + (decide (so_bt kf b (o k) = w)).toNat = _
  rw [decide_eq_true hb]; rfl
theorem so_cb_f {kf : Int32 → Nat} {b w k : Nat} (hb : ¬ so_bt kf b (o k) = w) : so_cb kf b w o (k + 1) = so_cb kf b w o k := by
  show so_cb kf b w o k + (decide (so_bt kf b (o k) = w)).toNat = _
  rw [decide_eq_false hb]; rfl
theorem so_pass {kf : Int32 → Nat} {b n : Nat} {s0 s1 s : Nat → Int32} (h0 : so_co kf b 0 0 o n s0 s1) (h1 : so_co kf b 1 (so_cb kf b 0 o n) o n s1 s) (hP : so_P n o) (hS : so_S (so_Rb kf b) o 0 n) :
    so_P n s ∧ so_S (so_Rb kf (b + 1)) s 0 n := by
  have hbit : ∀ x, so_bt kf b x = 0 ∨ so_bt kf b x = 1 := fun x => by
    have : so_bt kf b x < 2 := Nat.mod_lt _ (by omega)
    omega
  have hN := so_cb_n kf b o n
  obtain ⟨q, hq0, hq1⟩ : ∃ q : Nat → Nat, (∀ k, so_bt kf b (o k) = 0 → q k = so_cb kf b 0 o k) ∧ (∀ k, so_bt kf b (o k) = 1 → q k = so_cb kf b 0 o n + so_cb kf b 1 o k) :=
    ⟨fun k => if so_bt kf b (o k) = 0 then so_cb kf b 0 o k else so_cb kf b 0 o n + so_cb kf b 1 o k, fun k e => if_pos e, fun k e => if_neg (by omega)⟩
  have hs : ∀ k, k < n → s (q k) = o k := fun k hk => by
    rcases hbit (o k) with e | e
    · rw [hq0 k e, h1.1 _ (so_cb_lt hk e)]
      have := h0.2 k hk e
      rw [Nat.zero_add] at this
      exact this
    · rw [hq1 k e]; exact h1.2 k hk e
  have hr : ∀ k, k < n → q k < n := fun k hk => by
    rcases hbit (o k) with e | e
    · rw [hq0 k e]; have := so_cb_lt hk e; omega
    · rw [hq1 k e]; have := so_cb_lt hk e; omega
  have hm : ∀ k m, k < m → m < n → so_bt kf b (o k) = so_bt kf b (o m) → q k < q m := fun k m h2 h3 e => by
    rcases hbit (o k) with e1 | e1
    · rw [hq0 k e1, hq0 m (e.symm.trans e1)]; exact so_cb_lt h2 e1
    · rw [hq1 k e1, hq1 m (e.symm.trans e1)]; have := so_cb_lt h2 e1; omega
  have hz : ∀ k m, k < n → so_bt kf b (o k) = 0 → so_bt kf b (o m) = 1 → q k < q m := fun k m h2 e1 e2 => by
    rw [hq0 k e1, hq1 m e2]; have := so_cb_lt h2 e1; omega
  have hi : ∀ i j, i < n → j < n → q i = q j → i = j := fun i j a1 a2 e => by
    rcases hbit (o i) with e1 | e1 <;> rcases hbit (o j) with e2 | e2
    · rcases Nat.lt_trichotomy i j with c | c | c
      · have := hm i j c a2 (by omega); omega
      · exact c
      · have := hm j i c a1 (by omega); omega
    · have := hz i j a1 e1 e2; omega
    · have := hz j i a2 e2 e1; omega
    · rcases Nat.lt_trichotomy i j with c | c | c
      · have := hm i j c a2 (by omega); omega
      · exact c
      · have := hm j i c a1 (by omega); omega
  refine ⟨fun p => ?_, fun i j _ h2 h3 => ?_⟩
  · rw [← hP p, ← so_re n q (fun a => p (s a)) hr hi]
    exact so_c_ext (fun m hm => by show p (s (q m)) = p (o m); rw [hs m hm])
  · obtain ⟨k, hk, e1⟩ := so_sur hr hi (show i < n by omega)
    obtain ⟨m, hm', e2⟩ := so_sur hr hi h3
    subst e1 e2
    rw [hs k hk, hs m hm', so_Rb_i, so_Rb_s, so_Rb_s]
    have l1 : kf (o k) % 2 ^ b < 2 ^ b := Nat.mod_lt _ (Nat.two_pow_pos b)
    have l2 : kf (o m) % 2 ^ b < 2 ^ b := Nat.mod_lt _ (Nat.two_pow_pos b)
    have key : so_bt kf b (o k) = so_bt kf b (o m) → ¬ (kf (o m) % 2 ^ b < kf (o k) % 2 ^ b ∨ (kf (o m) % 2 ^ b = kf (o k) % 2 ^ b ∧ (o m).toInt < (o k).toInt)) := fun e => by
      have c : k < m := by
        rcases Nat.lt_trichotomy k m with c | c | c
        · exact c
        · rw [c] at h2; omega
        · have := hm m k c hk e.symm; omega
      have := hS k m (by omega) c hm'
      rw [so_Rb_i] at this
      exact this
    rcases hbit (o k) with e1 | e1 <;> rcases hbit (o m) with e2 | e2
    · have := key (by omega)
      rw [e1, e2]; omega
    · rw [e1, e2]; omega
    · have := hz m k hm' e2 e1; omega
    · have := key (by omega)
      rw [e1, e2]; omega
theorem so_Rb_e {L : Nat → Int32} {kf : Int32 → Nat} {n : Nat} (hn : n < 2 ^ 31) (hk : ∀ i, i < n → (L i).toInt = (kf (nI i) : Int) - 99 ∧ kf (nI i) < 256) (hP : so_P n o) (hS : so_S (so_Rb kf 8) o 0 n) : so_S (so_B L) o 0 n := by
  intro i j h0 h1 h2
  have := hS i j h0 h1 h2
  obtain ⟨a, ha, ea⟩ := so_P_in hP (show i < n by omega)
  obtain ⟨c, hc, ec⟩ := so_P_in hP h2
  rw [so_Rb_i, ea, ec, nI_toInt (by omega), nI_toInt (by omega)] at this
  have k1 := hk a ha
  have k2 := hk c hc
  rw [Nat.mod_eq_of_lt (show kf (nI a) < 2 ^ 8 from k1.2), Nat.mod_eq_of_lt (show kf (nI c) < 2 ^ 8 from k2.2)] at this
  rw [ea, ec]
  refine so_nt fun x => this ?_
  have := (so_Bk (ky := fun i => kf (nI i)) hn (fun i hi => (hk i hi).1) hc ha).1 x
  try dsimp only at this
  omega
end
end
section
section
variable {ρ : Nat → Nat} {e l : Nat → Int32} {lo hi : Nat → Nat}
theorem so_m1 {c : Nat} (hc : c < 2 ^ 31) : ¬ nI c = -1 := fun h => by
  have := congrArg Int32.toInt h
  rw [nI_toInt hc] at this
  have e9 : (-1 : Int32).toInt = -1 := by decide
  omega
/-- two stretches: apart, or one within a half of the other -/
def so_la (lo hi ρ : Nat → Nat) (v w : Nat) : Prop :=
  hi v ≤ lo w ∨ hi w ≤ lo v ∨ (lo v ≤ lo w ∧ hi w ≤ ρ v) ∨ (ρ v + 1 ≤ lo w ∧ hi w ≤ hi v) ∨ (lo w ≤ lo v ∧ hi v ≤ ρ w) ∨ (ρ w + 1 ≤ lo v ∧ hi v ≤ hi w)
/-- the tree of the first p places: each place with the stretch of ranks that comes to it -/
def so_T (n p : Nat) (ρ : Nat → Nat) (e l : Nat → Int32) (lo hi : Nat → Nat) : Prop :=
  (lo 0 = 0 ∧ hi 0 = n) ∧ (∀ v, v < p → lo v ≤ ρ v ∧ ρ v < hi v ∧ hi v ≤ n) ∧
  (∀ v, v < p → (e v = -1 ∧ ∀ u, u < p → ¬ (lo v ≤ ρ u ∧ ρ u < ρ v)) ∨ ∃ c, v < c ∧ c < p ∧ e v = nI c ∧ lo c = lo v ∧ hi c = ρ v) ∧
  (∀ v, v < p → (l v = -1 ∧ ∀ u, u < p → ¬ (ρ v < ρ u ∧ ρ u < hi v)) ∨ ∃ c, v < c ∧ c < p ∧ l v = nI c ∧ lo c = ρ v + 1 ∧ hi c = hi v) ∧
  (∀ v w, v < p → w < p → v ≠ w → so_la lo hi ρ v w) ∧ (∀ v, p ≤ v → v < n → e v = -1 ∧ l v = -1)
theorem so_T_1 {n : Nat} (hn : 0 < n) (hr : ρ 0 < n) (h1 : ∀ v, v < n → e v = -1 ∧ l v = -1) : so_T n 1 ρ e l (fun _ => 0) (fun _ => n) := by
  refine ⟨⟨rfl, rfl⟩, fun v hv => ?_, fun v hv => Or.inl ⟨(h1 v (by omega)).1, fun u hu => ?_⟩, fun v hv => Or.inl ⟨(h1 v (by omega)).2, fun u hu => ?_⟩, fun v w a b c => by omega, fun v a b => h1 v b⟩
  · have : v = 0 := by omega
    subst this; exact ⟨Nat.zero_le _, hr, Nat.le_refl _⟩
  · have e1 : v = 0 := by omega
    have e2 : u = 0 := by omega
    subst e1 e2; omega
  · have e1 : v = 0 := by omega
    have e2 : u = 0 := by omega
    subst e1 e2; omega
theorem so_T_e {n p v : Nat} (h : so_T n p ρ e l lo hi) (hv : v < p) (hp : p < n) (hn : n < 2 ^ 31) (h0 : 0 < p) (he : e v = -1) (h1 : lo v ≤ ρ p) (h2 : ρ p < ρ v) :
    so_T n (p + 1) ρ (upd e v (nI p)) l (so_pu lo p (lo v)) (so_pu hi p (ρ v)) := by
  obtain ⟨t0, t1, t2, t3, t4, t5⟩ := h
  have hcov : ∀ u, u < p → ¬ (lo v ≤ ρ u ∧ ρ u < ρ v) := by
    rcases t2 v hv with a | ⟨c, a1, a2, a3, _⟩
    · exact a.2
    · rw [he] at a3
      exact (so_m1 (by omega) a3.symm).elim
  have bv := t1 v hv
  refine ⟨⟨by rw [so_pu_n _ _ (by omega)]; exact t0.1, by rw [so_pu_n _ _ (by omega)]; exact t0.2⟩, fun w hw => ?_, fun w hw => ?_, fun w hw => ?_, fun a b ha hb hab => ?_, fun w a b => ?_⟩
  · by_cases c : w = p
    · subst c; rw [so_pu_r, so_pu_r]; omega
    · rw [so_pu_n _ _ c, so_pu_n _ _ c]; exact t1 w (by omega)
  · by_cases c : w = p
    · subst c
      left
      rw [so_uN (by omega), so_pu_r]
      refine ⟨(t5 w (by omega) hp).1, fun u hu => ?_⟩
      by_cases d : u = w
      · subst d; omega
      · have := hcov u (by omega); omega
    · by_cases d : w = v
      · subst d
        right
        refine ⟨p, hv, by omega, so_uS, ?_, ?_⟩
        · rw [so_pu_r, so_pu_n _ _ c]
        · rw [so_pu_r]
      · rw [so_uN d, so_pu_n _ _ c]
        have bw := t1 w (by omega)
        rcases t2 w (by omega) with ⟨a1, a2⟩ | ⟨x, a1, a2, a3, a4, a5⟩
        · refine Or.inl ⟨a1, fun u hu => ?_⟩
          by_cases f : u = p
          · subst f
            have q1 := t4 v w hv (by omega) (fun z => d z.symm)
            have q2 := hcov w (by omega)
            have q3 := a2 v hv
            unfold so_la at q1
            omega
          · exact a2 u (by omega)
        · refine Or.inr ⟨x, a1, by omega, a3, ?_, ?_⟩
          · rw [so_pu_n _ _ (by omega)]; exact a4
          · rw [so_pu_n _ _ (by omega)]; exact a5
  · by_cases c : w = p
    · subst c
      left
      rw [so_pu_r]
      refine ⟨(t5 w (by omega) hp).2, fun u hu => ?_⟩
      by_cases d : u = w
      · subst d; omega
      · have := hcov u (by omega); omega
    · rw [so_pu_n _ _ c]
      have bw := t1 w (by omega)
      rcases t3 w (by omega) with ⟨a1, a2⟩ | ⟨x, a1, a2, a3, a4, a5⟩
      · refine Or.inl ⟨a1, fun u hu => ?_⟩
        by_cases f : u = p
        · subst f
          by_cases d : w = v
          · subst d; omega
          · have q1 := t4 v w hv (by omega) (fun z => d z.symm)
            have q2 := hcov w (by omega)
            have q3 := a2 v hv
            unfold so_la at q1
            omega
        · exact a2 u (by omega)
      · refine Or.inr ⟨x, a1, by omega, a3, ?_, ?_⟩
        · rw [so_pu_n _ _ (by omega)]; exact a4
        · rw [so_pu_n _ _ (by omega)]; exact a5
  · have one : ∀ w, w < p → (ρ v ≤ lo w ∨ hi w ≤ lo v ∨ (lo w ≤ lo v ∧ ρ v ≤ ρ w) ∨ (ρ w + 1 ≤ lo v ∧ ρ v ≤ hi w)) := fun w hw => by
      by_cases d : w = v
      · subst d; omega
      · have q1 := t4 v w hv hw (fun z => d z.symm)
        have q2 := hcov w hw
        have bw := t1 w hw
        unfold so_la at q1
        omega
    unfold so_la
    by_cases ca : a = p
    · rw [ca, so_pu_r, so_pu_r, so_pu_n _ _ (by omega), so_pu_n _ _ (by omega)]
      have := one b (by omega); omega
    · by_cases cb : b = p
      · rw [cb, so_pu_r, so_pu_r, so_pu_n _ _ ca, so_pu_n _ _ ca]
        have := one a (by omega); omega
      · rw [so_pu_n _ _ ca, so_pu_n _ _ ca, so_pu_n _ _ cb, so_pu_n _ _ cb]
        exact t4 a b (by omega) (by omega) hab
  · rw [so_uN (by omega)]; exact t5 w (by omega) b
theorem so_T_l {n p v : Nat} (h : so_T n p ρ e l lo hi) (hv : v < p) (hp : p < n) (hn : n < 2 ^ 31) (h0 : 0 < p) (he : l v = -1) (h1 : ρ v < ρ p) (h2 : ρ p < hi v) :
    so_T n (p + 1) ρ e (upd l v (nI p)) (so_pu lo p (ρ v + 1)) (so_pu hi p (hi v)) := by
  obtain ⟨t0, t1, t2, t3, t4, t5⟩ := h
  have hcov : ∀ u, u < p → ¬ (ρ v < ρ u ∧ ρ u < hi v) := by
    rcases t3 v hv with a | ⟨c, a1, a2, a3, _⟩
    · exact a.2
    · rw [he] at a3
      exact (so_m1 (by omega) a3.symm).elim
  have bv := t1 v hv
  refine ⟨⟨by rw [so_pu_n _ _ (by omega)]; exact t0.1, by rw [so_pu_n _ _ (by omega)]; exact t0.2⟩, fun w hw => ?_, fun w hw => ?_, fun w hw => ?_, fun a b ha hb hab => ?_, fun w a b => ?_⟩
  · by_cases c : w = p
    · subst c; rw [so_pu_r, so_pu_r]; omega
    · rw [so_pu_n _ _ c, so_pu_n _ _ c]; exact t1 w (by omega)
  · by_cases c : w = p
    · subst c
      left
      rw [so_pu_r]
      refine ⟨(t5 w (by omega) hp).1, fun u hu => ?_⟩
      by_cases d : u = w
      · subst d; omega
      · have := hcov u (by omega); omega
    · rw [so_pu_n _ _ c]
      have bw := t1 w (by omega)
      rcases t2 w (by omega) with ⟨a1, a2⟩ | ⟨x, a1, a2, a3, a4, a5⟩
      · refine Or.inl ⟨a1, fun u hu => ?_⟩
        by_cases f : u = p
        · subst f
          by_cases d : w = v
          · subst d; omega
          · have q1 := t4 v w hv (by omega) (fun z => d z.symm)
            have q2 := hcov w (by omega)
            have q3 := a2 v hv
            unfold so_la at q1
            omega
        · exact a2 u (by omega)
      · refine Or.inr ⟨x, a1, by omega, a3, ?_, ?_⟩
        · rw [so_pu_n _ _ (by omega)]; exact a4
        · rw [so_pu_n _ _ (by omega)]; exact a5
  · by_cases c : w = p
    · subst c
      left
      rw [so_uN (by omega), so_pu_r]
      refine ⟨(t5 w (by omega) hp).2, fun u hu => ?_⟩
      by_cases d : u = w
      · subst d; omega
      · have := hcov u (by omega); omega
    · by_cases d : w = v
      · subst d
        right
        refine ⟨p, hv, by omega, so_uS, ?_, ?_⟩
        · rw [so_pu_r]
        · rw [so_pu_r, so_pu_n _ _ c]
      · rw [so_uN d, so_pu_n _ _ c]
        have bw := t1 w (by omega)
        rcases t3 w (by omega) with ⟨a1, a2⟩ | ⟨x, a1, a2, a3, a4, a5⟩
        · refine Or.inl ⟨a1, fun u hu => ?_⟩
          by_cases f : u = p
          · subst f
            have q1 := t4 v w hv (by omega) (fun z => d z.symm)
            have q2 := hcov w (by omega)
            have q3 := a2 v hv
            unfold so_la at q1
            omega
          · exact a2 u (by omega)
        · refine Or.inr ⟨x, a1, by omega, a3, ?_, ?_⟩
          · rw [so_pu_n _ _ (by omega)]; exact a4
          · rw [so_pu_n _ _ (by omega)]; exact a5
  · have one : ∀ w, w < p → (hi v ≤ lo w ∨ hi w ≤ ρ v + 1 ∨ (lo w ≤ ρ v + 1 ∧ hi v ≤ ρ w) ∨ (ρ w + 1 ≤ ρ v + 1 ∧ hi v ≤ hi w)) := fun w hw => by
      by_cases d : w = v
      · subst d; omega
      · have q1 := t4 v w hv hw (fun z => d z.symm)
        have q2 := hcov w hw
        have bw := t1 w hw
        unfold so_la at q1
        omega
    unfold so_la
    by_cases ca : a = p
    · rw [ca, so_pu_r, so_pu_r, so_pu_n _ _ (by omega), so_pu_n _ _ (by omega)]
      have := one b (by omega); omega
    · by_cases cb : b = p
      · rw [cb, so_pu_r, so_pu_r, so_pu_n _ _ ca, so_pu_n _ _ ca]
        have := one a (by omega); omega
      · rw [so_pu_n _ _ ca, so_pu_n _ _ ca, so_pu_n _ _ cb, so_pu_n _ _ cb]
        exact t4 a b (by omega) (by omega) hab
  · rw [so_uN (by omega)]; exact t5 w (by omega) b
/-- the whole tree -/
def so_F (n : Nat) (ρ : Nat → Nat) (e l : Nat → Int32) (lo hi : Nat → Nat) : Prop :=
  (lo 0 = 0 ∧ hi 0 = n) ∧ (∀ v, v < n → lo v ≤ ρ v ∧ ρ v < hi v ∧ hi v ≤ n) ∧
  (∀ v, v < n → (e v = -1 ∧ lo v = ρ v) ∨ ∃ c, c < n ∧ e v = nI c ∧ lo c = lo v ∧ hi c = ρ v) ∧
  (∀ v, v < n → (l v = -1 ∧ ρ v + 1 = hi v) ∨ ∃ c, c < n ∧ l v = nI c ∧ lo c = ρ v + 1 ∧ hi c = hi v)
theorem so_F_of {n : Nat} (h : so_T n n ρ e l lo hi) (hs : ∀ k, k < n → ∃ i, i < n ∧ ρ i = k) : so_F n ρ e l lo hi := by
  obtain ⟨t0, t1, t2, t3, t4, t5⟩ := h
  refine ⟨t0, t1, fun v hv => ?_, fun v hv => ?_⟩
  · have b := t1 v hv
    rcases t2 v hv with ⟨a1, a2⟩ | ⟨c, a1, a2, a3, a4, a5⟩
    · refine Or.inl ⟨a1, ?_⟩
      obtain ⟨u, hu, eu⟩ := hs (lo v) (by omega)
      have := a2 u hu
      omega
    · exact Or.inr ⟨c, a2, a3, a4, a5⟩
  · have b := t1 v hv
    rcases t3 v hv with ⟨a1, a2⟩ | ⟨c, a1, a2, a3, a4, a5⟩
    · refine Or.inl ⟨a1, ?_⟩
      by_cases z : ρ v + 1 < n
      · obtain ⟨u, hu, eu⟩ := hs (ρ v + 1) z
        have := a2 u hu
        omega
      · omega
    · exact Or.inr ⟨c, a2, a3, a4, a5⟩
def so_tp (n : Nat) (ρ t : Nat → Nat) : Nat → Nat
  | 0 => n
  | w + 1 => ρ (t w)
/-- the walk: node nd, w waiting, d done -/
def so_K (n : Nat) (ρ lo hi : Nat → Nat) (pe : Nat → Int32) (nd : Int32) (w d : Nat) (o : Nat → Int32) : Prop :=
  ∃ t : Nat → Nat, (∀ i, i < w → pe i = nI (t i) ∧ t i < n ∧ ρ (t i) + i < n ∧ hi (t i) = so_tp n ρ t i) ∧
    ((nd = -1 ∧ d = so_tp n ρ t w) ∨ ∃ v, v < n ∧ nd = nI v ∧ lo v = d ∧ hi v = so_tp n ρ t w) ∧ (∀ v, v < n → ρ v < d → o (ρ v) = nI v)
theorem so_K_0 {n : Nat} {pe o : Nat → Int32} (h : so_F n ρ e l lo hi) (hn : 0 < n) : so_K n ρ lo hi pe 0 0 0 o :=
  ⟨fun _ => 0, fun i hi => by omega, Or.inr ⟨0, hn, rfl, h.1.1, h.1.2⟩, fun v _ h => by omega⟩
theorem so_tp_x {n w : Nat} {t t' : Nat → Nat} (h : ∀ i, i < w → t i = t' i) : so_tp n ρ t w = so_tp n ρ t' w := by
  cases w with
  | zero => rfl
  | succ w => show ρ (t w) = ρ (t' w); rw [h w (by omega)]
theorem so_K_push {n w d v : Nat} {pe o : Nat → Int32} (hF : so_F n ρ e l lo hi) (hn : n < 2 ^ 31) (h : so_K n ρ lo hi pe (nI v) w d o) (hv : v < 2 ^ 31) :
    v < n ∧ w < n ∧ so_K n ρ lo hi (upd pe w (nI v)) (e v) (w + 1) d o := by
  obtain ⟨t, h1, h2, h3⟩ := h
  rcases h2 with ⟨a, _⟩ | ⟨v', a1, a2, a3, a4⟩
  · exact (so_m1 hv a).elim
  · have : v' = v := (nI_eq (by omega) hv).1 a2.symm
    subst this
    have b := hF.2.1 v' a1
    have hw : ρ v' + w < n := by
      cases w with
      | zero => omega
      | succ w =>
        have := (h1 w (by omega)).2.2.1
        have e4 : hi v' = ρ (t w) := a4
        omega
    refine ⟨a1, by omega, so_pu t w v', fun i hi => ?_, ?_, h3⟩
    · by_cases c : i = w
      · subst c
        rw [so_uS, so_pu_r]
        refine ⟨rfl, a1, hw, ?_⟩
        rw [a4]; exact so_tp_x (fun j hj => (so_pu_n _ _ (by omega)).symm)
      · rw [so_uN c, so_pu_n _ _ c]
        have := h1 i (by omega)
        refine ⟨this.1, this.2.1, this.2.2.1, ?_⟩
        rw [this.2.2.2]; exact so_tp_x (fun j hj => (so_pu_n _ _ (by omega)).symm)
    · have e5 : so_tp n ρ (so_pu t w v') (w + 1) = ρ v' := by show ρ (so_pu t w v' w) = ρ v'; rw [so_pu_r]
      rw [e5]
      rcases hF.2.2.1 v' a1 with ⟨x1, x2⟩ | ⟨c, x1, x2, x3, x4⟩
      · exact Or.inl ⟨x1, by omega⟩
      · exact Or.inr ⟨c, x1, x2, by omega, x4⟩
theorem so_K_pop {n w d : Nat} {pe o : Nat → Int32} (hF : so_F n ρ e l lo hi) (hi' : ∀ i j, i < n → j < n → ρ i = ρ j → i = j) (h : so_K n ρ lo hi pe (-1) (w + 1) d o) (hn : n < 2 ^ 31) :
    d < n ∧ w < n ∧ ∃ v, v < n ∧ pe w = nI v ∧ so_K n ρ lo hi pe (l v) w (d + 1) (upd o d (nI v)) := by
  obtain ⟨t, h1, h2, h3⟩ := h
  rcases h2 with ⟨_, a⟩ | ⟨v', a1, a2, _⟩
  · have q := h1 w (by omega)
    have ed : d = ρ (t w) := a
    refine ⟨by omega, by omega, t w, q.2.1, q.1, t, fun i hi => h1 i (by omega), ?_, fun v hv hd => ?_⟩
    · rw [← q.2.2.2]
      rcases hF.2.2.2 (t w) q.2.1 with ⟨x1, x2⟩ | ⟨c, x1, x2, x3, x4⟩
      · exact Or.inl ⟨x1, by omega⟩
      · exact Or.inr ⟨c, x1, x2, by omega, x4⟩
    · by_cases c : ρ v = d
      · have : v = t w := hi' v (t w) hv q.2.1 (by omega)
        rw [c, this]; exact so_uS
      · rw [so_uN c]; exact h3 v hv (by omega)
  · exact (so_m1 (by omega) a2.symm).elim
/-- at the last step nothing is left -/
theorem so_K_lt {n w d : Nat} {nd : Int32} {pe o : Nat → Int32} (hF : so_F n ρ e l lo hi) (h : so_K n ρ lo hi pe nd w d o) : (nd = -1 ∧ w = 0 ∧ d = n) ∨ 2 * d + w < 2 * n := by
  obtain ⟨t, h1, h2, h3⟩ := h
  cases w with
  | zero =>
    rcases h2 with ⟨a, b⟩ | ⟨v', a1, a2, a3, a4⟩
    · exact Or.inl ⟨a, rfl, b⟩
    · have b := hF.2.1 v' a1; omega
  | succ w =>
    have q := h1 w (by omega)
    have e6 : so_tp n ρ t (w + 1) = ρ (t w) := rfl
    rw [e6] at h2
    rcases h2 with ⟨a, b⟩ | ⟨v', a1, a2, a3, a4⟩
    · omega
    · have b := hF.2.1 v' a1; omega
theorem so_K_e {n w d : Nat} {nd : Int32} {pe o : Nat → Int32} (hF : so_F n ρ e l lo hi) (hr : ∀ i, i < n → ρ i < n) (h : so_K n ρ lo hi pe nd w d o) (hd : 2 * n ≤ 2 * d + w) : ∀ v, v < n → o (ρ v) = nI v := by
  rcases so_K_lt hF h with ⟨a, b, c⟩ | a
  · obtain ⟨t, h1, h2, h3⟩ := h
    exact fun v hv => h3 v hv (by have := hr v hv; omega)
  · omega
end
end
section
section
variable {ρ τ : Nat → Nat} {n : Nat}
def so_it (f : Nat → Nat) : Nat → Nat → Nat
  | 0, i => i
  | t + 1, i => f (so_it f t i)
theorem so_it_a (f : Nat → Nat) (a b i : Nat) : so_it f (a + b) i = so_it f a (so_it f b i) := by
  induction a with
  | zero => rw [Nat.zero_add]; rfl
  | succ a ih =>
    rw [Nat.succ_add]
    show f (so_it f (a + b) i) = f (so_it f a (so_it f b i))
    rw [ih]
/-- a rearrangement of 0 .. n - 1 -/
def so_pm (n : Nat) (ρ : Nat → Nat) : Prop := (∀ i, i < n → ρ i < n) ∧ (∀ i j, i < n → j < n → ρ i = ρ j → i = j)
theorem so_it_l (h : so_pm n ρ) (t : Nat) {i : Nat} (hi : i < n) : so_it ρ t i < n := by
  induction t with
  | zero => exact hi
  | succ t ih => exact h.1 _ ih
theorem so_it_j (h : so_pm n ρ) (t : Nat) {i j : Nat} (hi : i < n) (hj : j < n) (e : so_it ρ t i = so_it ρ t j) : i = j := by
  induction t with
  | zero => exact e
  | succ t ih => exact ih (h.2 _ _ (so_it_l h t hi) (so_it_l h t hj) e)
theorem so_per2 (h : so_pm n ρ) {i a b : Nat} (hi : i < n) (hab : a < b) (e : so_it ρ a i = so_it ρ b i) : so_it ρ (b - a) i = i := by
  have e1 : a + (b - a) = b := by omega
  have e2 := so_it_a ρ a (b - a) i
  rw [e1, ← e] at e2
  exact (so_it_j h a hi (so_it_l h _ hi) e2).symm
theorem so_per (h : so_pm n ρ) {i : Nat} (hi : i < n) : ∃ T, 0 < T ∧ T ≤ n ∧ so_it ρ T i = i := by
  by_cases c : ∀ a b, a < n → b < n → so_it ρ a i = so_it ρ b i → a = b
  · obtain ⟨k, hk, e⟩ := so_sur (q := fun a => so_it ρ a i) (fun a _ => so_it_l h a hi) c (so_it_l h n hi)
    exact ⟨n - k, by omega, by omega, so_per2 h hi hk e⟩
  · have c' : ∃ a b, a < b ∧ b < n ∧ so_it ρ a i = so_it ρ b i := by
      refine Classical.byContradiction fun z => c fun a b ha hb e => ?_
      rcases Nat.lt_trichotomy a b with x | x | x
      · exact (z ⟨a, b, x, hb, e⟩).elim
      · exact x
      · exact (z ⟨b, a, x, ha, e.symm⟩).elim
    obtain ⟨a, b, h1, h2, e⟩ := c'
    exact ⟨b - a, by omega, by omega, so_per2 h hi h1 e⟩
theorem so_pers {i T : Nat} (e : so_it ρ T i = i) (k : Nat) : so_it ρ (k * T) i = i := by
  induction k with
  | zero => rw [Nat.zero_mul]; rfl
  | succ k ih => rw [Nat.add_mul, Nat.one_mul, so_it_a, e, ih]
/-- i's cycle holds j -/
def so_cy (ρ : Nat → Nat) (i j : Nat) : Prop := ∃ t, so_it ρ t i = j
theorem so_cy_r (i : Nat) : so_cy ρ i i := ⟨0, rfl⟩
theorem so_cy_t {i j k : Nat} (h1 : so_cy ρ i j) (h2 : so_cy ρ j k) : so_cy ρ i k := by
  obtain ⟨a, rfl⟩ := h1
  obtain ⟨b, rfl⟩ := h2
  exact ⟨b + a, so_it_a ρ b a i⟩
theorem so_cy_l (h : so_pm n ρ) {i j : Nat} (hi : i < n) (hc : so_cy ρ i j) : j < n := by
  obtain ⟨a, rfl⟩ := hc
  exact so_it_l h a hi
theorem so_cy_s (h : so_pm n ρ) {i j : Nat} (hi : i < n) (hc : so_cy ρ i j) : so_cy ρ j i := by
  obtain ⟨a, rfl⟩ := hc
  obtain ⟨T, h1, h2, e⟩ := so_per h hi
  refine ⟨a * T - a, ?_⟩
  have e1 : a * T - a + a = a * T := Nat.sub_add_cancel (Nat.le_mul_of_pos_right a h1)
  rw [← so_it_a, e1]
  exact so_pers e a
/-- a step back stays in the cycle -/
theorem so_cy_b (h : so_pm n ρ) (ht : ∀ k, k < n → τ k < n ∧ ρ (τ k) = k) {i j : Nat} (hi : i < n) (hc : so_cy ρ i j) : so_cy ρ i (τ j) := by
  have hj := so_cy_l h hi hc
  have h1 : so_cy ρ (τ j) j := ⟨1, (ht j hj).2⟩
  exact so_cy_t hc (so_cy_s h (ht j hj).1 h1)
/-- what is closed under steps back holds the cycle -/
theorem so_cy_c (h : so_pm n ρ) (ht : ∀ k, k < n → τ k < n ∧ ρ (τ k) = k) {M : Nat → Prop} {i : Nat} (hi : i < n) (h0 : M i) (hs : ∀ j, j < n → M j → M (τ j)) : ∀ j, so_cy ρ i j → M j := by
  intro j hc
  have hj := so_cy_l h hi hc
  obtain ⟨a, e⟩ := so_cy_s h hi hc
  induction a generalizing j with
  | zero => have : j = i := e
            rw [this]; exact h0
  | succ a ih =>
    have e2 : so_it ρ a (ρ j) = i := by
      have := so_it_a ρ a 1 j
      rw [show so_it ρ 1 j = ρ j from rfl] at this
      rw [← this]; exact e
    have h3 : M (ρ j) := ih (ρ j) (so_cy_t hc ⟨1, rfl⟩) (h.1 j hj) e2
    have h4 := hs (ρ j) (h.1 j hj) h3
    have h5 : τ (ρ j) = j := h.2 _ _ (ht _ (h.1 j hj)).1 hj (ht _ (h.1 j hj)).2
    rw [h5] at h4
    exact h4
/-- a place of an earlier place's cycle -/
def so_ea (ρ : Nat → Nat) (p j : Nat) : Prop := ∃ m, m < p ∧ so_cy ρ m j
theorem so_ea_s (p j : Nat) : so_ea ρ (p + 1) j ↔ so_ea ρ p j ∨ so_cy ρ p j := by
  constructor
  · rintro ⟨m, h1, h2⟩
    by_cases c : m = p
    · rw [c] at h2; exact Or.inr h2
    · exact Or.inl ⟨m, by omega, h2⟩
  · rintro (⟨m, h1, h2⟩ | h)
    · exact ⟨m, by omega, h2⟩
    · exact ⟨p, by omega, h⟩
theorem so_ea_y {p j : Nat} (h : so_ea ρ p p) (hc : so_cy ρ p j) : so_ea ρ p j := by
  obtain ⟨m, h1, h2⟩ := h
  exact ⟨m, h1, so_cy_t h2 hc⟩
/-- none of the cycle has been met, if its first has not -/
theorem so_ea_n (h : so_pm n ρ) {p j : Nat} (hp : p < n) (hn : ¬ so_ea ρ p p) (hc : so_cy ρ p j) : ¬ so_ea ρ p j := by
  rintro ⟨m, h1, h2⟩
  exact hn ⟨m, h1, so_cy_t h2 (so_cy_s h hp hc)⟩
theorem so_ea_i (h : so_pm n ρ) {i : Nat} (hi : i < n) : so_ea ρ i i ↔ ∃ t, so_it ρ t i < i := by
  constructor
  · rintro ⟨m, h1, h2⟩
    obtain ⟨t, e⟩ := so_cy_s h (by omega) h2
    exact ⟨t, by omega⟩
  · rintro ⟨t, e⟩
    exact ⟨so_it ρ t i, e, so_cy_s h hi ⟨t, rfl⟩⟩
/-- with the way back at T all of the cycle lies before it -/
theorem so_ea_T {i T : Nat} (hT : 0 < T) (e : so_it ρ T i = i) (hs : ∀ s, 0 < s → s < T → i < so_it ρ s i) : ¬ ∃ t, so_it ρ t i < i := by
  rintro ⟨t, ht⟩
  have e1 : so_it ρ t i = so_it ρ (t % T) i := by
    have e2 : t % T + t / T * T = t := by rw [Nat.mul_comm]; exact Nat.mod_add_div t T
    have e3 := so_it_a ρ (t % T) (t / T * T) i
    rw [e2, so_pers e] at e3
    exact e3
  rw [e1] at ht
  by_cases c : t % T = 0
  · rw [c] at ht; exact Nat.lt_irrefl _ ht
  · have := hs (t % T) (by omega) (Nat.mod_lt _ hT)
    omega
/-- marking: what the marks hold, x being the next place -/
def so_mk (n : Nat) (ρ τ : Nat → Nat) (p x s : Nat) (se : Nat → Bool) : Prop :=
  x < n ∧ so_cy ρ p x ∧ (∀ j, j < n → se j = true → so_ea ρ p j ∨ so_cy ρ p j) ∧ (∀ j, j < n → so_ea ρ p j → se j = true) ∧
  (∀ j, j < n → se j = true → ¬ so_ea ρ p j → se (τ j) = true ∨ τ j = x) ∧ (se p = true ∨ x = p) ∧ s ≤ so_c se n
theorem so_mk_0 {p : Nat} {se : Nat → Bool} (hp : p < n) (h : ∀ j, j < n → (se j = true ↔ so_ea ρ p j)) : so_mk n ρ τ p p 0 se :=
  ⟨hp, so_cy_r p, fun j hj a => Or.inl ((h j hj).1 a), fun j hj a => (h j hj).2 a, fun j hj a b => (b ((h j hj).1 a)).elim, Or.inr rfl, Nat.zero_le _⟩
theorem so_mk_s (h : so_pm n ρ) (ht : ∀ k, k < n → τ k < n ∧ ρ (τ k) = k) {p x s : Nat} {se : Nat → Bool} (hp : p < n) (hm : so_mk n ρ τ p x s se) (hx : se x = false) :
    so_mk n ρ τ p (τ x) (s + 1) (fun m => if m = x then true else se m) := by
  obtain ⟨h1, h2, h3, h4, h5, h6, h7⟩ := hm
  refine ⟨(ht x h1).1, so_cy_b h ht hp h2, fun j hj a => ?_, fun j hj a => ?_, fun j hj a b => ?_, ?_, ?_⟩
  · by_cases c : j = x
    · rw [c]; exact Or.inr h2
    · try dsimp only at a
      rw [if_neg c] at a; exact h3 j hj a
  · show (if j = x then true else se j) = true
    split
    · rfl
    · exact h4 j hj a
  · by_cases c : j = x
    · rw [c]; exact Or.inr rfl
    · try dsimp only at a
      rw [if_neg c] at a
      left
      show (if τ j = x then true else se (τ j)) = true
      split
      · rfl
      · rename_i d
        rcases h5 j hj a b with y | y
        · exact y
        · exact (d y).elim
  · left
    show (if p = x then true else se p) = true
    split
    · rfl
    · rename_i d
      rcases h6 with y | y
      · exact y
      · exact (d y.symm).elim
  · have := so_c_upd se true h1
    rw [hx, so_f0, so_t1] at this
    omega
theorem so_mk_e (h : so_pm n ρ) (ht : ∀ k, k < n → τ k < n ∧ ρ (τ k) = k) {p x s : Nat} {se : Nat → Bool} (hp : p < n) (hn : ¬ so_ea ρ p p) (hm : so_mk n ρ τ p x s se) (hx : se x = true ∨ n ≤ s) :
    ∀ j, j < n → (se j = true ↔ so_ea ρ (p + 1) j) := by
  obtain ⟨h1, h2, h3, h4, h5, h6, h7⟩ := hm
  have hx' : se x = true := by
    rcases hx with a | a
    · exact a
    · cases c : se x with
      | true => rfl
      | false =>
        have := so_c_str (p := se) (q := fun _ => true) (n := n) (fun _ _ _ => rfl) h1 c rfl
        rw [so_c_tt] at this
        omega
  have hp' : se p = true := by
    rcases h6 with a | a
    · exact a
    · rw [← a]; exact hx'
  have hall := so_cy_c h ht (M := fun j => se j = true ∧ so_cy ρ p j) hp ⟨hp', so_cy_r p⟩ (fun j hj a => by
    refine ⟨?_, so_cy_b h ht hp a.2⟩
    rcases h5 j hj a.1 (so_ea_n h hp hn a.2) with y | y
    · exact y
    · rw [y]; exact hx')
  intro j hj
  rw [so_ea_s]
  constructor
  · exact h3 j hj
  · rintro (a | a)
    · exact h4 j hj a
    · exact (hall j a).1
end
end
section
theorem pk_sub {a b : Nat} (h : b ≤ a) : nI a - nI b = nI (a - b) := by
  obtain ⟨c, rfl⟩ : ∃ c, a = c + b := ⟨a - b, by omega⟩
  rw [← nI_add, Int32.add_sub_cancel, Nat.add_sub_cancel]
theorem pk_m1 (n : Nat) : nI (n + 1) + (-1) = nI n := by
  rw [← nI_1, Int32.add_assoc, show (1 : Int32) + (-1) = 0 from rfl, Int32.add_zero]
theorem pk_mul (a b : Nat) : nI a * nI b = nI (a * b) := (Int32.ofNat_mul a b).symm
theorem pk_div {a d : Nat} (ha : a < 2 ^ 31) (h0 : 0 < d) (hd : d < 2 ^ 31) : nI a / nI d = nI (a / d) := by
  apply Int32.toInt_inj.mp
  rw [lg_idiv_nonneg (by rw [nI_toInt ha]; omega) (by rw [nI_toInt hd]; omega), nI_toInt ha, nI_toInt hd, nI_toInt (Nat.lt_of_le_of_lt (Nat.div_le_self a d) ha)]
  first | rfl | exact (Int.natCast_ediv _ _).symm
theorem pk_rem {a d : Nat} (ha : a < 2 ^ 31) (h0 : 0 < d) (hd : d < 2 ^ 31) : nI a - nI a / nI d * nI d = nI (a % d) := by
  rw [pk_div ha h0 hd, pk_mul, pk_sub (Nat.div_mul_le_self a d)]
  exact congrArg nI (by have := Nat.div_add_mod' a d; omega)
theorem pk_sub_toInt {a b : Nat} (ha : a < 2 ^ 30) (hb : b < 2 ^ 30) : (nI a - nI b).toInt = (a : Int) - b := by
  rw [Int32.toInt_sub, nI_toInt (by omega), nI_toInt (by omega)]
  exact Int.bmod_eq_of_le (by omega) (by omega)
theorem pk_ix (x : Int32) {n : Nat} (hn : n < 2 ^ 31) : x < 0 ∨ nI n ≤ x ∨ ∃ j : Nat, j < n ∧ x = nI j := by
  by_cases h : x < 0
  · exact Or.inl h
  · obtain ⟨j, hj, rfl⟩ := nI_of h
    by_cases h2 : j < n
    · exact Or.inr (Or.inr ⟨j, h2, rfl⟩)
    · exact Or.inr (Or.inl (nI_le (by omega) hj))
theorem pk_le {x y : Int32} {A B : Prop} (a b : Nat) (f : a ≤ b → A) (g : b < a → B) (hx : x = nI a := by rfl) (hy : y = nI b := by rfl) (ha : a < 2 ^ 31 := by omega) (hb : b < 2 ^ 31 := by omega) : (x ≤ y → A) ∧ (¬ x ≤ y → B) := by
  subst hx hy
  rw [nI_leI ha hb]
  exact ⟨f, fun z => g (by omega)⟩
theorem pk_lt {x y : Int32} {A B : Prop} (a b : Nat) (f : a < b → A) (g : b ≤ a → B) (hx : x = nI a := by rfl) (hy : y = nI b := by rfl) (ha : a < 2 ^ 31 := by omega) (hb : b < 2 ^ 31 := by omega) : (x < y → A) ∧ (¬ x < y → B) := by
  subst hx hy
  rw [nI_ltI ha hb]
  exact ⟨f, fun z => g (by omega)⟩
theorem pk_eq {x y : Int32} {A B : Prop} (a b : Nat) (f : a = b → A) (g : a ≠ b → B) (hx : x = nI a := by rfl) (hy : y = nI b := by rfl) (ha : a < 2 ^ 31 := by omega) (hb : b < 2 ^ 31 := by omega) : (x = y → A) ∧ (¬ x = y → B) := by
  subst hx hy
  rw [nI_eq ha hb]
  exact ⟨f, g⟩
theorem pk_in {x : Int32} (n N : Nat) (h : n < N) (hx : x = nI n := by rfl) (hN : N < 2 ^ 31 := by omega) : vp_in x N := by
  subst hx
  exact vp_in_nI h hN
theorem pk_cl {x : Int32} (n : Nat) (hx : x = nI n := by rfl) (h : n < 2 ^ 31 := by omega) : x.toNatClampNeg = n := by
  subst hx
  exact nI_clamp h
theorem pk_tn {n : Nat} (h : n < 2 ^ 32) : (nI n).toBitVec.toNat = n := Nat.mod_eq_of_lt h
theorem pk_and (x : Int32) {m : Int32} (k : Nat) (hm : m.toBitVec.toNat = 2 ^ k - 1) : x &&& m = nI (x.toBitVec.toNat % 2 ^ k) := by
  apply Int32.toBitVec_inj.mp
  apply BitVec.eq_of_toNat_eq
  rw [Int32.toBitVec_and, BitVec.toNat_and, hm, Nat.and_two_pow_sub_one_eq_mod]
  show _ = (BitVec.ofNat 32 _).toNat
  rw [BitVec.toNat_ofNat]
  exact (Nat.mod_eq_of_lt (Nat.lt_of_le_of_lt (Nat.mod_le _ _) x.toBitVec.isLt)).symm
theorem pk_andN {n : Nat} (h : n < 2 ^ 32) {m : Int32} (k : Nat) (hm : m.toBitVec.toNat = 2 ^ k - 1) : nI n &&& m = nI (n % 2 ^ k) := by
  rw [pk_and _ k hm, pk_tn h]
theorem pk_shr (a s : Int32) (k : Nat) (hs : (s.toBitVec.smod 32).toNat = k) : (a >>> s).toInt = a.toInt >>> k := by
  show (a.toBitVec.sshiftRight (s.toBitVec.smod 32).toNat).toInt = _
  rw [hs, BitVec.toInt_sshiftRight]
  rfl
theorem pk_shrN {n : Nat} (h : n < 2 ^ 31) (s : Int32) (k : Nat) (hs : (s.toBitVec.smod 32).toNat = k) : nI n >>> s = nI (n / 2 ^ k) := by
  apply Int32.toInt_inj.mp
  have h2 : n / 2 ^ k ≤ n := Nat.div_le_self _ _
  rw [pk_shr _ _ k hs, nI_toInt h, nI_toInt (by omega), Int.shiftRight_eq_div_pow]
  rfl
theorem sb_m1 {p : Nat} (h : 0 < p) : nI p + (-1) = nI (p - 1) := by
  obtain ⟨q, rfl⟩ : ∃ q, p = q + 1 := ⟨p - 1, by omega⟩
  exact pk_m1 q
theorem s_l : ∀ n, n < 32 → ((nI n &&& 31).toBitVec.smod 32).toNat = n := by decide +kernel
end
section
theorem so_cv {v s m k : Int} (h0 : 0 ≤ k) (hk : k ≤ m) (h1 : -99 ≤ v) (h2 : v ≤ 99) (h3 : -99 ≤ v + m * s) (h4 : v + m * s ≤ 99) : -99 ≤ v + k * s ∧ v + k * s ≤ 99 := by
  rcases Int.le_total 0 s with hs | hs
  · have e1 := Int.mul_le_mul_of_nonneg_right hk hs
    have e2 := Int.mul_nonneg h0 hs
    omega
  · have e1 := Int.mul_le_mul_of_nonpos_right hk hs
    have e2 := Int.mul_nonpos_of_nonneg_of_nonpos h0 hs
    omega
theorem so_vks {v s : Int32} {k : Nat} (hv1 : -99 ≤ v.toInt) (hv2 : v.toInt ≤ 99) (hs1 : -99 ≤ s.toInt) (hs2 : s.toInt ≤ 99) (hk : k ≤ 40) : (v + nI k * s).toInt = v.toInt + (k : Int) * s.toInt := by
  have e0 : (nI k).toInt = (k : Int) := nI_toInt (by omega)
  have b1 : -3960 ≤ (k : Int) * s.toInt ∧ (k : Int) * s.toInt ≤ 3960 := by
    have a1 := Int.mul_le_mul_of_nonneg_left (c := (k : Int)) hs1 (by omega)
    have a2 := Int.mul_le_mul_of_nonneg_left (c := (k : Int)) hs2 (by omega)
    omega
  have e1 : (nI k * s).toInt = (k : Int) * s.toInt := by
    rw [Int32.toInt_mul, e0]
    exact Int.bmod_eq_of_le (by omega) (by omega)
  rw [Int32.toInt_add, e1]
  exact Int.bmod_eq_of_le (by omega) (by omega)
theorem so_neg {x : Int32} (h1 : -99 ≤ x.toInt) (h2 : x.toInt ≤ 99) : (-x).toInt = -x.toInt := by
  rw [Int32.toInt_neg]
  exact Int.bmod_eq_of_le (by omega) (by omega)
theorem so_99 : (99 : Int32).toInt = 99 := by decide
theorem so_m99 : (-99 : Int32).toInt = -99 := by decide
theorem so_le99 {x : Int32} : x ≤ 99 ↔ x.toInt ≤ 99 := by rw [Int32.le_iff_toInt_le, so_99]
theorem so_ge99 {x : Int32} : -99 ≤ x ↔ -99 ≤ x.toInt := by rw [Int32.le_iff_toInt_le, so_m99]
theorem so_key {x : Int32} (h1 : -99 ≤ x.toInt) (h2 : x.toInt ≤ 99) : ∃ k : Nat, k < 199 ∧ x - (-99) = nI k ∧ x.toInt = (k : Int) - 99 := by
  have e1 : (x - (-99)).toInt = x.toInt + 99 := by
    rw [Int32.toInt_sub, so_m99]
    exact (Int.bmod_eq_of_le (by omega) (by omega)).trans (by omega)
  obtain ⟨k, hk⟩ := Int.eq_ofNat_of_zero_le (show 0 ≤ x.toInt + 99 by omega)
  refine ⟨k, by omega, ?_, by omega⟩
  apply Int32.toInt_inj.mp
  rw [e1, nI_toInt (by omega), hk]
end
section
theorem xe_n10 : ¬ (1 : Int32) = 0 := by decide
theorem xe_n20 : ¬ (2 : Int32) = 0 := by decide
theorem so_Bi (A : Nat → Int32) (x y : Int32) : so_B A x y = true ↔ (A x.toNatClampNeg).toInt < (A y.toNatClampNeg).toInt ∨ ((A x.toNatClampNeg).toInt = (A y.toNatClampNeg).toInt ∧ x.toInt < y.toInt) := so_Li _ x y
theorem so_P_v {c k : Nat} {o : Nat → Int32} (h : so_P c o) (hc : c ≤ 40) (hk : k < c) : vp_in (o k) 40 := by
  obtain ⟨i, hi, e⟩ := so_P_in h hk
  rw [e]; exact vp_in_nI (by omega) (by omega)
section
variable {A F G sp rl rh st ec lc pe se le : Nat → Int32} {fc : Int32} {c : Nat}
theorem xb {post : Int32 → Prop} {x y : Int32} (hx : vp_in x 40) (hy : vp_in y 40) (ht : so_B A x y = true → post 1) (hf : so_B A x y = false → post 0) :
    wpX_isBefore post (fc, A, F, G, sp, rl, rh, st, ec, lc, pe, se, le) x y := by
  have hi := so_Bi A x y
  refine ⟨hx, hy, br_c (fun e => br_c (fun l => hf (so_nt fun z => ?_)) (fun l => ht ?_)) (fun e => ⟨hx, hy, br_c (fun l => hf (so_nt fun z => ?_)) (fun l => ht ?_)⟩)⟩
  · rw [Int32.le_iff_toInt_le] at l
    rw [hi, e] at z
    omega
  · rw [Int32.le_iff_toInt_le] at l
    rw [hi, e]
    omega
  · rw [Int32.le_iff_toInt_le] at l
    have e' : (A x.toNatClampNeg).toInt ≠ (A y.toNatClampNeg).toInt := fun q => e (Int32.toInt_inj.1 q)
    rw [hi] at z
    omega
  · rw [Int32.le_iff_toInt_le] at l
    rw [hi]
    omega
theorem xrk4 {post : Int32 → Prop} {i : Nat} (hc : c ≤ 40) (hi : i < 40) (K : post (nI (so_rk (so_B A) c (nI i)))) : ∀ n k r : Nat, c < n + k → k ≤ c → r = so_c (fun m => so_B A (nI m) (nI i)) k →
    wX_rankOf_4 post (nI i) (nI c) A F G sp rl rh st ec lc pe se le n (nI r) (nI k) := by
  intro n
  induction n with
  | zero => intro k r h1 h2; omega
  | succ n ih =>
    intro k r h1 h2 hr
    rw [wX_rankOf_4]
    refine pk_le c k (fun e => ?_) (fun e => xb (vp_in_nI (by omega) (by omega)) (vp_in_nI hi (by omega)) (fun t => br_f xe_n10 (nm_r (nI_1 r) (nm_r (nI_1 k) (ih (k + 1) (r + 1) (by omega) (by omega) ?_)))) (fun f => br_t rfl (nm_r (nI_1 k) (ih (k + 1) r (by omega) (by omega) ?_))))
    · have : k = c := by omega
      rw [hr, this]; exact K
    · rw [so_cs, t, so_t1, hr]
    · rw [so_cs, f, so_f0, hr]; rfl
theorem xrk {post : Int32 → Prop} {i : Nat} (hc : c ≤ 40) (hi : i < 40) (K : post (nI (so_rk (so_B A) c (nI i)))) :
    wpX_rankOf post (nI c, A, F, G, sp, rl, rh, st, ec, lc, pe, se, le) (nI i) :=
  ⟨c + 1, xrk4 hc hi K (c + 1) 0 0 (by omega) (by omega) rfl⟩
theorem xky {post : Int32 → Prop} {i : Nat} (hi : i < 40) (K : post (A i - (-99))) : wpX_keyOf post (fc, A, F, G, sp, rl, rh, st, ec, lc, pe, se, le) (nI i) := by
  have e : (nI i).toNatClampNeg = i := nI_clamp (by omega)
  refine ⟨vp_in_nI hi (by omega), ?_⟩
  rw [e]; exact K
theorem xswn {post : SX → Prop} {i j : Nat} (hi : i < 40) (hj : j < 40) (h : post (fc, so_w A i j, F, G, sp, rl, rh, st, ec, lc, pe, se, le)) :
    wpX_swap__numbers post (fc, A, F, G, sp, rl, rh, st, ec, lc, pe, se, le) (nI i) (nI j) := by
  have ei : (nI i).toNatClampNeg = i := nI_clamp (by omega)
  have ej : (nI j).toNatClampNeg = j := nI_clamp (by omega)
  have vi : vp_in (nI i) 40 := vp_in_nI hi (by omega)
  have vj : vp_in (nI j) 40 := vp_in_nI hj (by omega)
  exact ⟨vi, nm_r (e' := A i) (by rw [ei]) ⟨vj, vi, nm_r (e' := upd A i (A j)) (by rw [ei, ej]) ⟨vj, nm_r (e' := so_w A i j) (by rw [ej]; rfl) h⟩⟩⟩
theorem xcpn3 {post : SX → Prop} {b : Nat} (hb : b ≤ 40) {a : Nat} {A0 : Nat → Int32} (K : post (fc, so_cp A0 sp a b, F, G, sp, rl, rh, st, ec, lc, pe, se, le)) : ∀ n k : Nat, b < n + k → a ≤ k → k ≤ b →
    wX_copyRange__spare_numbers_3 post (nI b) fc n (nI k) (so_cp A0 sp a k) F G sp rl rh st ec lc pe se le := by
  intro n
  induction n with
  | zero => intro k h1 h2; omega
  | succ n ih =>
    intro k h1 h2 h3
    rw [wX_copyRange__spare_numbers_3]
    have ck : (nI k).toNatClampNeg = k := nI_clamp (by omega)
    refine pk_le b k (fun e => ?_) (fun e => ⟨vp_in_nI (by omega) (by omega), vp_in_nI (by omega) (by omega), nm_r (e' := so_cp A0 sp a (k + 1)) (by rw [ck, so_cp_s A0 sp h2]) (nm_r (nI_1 k) (ih (k + 1) (by omega) (by omega) (by omega)))⟩)
    have : k = b := by omega
    rw [this]; exact K
theorem xcpn {post : SX → Prop} {a b : Nat} (hab : a ≤ b) (hb : b ≤ 40) (K : post (fc, so_cp A sp a b, F, G, sp, rl, rh, st, ec, lc, pe, se, le)) :
    wpX_copyRange__spare_numbers post (fc, A, F, G, sp, rl, rh, st, ec, lc, pe, se, le) (nI a) (nI b) := by
  refine ⟨b + 1, ?_⟩
  have h := xcpn3 (fc := fc) hb K (b + 1) a (by omega) (by omega) hab
  rw [so_cp_0] at h
  exact h
theorem xar_t {post : Int32 → SX → Prop} {r a b : Nat} (hr : r < 40) (hab : a < b) (hb : b < 40) (K : post (nI (r + 1)) (fc, A, F, G, sp, upd rl r (nI a), upd rh r (nI b), st, ec, lc, pe, se, le)) :
    wpX_addRange post (fc, A, F, G, sp, rl, rh, st, ec, lc, pe, se, le) (nI r) (nI a) (nI b) := by
  have er : (nI r).toNatClampNeg = r := nI_clamp (by omega)
  have vr : vp_in (nI r) 40 := vp_in_nI hr (by omega)
  refine br_t (nI_lt hab (by omega)) ⟨vr, nm_r (e' := upd rl r (nI a)) (by rw [er]) ⟨vr, nm_r (e' := upd rh r (nI b)) (by rw [er]) ?_⟩⟩
  rw [nI_1]; exact K
theorem xar_f {post : Int32 → SX → Prop} {r x y : Int32} (hxy : ¬ x < y) (K : post r (fc, A, F, G, sp, rl, rh, st, ec, lc, pe, se, le)) :
    wpX_addRange post (fc, A, F, G, sp, rl, rh, st, ec, lc, pe, se, le) r x y := br_f hxy K
/-- a place hung into the tree -/
theorem xht4 {post : SX → Prop} {ρ : Nat → Nat} {lo hi : Nat → Nat} {p : Nat} (hc : c ≤ 40) (hρ : ∀ i, i < c → ρ i = so_rk (so_B A) c (nI i)) (hp0 : 0 < p) (hp : p < c) (hT : so_T c p ρ ec lc lo hi)
    (K : ∀ ec' lc' lo' hi', so_T c (p + 1) ρ ec' lc' lo' hi' → post (nI c, A, F, G, sp, rl, rh, st, ec', lc', pe, se, le)) :
    ∀ n v d : Nat, c < n + d → d ≤ v → v < p → lo v ≤ ρ p → ρ p < hi v → wX_hangInTree_4 post (nI p) (nI c) A F G sp rl rh st ec lc pe se le n (nI v) (nI d) := by
  intro n
  induction n with
  | zero => intro v d h1 h2 h3; omega
  | succ n ih =>
    intro v d h1 h2 h3 h4 h5
    rw [wX_hangInTree_4]
    have cv : (nI v).toNatClampNeg = v := nI_clamp (by omega)
    have vv : vp_in (nI v) 40 := vp_in_nI (by omega) (by omega)
    have hB := so_BO A
    have hne : ρ v ≠ ρ p := fun e => by
      rw [hρ v (by omega), hρ p hp] at e
      have := so_rk_inj hB (by omega) (by omega) hp e
      omega
    have hiff := so_rk_iff hB (n := c) hp (show v < c by omega)
    rw [← hρ p hp, ← hρ v (by omega)] at hiff
    refine br_f (nI_ge (by omega) (by omega)) (xb (vp_in_nI (by omega) (by omega)) vv (fun t => ?_) (fun f => ?_))
    · have hlt := hiff.1 t
      refine br_f xe_n10 ⟨vv, ?_⟩
      rw [cv]
      rcases hT.2.2.1 v h3 with ⟨a1, a2⟩ | ⟨x, a1, a2, a3, a4, a5⟩
      · exact br_t a1 (br_f xe_n10 ⟨vv, nm_r (e' := upd ec v (nI p)) (by rw [cv]) (K _ _ _ _ (so_T_e hT h3 hp (by omega) hp0 a1 h4 hlt))⟩)
      · rw [a3]
        exact br_f (so_m1 (by omega)) (br_f (so_m1 (by omega)) (nm_r (nI_1 d) (ih x (d + 1) (by omega) (by omega) a2 (by omega) (by omega))))
    · have hlt : ρ v < ρ p := by
        have : ¬ ρ p < ρ v := fun z => so_tf (hiff.2 z) f
        omega
      refine br_t rfl ⟨vv, ?_⟩
      rw [cv]
      rcases hT.2.2.2.1 v h3 with ⟨a1, a2⟩ | ⟨x, a1, a2, a3, a4, a5⟩
      · exact br_t a1 (br_t rfl (br_t a1 ⟨vv, nm_r (e' := upd lc v (nI p)) (by rw [cv]) (K _ _ _ _ (so_T_l hT h3 hp (by omega) hp0 a1 hlt h5))⟩))
      · rw [a3]
        exact br_f (so_m1 (by omega)) (br_f (so_m1 (by omega)) (nm_r (nI_1 d) (ih x (d + 1) (by omega) (by omega) a2 (by omega) (by omega))))
theorem xht {post : SX → Prop} {ρ : Nat → Nat} {lo hi : Nat → Nat} {p : Nat} (hc : c ≤ 40) (hρ : ∀ i, i < c → ρ i = so_rk (so_B A) c (nI i)) (hp0 : 0 < p) (hp : p < c) (hT : so_T c p ρ ec lc lo hi)
    (K : ∀ ec' lc' lo' hi', so_T c (p + 1) ρ ec' lc' lo' hi' → post (nI c, A, F, G, sp, rl, rh, st, ec', lc', pe, se, le)) :
    wpX_hangInTree post (nI c, A, F, G, sp, rl, rh, st, ec, lc, pe, se, le) (nI p) := by
  refine ⟨c + 1, xht4 hc hρ hp0 hp hT K (c + 1) 0 0 (by omega) (by omega) hp0 ?_ ?_⟩
  · rw [hT.1.1]; omega
  · rw [hT.1.2, hρ p hp]; exact so_rk_lt (so_BO A) hp
end
def so_kn (x : Int32) : Nat := (x - (-99)).toNatClampNeg
theorem so_knk {x : Int32} (h1 : -99 ≤ x.toInt) (h2 : x.toInt ≤ 99) : so_kn x < 199 ∧ x - (-99) = nI (so_kn x) ∧ x.toInt = (so_kn x : Int) - 99 := by
  obtain ⟨k, hk, e1, e2⟩ := so_key h1 h2
  have e3 : so_kn x = k := by unfold so_kn; rw [e1]; exact nI_clamp (by omega)
  rw [e3]; exact ⟨hk, e1, e2⟩
/-- the numbers are within their bounds -/
def so_R (A : Nat → Int32) (c : Nat) : Prop := ∀ i, i < c → -99 ≤ (A i).toInt ∧ (A i).toInt ≤ 99
def so_kf (A : Nat → Int32) (x : Int32) : Nat := so_kn (A x.toNatClampNeg)
theorem so_kfn {A : Nat → Int32} {i : Nat} (hi : i < 2 ^ 31) : so_kf A (nI i) = so_kn (A i) := by unfold so_kf; rw [nI_clamp hi]
theorem so_P_x {n : Nat} {o s : Nat → Int32} (h : ∀ m, m < n → o m = s m) (hP : so_P n s) : so_P n o := fun p => by
  rw [← hP p]; exact so_c_ext (fun m hm => by rw [h m hm])
theorem so_S_x {B : Int32 → Int32 → Bool} {n : Nat} {o s : Nat → Int32} (h : ∀ m, m < n → o m = s m) (hS : so_S B s 0 n) : so_S B o 0 n := fun i j a b d => by
  rw [h i (by omega), h j d]; exact hS i j a b d
theorem so_bit {k b : Nat} (hk : k < 199) (hb : b < 8) : (nI k >>> (nI b &&& 31)) &&& 1 = nI (k / 2 ^ b % 2) := by
  rw [pk_shrN (by omega) (nI b &&& 31) b (s_l b (by omega))]
  exact pk_andN (Nat.lt_of_le_of_lt (Nat.div_le_self _ _) (by omega)) 1 (by decide)
/-- counting, third loop -/
def so_c3 (ky : Nat → Nat) (c k j : Nat) : Nat := if j < k then so_c (fun m => decide (ky m < j)) c else so_c (fun m => decide (ky m + 1 = j)) c
theorem so_c3_1 (ky : Nat → Nat) (c j : Nat) : so_c3 ky c 1 j = so_c (fun m => decide (ky m + 1 = j)) c := by
  unfold so_c3
  by_cases h : j < 1
  · rw [if_pos h]
    refine so_c_ext (fun m _ => ?_)
    rw [decide_eq_false (by omega), decide_eq_false (by omega)]
  · rw [if_neg h]
theorem so_c3_s (ky : Nat → Nat) (c k : Nat) : so_c3 ky c (k + 1) (k + 1) + so_c3 ky c (k + 1) k = so_c3 ky c (k + 2) (k + 1) := by
  unfold so_c3
  rw [if_neg (by omega), if_pos (by omega), if_pos (by omega)]
  symm
  refine so_c_or (fun m _ => ?_)
  by_cases a : ky m < k
  · rw [decide_eq_true (show ky m < k + 1 by omega), decide_eq_false (show ¬ ky m + 1 = k + 1 by omega), decide_eq_true a]; rfl
  · by_cases b : ky m = k
    · rw [decide_eq_true (show ky m < k + 1 by omega), decide_eq_true (show ky m + 1 = k + 1 by omega), decide_eq_false a]; rfl
    · rw [decide_eq_false (show ¬ ky m < k + 1 by omega), decide_eq_false (show ¬ ky m + 1 = k + 1 by omega), decide_eq_false a]; rfl
theorem so_c3_o (ky : Nat → Nat) (c k j : Nat) (h : j ≠ k + 1) : so_c3 ky c (k + 2) j = so_c3 ky c (k + 1) j := by
  unfold so_c3
  by_cases a : j < k + 1
  · rw [if_pos a, if_pos (by omega)]
  · rw [if_neg a, if_neg (by omega)]
theorem so_c3_e (ky : Nat → Nat) (c j : Nat) (h : j < 200) : so_c3 ky c 200 j = so_c (fun m => decide (ky m < j)) c := if_pos h
end
section
section
variable {A h sp rl rh st ec lc pe se le : Nat → Int32} {fc : Int32} {c : Nat}
theorem xsw1 {post : SX → Prop} {o : Nat → Int32} {i j : Nat} (hi : i < 40) (hj : j < 40) (K : post (nI c, A, so_w o i j, h, sp, rl, rh, st, ec, lc, pe, se, le)) :
    wpX_swap__firstOrder post (nI c, A, o, h, sp, rl, rh, st, ec, lc, pe, se, le) (nI i) (nI j) := by
  have ei : (nI i).toNatClampNeg = i := nI_clamp (by omega)
  have ej : (nI j).toNatClampNeg = j := nI_clamp (by omega)
  have vi : vp_in (nI i) 40 := vp_in_nI hi (by omega)
  have vj : vp_in (nI j) 40 := vp_in_nI hj (by omega)
  exact ⟨vi, nm_r (e' := o i) (by rw [ei]) ⟨vj, vi, nm_r (e' := upd o i (o j)) (by rw [ei, ej]) ⟨vj, nm_r (e' := so_w o i j) (by rw [ej]; rfl) K⟩⟩⟩
theorem xmv6_1 {post : SX → Prop} {o0 : Nat → Int32} {g s : Nat} (hc : c ≤ 40) (hg : 0 < g) (hg' : g ≤ 40) (hs : s < c)
    (K : ∀ o', so_P c o' → (g = 1 → so_S (so_B A) o0 0 s → so_S (so_B A) o' 0 (s + 1)) → post (nI c, A, o', h, sp, rl, rh, st, ec, lc, pe, se, le)) :
    ∀ (n k m : Nat) (o : Nat → Int32), c < n + m → m ≤ c → so_P c o → k < c → (g = 1 → so_S (so_B A) o0 0 s → so_I (so_B A) o k s ∧ k + m = s) →
    wX_moveForward__firstOrder_6 post (nI g) n (nI k) (nI m) (nI c) A o h sp rl rh st ec lc pe se le := by
  intro n
  induction n with
  | zero => intro k m o h1 h2; omega
  | succ n ih =>
    intro k m o h1 hm hP hk hI
    rw [wX_moveForward__firstOrder_6]
    have hB := so_BO A
    refine pk_le c m (fun e => K o hP (fun e1 e2 => ?_)) (fun e => pk_lt k g (fun e' => K o hP (fun e1 e2 => ?_)) (fun e' => ⟨vp_in_nI (by omega) (by omega), ?_⟩))
    · have := (hI e1 e2).2; omega
    · have h3 := (hI e1 e2).1
      have : k = 0 := by omega
      rw [this] at h3
      exact so_Ie0 h3
    · have e3 : nI k - nI g = nI (k - g) := pk_sub e'
      rw [e3, nI_clamp (n := k) (by omega), nI_clamp (n := k - g) (by omega)]
      refine ⟨vp_in_nI (by omega) (by omega), xb (so_P_v hP hc hk) (so_P_v hP hc (by omega)) (fun t => br_f xe_n10 (xsw1 (by omega) (by omega) ?_)) (fun f => br_t rfl (K o hP (fun e1 e2 => ?_)))⟩
      · refine nm_r rfl (nm_r (nI_1 m) (ih (k - g) (m + 1) _ (by omega) (by omega) (so_P_w hP hk (by omega)) (by omega) (fun e1 e2 => ?_)))
        obtain ⟨h3, h4⟩ := hI e1 e2
        obtain ⟨q, rfl⟩ : ∃ q, k = q + 1 := ⟨k - 1, by omega⟩
        have e5 : q + 1 - g = q := by omega
        rw [e5] at t ⊢
        exact ⟨so_Is hB h3 (by omega) t, by omega⟩
      · obtain ⟨h3, h4⟩ := hI e1 e2
        obtain ⟨q, rfl⟩ : ∃ q, k = q + 1 := ⟨k - 1, by omega⟩
        have e5 : q + 1 - g = q := by omega
        rw [e5] at f
        exact so_Ie hB h3 f
theorem xmv1 {post : SX → Prop} {o : Nat → Int32} {g s : Nat} (hc : c ≤ 40) (hg : 0 < g) (hg' : g ≤ 40) (hs : s < c) (hP : so_P c o)
    (K : ∀ o', so_P c o' → (g = 1 → so_S (so_B A) o 0 s → so_S (so_B A) o' 0 (s + 1)) → post (nI c, A, o', h, sp, rl, rh, st, ec, lc, pe, se, le)) :
    wpX_moveForward__firstOrder post (nI c, A, o, h, sp, rl, rh, st, ec, lc, pe, se, le) (nI s) (nI g) :=
  ⟨c + 1, xmv6_1 hc hg hg' hs K (c + 1) s 0 o (by omega) (by omega) hP hs (fun _ h2 => ⟨so_I0 h2, rfl⟩)⟩
theorem xin2_1 {post : SX → Prop} (hc : c ≤ 40) (K : ∀ o', so_P c o' → so_S (so_B A) o' 0 c → post (nI c, A, o', h, sp, rl, rh, st, ec, lc, pe, se, le)) :
    ∀ (n k : Nat) (o : Nat → Int32), 41 < n + k → k ≤ 41 → so_P c o → so_S (so_B A) o 0 k → wX_orderByInsertion__firstOrder_2 post n (nI k) (nI c) A o h sp rl rh st ec lc pe se le := by
  intro n
  induction n with
  | zero =>
    intro k o h1 h2 hP hS
    omega
  | succ n ih =>
    intro k o h1 h2 hP hS
    rw [wX_orderByInsertion__firstOrder_2]
    exact pk_le c k (fun e => K o hP (fun i j a b d => hS i j a b (by omega))) (fun e => xmv1 (g := 1) hc (by omega) (by omega) e hP (fun o' hP' hS' => nm_r (nI_1 k) (ih (k + 1) o' (by omega) (by omega) hP' (hS' rfl hS))))
theorem xin1 {post : SX → Prop} {o : Nat → Int32} (hc : c ≤ 40) (hP : so_P c o) (K : ∀ o', so_P c o' → so_S (so_B A) o' 0 c → post (nI c, A, o', h, sp, rl, rh, st, ec, lc, pe, se, le)) :
    wpX_orderByInsertion__firstOrder post (nI c, A, o, h, sp, rl, rh, st, ec, lc, pe, se, le) :=
  ⟨42, xin2_1 hc K 42 1 o (by omega) (by omega) hP (fun i j a b d => by omega)⟩
theorem xga13_1 {post : SX → Prop} {J : Int32 → Int32 → (Nat → Int32) → (Nat → Int32) → (Nat → Int32) → (Nat → Int32) → (Nat → Int32) → (Nat → Int32) → (Nat → Int32) → (Nat → Int32) → (Nat → Int32) → (Nat → Int32) → (Nat → Int32) → (Nat → Int32) → Prop} {g : Nat}
    (hc : c ≤ 40) (hg : 0 < g) (hg' : g ≤ 40) (K : ∀ o', so_P c o' → (g = 1 → so_S (so_B A) o' 0 c) → J (nI (g / 2)) (nI c) A o' h sp rl rh st ec lc pe se le) :
    ∀ (n k : Nat) (o : Nat → Int32), 41 < n + k → k ≤ 41 → so_P c o → (g = 1 → so_S (so_B A) o 0 k) → wX_orderByGaps__firstOrder_13 post J (nI g) n (nI k) (nI c) A o h sp rl rh st ec lc pe se le := by
  intro n
  induction n with
  | zero => intro k o h1 h2 hP hS; omega
  | succ n ih =>
    intro k o h1 h2 hP hS
    rw [wX_orderByGaps__firstOrder_13]
    exact pk_le c k (fun e => ⟨xe_n20, nm_r (pk_div (a := g) (d := 2) (by omega) (by omega) (by omega)) (K o hP (fun e1 i j a b d => hS e1 i j a b (by omega)))⟩)
      (fun e => xmv1 hc hg hg' e hP (fun o' hP' hS' => nm_r (nI_1 k) (ih (k + 1) o' (by omega) (by omega) hP' (fun e1 => hS' e1 (hS e1)))))
theorem xga7_1 {post : SX → Prop} (hc : c ≤ 40) (K : ∀ o', so_P c o' → so_S (so_B A) o' 0 c → post (nI c, A, o', h, sp, rl, rh, st, ec, lc, pe, se, le)) :
    ∀ (n g : Nat) (o : Nat → Int32), g < n → g ≤ 40 → so_P c o → (g = 0 → so_S (so_B A) o 0 c) → wX_orderByGaps__firstOrder_7 post n (nI g) (nI c) A o h sp rl rh st ec lc pe se le := by
  intro n
  induction n with
  | zero => intro g o h1; omega
  | succ n ih =>
    intro g o h1 h2 hP hS
    rw [wX_orderByGaps__firstOrder_7]
    refine pk_le g 0 (fun e => K o hP (hS (by omega))) (fun e => ⟨42, xga13_1 hc e h2 (fun o' hP' hS' => ih (g / 2) o' (by omega) (by omega) hP' (fun e1 => hS' (by omega))) 42 g o (by omega) (by omega) hP (fun e1 i j a b d => by omega)⟩)
theorem xga1 {post : SX → Prop} {o : Nat → Int32} (hc : c ≤ 40) (hP : so_P c o) (K : ∀ o', so_P c o' → so_S (so_B A) o' 0 c → post (nI c, A, o', h, sp, rl, rh, st, ec, lc, pe, se, le)) :
    wpX_orderByGaps__firstOrder post (nI c, A, o, h, sp, rl, rh, st, ec, lc, pe, se, le) :=
  ⟨xe_n20, nm_r (pk_div (a := c) (d := 2) (by omega) (by omega) (by omega)) ⟨c + 1, xga7_1 hc K (c + 1) (c / 2) o (by omega) (by omega) hP (fun e i j a b d => by omega)⟩⟩
theorem xse17_1 {post : SX → Prop} {J : Int32 → Int32 → (Nat → Int32) → (Nat → Int32) → (Nat → Int32) → (Nat → Int32) → (Nat → Int32) → (Nat → Int32) → (Nat → Int32) → (Nat → Int32) → (Nat → Int32) → (Nat → Int32) → (Nat → Int32) → (Nat → Int32) → Prop} {k : Nat} {o : Nat → Int32}
    (hc : c ≤ 40) (hk : k < c) (hP : so_P c o) (hS : so_Se (so_B A) o k c) (K : ∀ o', so_P c o' → so_Se (so_B A) o' (k + 1) c → J (nI (k + 1)) (nI c) A o' h sp rl rh st ec lc pe se le) :
    ∀ (n f j : Nat), c < n + j → j ≤ c → k ≤ j → k ≤ f → f < c → (∀ m, k ≤ m → m < j → so_B A (o m) (o f) = false) → wX_orderBySelection__firstOrder_17 post J (nI k) (nI c) A o h sp rl rh st ec lc pe se le n (nI f) (nI j) := by
  intro n
  induction n with
  | zero => intro f j h1 h2; omega
  | succ n ih =>
    intro f j h1 h2 hkj h3 h4 h5
    rw [wX_orderBySelection__firstOrder_17]
    refine pk_le c j (fun e => xsw1 (by omega) (by omega) (nm_r (nI_1 k) (K _ (so_P_w hP hk h4) (so_Se_s hS h3 h4 (fun m a b => h5 m a (by omega))))))
      (fun e => ⟨vp_in_nI (by omega) (by omega), vp_in_nI (by omega) (by omega), ?_⟩)
    rw [nI_clamp (n := j) (by omega), nI_clamp (n := f) (by omega)]
    exact xb (so_P_v hP hc e) (so_P_v hP hc h4) (fun t => br_f xe_n10 (nm_r (nI_1 j) (ih j (j + 1) (by omega) (by omega) (by omega) (by omega) e (so_Se_m (so_BO A) h5 t)))) (fun t => br_t rfl (nm_r (nI_1 j) (ih f (j + 1) (by omega) (by omega) (by omega) h3 h4 (so_Se_k h5 t))))
theorem xse2_1 {post : SX → Prop} (hc : c ≤ 40) (K : ∀ o', so_P c o' → so_S (so_B A) o' 0 c → post (nI c, A, o', h, sp, rl, rh, st, ec, lc, pe, se, le)) :
    ∀ (n k : Nat) (o : Nat → Int32), c < n + k → k ≤ c → so_P c o → so_Se (so_B A) o k c → wX_orderBySelection__firstOrder_2 post n (nI k) (nI c) A o h sp rl rh st ec lc pe se le := by
  intro n
  induction n with
  | zero => intro k o h1 h2; omega
  | succ n ih =>
    intro k o h1 h2 hP hS
    rw [wX_orderBySelection__firstOrder_2]
    refine pk_le c k (fun e => K o hP (so_Se_e hS e)) (fun e => nm_r (nI_1 k) ⟨c + 1, xse17_1 hc e hP hS (fun o' hP' hS' => ih (k + 1) o' (by omega) (by omega) hP' hS') (c + 1) k (k + 1) (by omega) (by omega) (by omega) (by omega) e (fun m a b => ?_)⟩)
    have : m = k := by omega
    rw [this]; exact (so_BO A).1 _
theorem xse1 {post : SX → Prop} {o : Nat → Int32} (hc : c ≤ 40) (hP : so_P c o) (K : ∀ o', so_P c o' → so_S (so_B A) o' 0 c → post (nI c, A, o', h, sp, rl, rh, st, ec, lc, pe, se, le)) :
    wpX_orderBySelection__firstOrder post (nI c, A, o, h, sp, rl, rh, st, ec, lc, pe, se, le) :=
  ⟨c + 1, xse2_1 hc K (c + 1) 0 o (by omega) (by omega) hP (fun i j a => by omega)⟩
theorem xop1 {post : SX → Prop} {o : Nat → Int32} {k : Nat} (hc : c ≤ 40) (hk : k + 1 < c) (hP : so_P c o) (K : post (nI c, A, so_pr (so_B A) o k, h, sp, rl, rh, st, ec, lc, pe, se, le)) :
    wpX_orderPair__firstOrder post (nI c, A, o, h, sp, rl, rh, st, ec, lc, pe, se, le) (nI k) := by
  refine ⟨by rw [nI_1]; exact vp_in_nI (by omega) (by omega), vp_in_nI (by omega) (by omega), ?_⟩
  rw [nI_1, nI_clamp (n := k + 1) (by omega), nI_clamp (n := k) (by omega)]
  refine xb (so_P_v hP hc hk) (so_P_v hP hc (by omega)) (fun t => br_f xe_n10 (xsw1 (by omega) (by omega) ?_)) (fun f => br_t rfl ?_)
  · rw [so_pr_t t] at K; exact K
  · rw [so_pr_f f] at K; exact K
theorem xbu13_1 {post : SX → Prop} {J : Int32 → Int32 → (Nat → Int32) → (Nat → Int32) → (Nat → Int32) → (Nat → Int32) → (Nat → Int32) → (Nat → Int32) → (Nat → Int32) → (Nat → Int32) → (Nat → Int32) → (Nat → Int32) → (Nat → Int32) → (Nat → Int32) → Prop} {l : Nat}
    (hc : c ≤ 40) (hl : l + 1 < c) (K : ∀ o', so_P c o' → so_Bu (so_B A) o' l c → J (nI l) (nI c) A o' h sp rl rh st ec lc pe se le) :
    ∀ (n k : Nat) (o : Nat → Int32), l + 1 < n + k → k ≤ l + 1 → so_P c o → so_Bu (so_B A) o (l + 1) c → (∀ i, i < k → so_B A (o k) (o i) = false) → wX_orderByBubbles__firstOrder_13 post J (nI (l + 1)) n (nI k) (nI c) A o h sp rl rh st ec lc pe se le := by
  intro n
  induction n with
  | zero => intro k o h1 h2; omega
  | succ n ih =>
    intro k o h1 h2 hP hS hi
    rw [wX_orderByBubbles__firstOrder_13]
    refine pk_le (l + 1) k (fun e => nm_r (pk_m1 l) (K o hP (so_Bu_s hS ?_))) (fun e => xop1 hc (by omega) hP (nm_r (nI_1 k) (ih (k + 1) _ (by omega) (by omega) (so_pr_P hP (by omega)) (so_Bu_p hS (by omega)) (so_Bu_i (so_BO A) hi))))
    have : k = l + 1 := by omega
    rw [← this]; exact hi
theorem xbu7_1 {post : SX → Prop} (hc : c ≤ 40) (K : ∀ o', so_P c o' → so_S (so_B A) o' 0 c → post (nI c, A, o', h, sp, rl, rh, st, ec, lc, pe, se, le)) :
    ∀ (n l : Nat) (o : Nat → Int32), l < n → l < c → so_P c o → so_Bu (so_B A) o l c → wX_orderByBubbles__firstOrder_7 post n (nI l) (nI c) A o h sp rl rh st ec lc pe se le := by
  intro n
  induction n with
  | zero => intro l o h1; omega
  | succ n ih =>
    intro l o h1 h2 hP hS
    rw [wX_orderByBubbles__firstOrder_7]
    cases l with
    | zero => exact pk_le 0 0 (fun e => K o hP (so_Bu_e hS)) (fun e => by omega)
    | succ l => exact pk_le (l + 1) 0 (fun e => by omega) (fun e => ⟨l + 2, xbu13_1 hc h2 (fun o' hP' hS' => ih l o' (by omega) (by omega) hP' hS') (l + 2) 0 o (by omega) (by omega) hP hS (fun i hi => by omega)⟩)
theorem xbu1 {post : SX → Prop} {o : Nat → Int32} (hc : c ≤ 40) (hP : so_P c o) (K : ∀ o', so_P c o' → so_S (so_B A) o' 0 c → post (nI c, A, o', h, sp, rl, rh, st, ec, lc, pe, se, le)) :
    wpX_orderByBubbles__firstOrder post (nI c, A, o, h, sp, rl, rh, st, ec, lc, pe, se, le) := by
  cases c with
  | zero => exact nm_e ⟨1, br_t (by decide) (K o hP (fun i j a b d => by omega))⟩
  | succ c => exact nm_r (nI_pred c) ⟨c + 1, xbu7_1 hc K (c + 1) c o (by omega) (by omega) hP (so_Bu_0 (by omega))⟩
theorem xod14_1 {post : SX → Prop} {J : Int32 → Int32 → (Nat → Int32) → (Nat → Int32) → (Nat → Int32) → (Nat → Int32) → (Nat → Int32) → (Nat → Int32) → (Nat → Int32) → (Nat → Int32) → (Nat → Int32) → (Nat → Int32) → (Nat → Int32) → (Nat → Int32) → Prop} {r : Nat} {o0 : Nat → Int32}
    (hc : c ≤ 40) (hr : r < c) (hA : so_A (so_B A) c r o0) (K : ∀ o', so_P c o' → so_A (so_B A) c (r + 1) o' → J (nI (r + 1)) (nI c) A o' h sp rl rh st ec lc pe se le) :
    ∀ (n k : Nat) (o : Nat → Int32), c < n + k → k ≤ c → so_P c o → so_oe (so_B A) o0 o r k → k % 2 = r % 2 → wX_orderByOddEven__firstOrder_14 post J (nI r) n (nI k) (nI c) A o h sp rl rh st ec lc pe se le := by
  intro n
  induction n with
  | zero => intro k o h1 h2; omega
  | succ n ih =>
    intro k o h1 h2 hP hS hk
    rw [wX_orderByOddEven__firstOrder_14]
    have ec1 : nI c - 1 = nI (c - 1) := by
      obtain ⟨d, rfl⟩ : ∃ d, c = d + 1 := ⟨c - 1, by omega⟩
      exact nI_pred d
    refine pk_le (c - 1) k (fun e => nm_r (nI_1 r) (K o hP (so_A_s hA hS hk h2 (by omega)))) (fun e => xop1 hc (by omega) hP (nm_r (nI_add k 2) (ih (k + 2) _ (by omega) (by omega) (so_pr_P hP (by omega)) (so_oe_s (so_BO A) hS hk) (by omega)))) ec1
theorem xod2_1 {post : SX → Prop} (hc : c ≤ 40) (K : ∀ o', so_P c o' → so_S (so_B A) o' 0 c → post (nI c, A, o', h, sp, rl, rh, st, ec, lc, pe, se, le)) :
    ∀ (n r : Nat) (o : Nat → Int32), c < n + r → r ≤ c → so_P c o → so_A (so_B A) c r o → wX_orderByOddEven__firstOrder_2 post n (nI r) (nI c) A o h sp rl rh st ec lc pe se le := by
  intro n
  induction n with
  | zero => intro r o h1 h2; omega
  | succ n ih =>
    intro r o h1 h2 hP hS
    rw [wX_orderByOddEven__firstOrder_2]
    refine pk_le c r (fun e => K o hP (so_A_e (so_BO A) ?_)) (fun e => ⟨xe_n20, nm_r (pk_rem (a := r) (d := 2) (by omega) (by omega) (by omega)) ⟨c + 1, xod14_1 hc e hS (fun o' hP' hS' => ih (r + 1) o' (by omega) (by omega) hP' hS') (c + 1) (r % 2) o (by omega) (by omega) hP (so_oe_0 r (r % 2) (by omega)) (by omega)⟩⟩)
    have : r = c := by omega
    rw [this] at hS; exact hS
theorem xod1 {post : SX → Prop} {o : Nat → Int32} (hc : c ≤ 40) (hP : so_P c o) (K : ∀ o', so_P c o' → so_S (so_B A) o' 0 c → post (nI c, A, o', h, sp, rl, rh, st, ec, lc, pe, se, le)) :
    wpX_orderByOddEven__firstOrder post (nI c, A, o, h, sp, rl, rh, st, ec, lc, pe, se, le) :=
  ⟨c + 1, xod2_1 hc K (c + 1) 0 o (by omega) (by omega) hP (so_A_0 c o)⟩
end
end
section
section
variable {A h sp rl rh st ec lc pe se le : Nat → Int32} {fc : Int32} {c : Nat}
theorem xsw2 {post : SX → Prop} {o : Nat → Int32} {i j : Nat} (hi : i < 40) (hj : j < 40) (K : post (nI c, A, h, so_w o i j, sp, rl, rh, st, ec, lc, pe, se, le)) :
    wpX_swap__secondOrder post (nI c, A, h, o, sp, rl, rh, st, ec, lc, pe, se, le) (nI i) (nI j) := by
  have ei : (nI i).toNatClampNeg = i := nI_clamp (by omega)
  have ej : (nI j).toNatClampNeg = j := nI_clamp (by omega)
  have vi : vp_in (nI i) 40 := vp_in_nI hi (by omega)
  have vj : vp_in (nI j) 40 := vp_in_nI hj (by omega)
  exact ⟨vi, nm_r (e' := o i) (by rw [ei]) ⟨vj, vi, nm_r (e' := upd o i (o j)) (by rw [ei, ej]) ⟨vj, nm_r (e' := so_w o i j) (by rw [ej]; rfl) K⟩⟩⟩
theorem xmv6_2 {post : SX → Prop} {o0 : Nat → Int32} {g s : Nat} (hc : c ≤ 40) (hg : 0 < g) (hg' : g ≤ 40) (hs : s < c)
    (K : ∀ o', so_P c o' → (g = 1 → so_S (so_B A) o0 0 s → so_S (so_B A) o' 0 (s + 1)) → post (nI c, A, h, o', sp, rl, rh, st, ec, lc, pe, se, le)) :
    ∀ (n k m : Nat) (o : Nat → Int32), c < n + m → m ≤ c → so_P c o → k < c → (g = 1 → so_S (so_B A) o0 0 s → so_I (so_B A) o k s ∧ k + m = s) →
    wX_moveForward__secondOrder_6 post (nI g) n (nI k) (nI m) (nI c) A h o sp rl rh st ec lc pe se le := by
  intro n
  induction n with
  | zero => intro k m o h1 h2; omega
  | succ n ih =>
    intro k m o h1 hm hP hk hI
    rw [wX_moveForward__secondOrder_6]
    have hB := so_BO A
    refine pk_le c m (fun e => K o hP (fun e1 e2 => ?_)) (fun e => pk_lt k g (fun e' => K o hP (fun e1 e2 => ?_)) (fun e' => ⟨vp_in_nI (by omega) (by omega), ?_⟩))
    · have := (hI e1 e2).2; omega
    · have h3 := (hI e1 e2).1
      have : k = 0 := by omega
      rw [this] at h3
      exact so_Ie0 h3
    · have e3 : nI k - nI g = nI (k - g) := pk_sub e'
      rw [e3, nI_clamp (n := k) (by omega), nI_clamp (n := k - g) (by omega)]
      refine ⟨vp_in_nI (by omega) (by omega), xb (so_P_v hP hc hk) (so_P_v hP hc (by omega)) (fun t => br_f xe_n10 (xsw2 (by omega) (by omega) ?_)) (fun f => br_t rfl (K o hP (fun e1 e2 => ?_)))⟩
      · refine nm_r rfl (nm_r (nI_1 m) (ih (k - g) (m + 1) _ (by omega) (by omega) (so_P_w hP hk (by omega)) (by omega) (fun e1 e2 => ?_)))
        obtain ⟨h3, h4⟩ := hI e1 e2
        obtain ⟨q, rfl⟩ : ∃ q, k = q + 1 := ⟨k - 1, by omega⟩
        have e5 : q + 1 - g = q := by omega
        rw [e5] at t ⊢
        exact ⟨so_Is hB h3 (by omega) t, by omega⟩
      · obtain ⟨h3, h4⟩ := hI e1 e2
        obtain ⟨q, rfl⟩ : ∃ q, k = q + 1 := ⟨k - 1, by omega⟩
        have e5 : q + 1 - g = q := by omega
        rw [e5] at f
        exact so_Ie hB h3 f
theorem xmv2 {post : SX → Prop} {o : Nat → Int32} {g s : Nat} (hc : c ≤ 40) (hg : 0 < g) (hg' : g ≤ 40) (hs : s < c) (hP : so_P c o)
    (K : ∀ o', so_P c o' → (g = 1 → so_S (so_B A) o 0 s → so_S (so_B A) o' 0 (s + 1)) → post (nI c, A, h, o', sp, rl, rh, st, ec, lc, pe, se, le)) :
    wpX_moveForward__secondOrder post (nI c, A, h, o, sp, rl, rh, st, ec, lc, pe, se, le) (nI s) (nI g) :=
  ⟨c + 1, xmv6_2 hc hg hg' hs K (c + 1) s 0 o (by omega) (by omega) hP hs (fun _ h2 => ⟨so_I0 h2, rfl⟩)⟩
theorem xin2_2 {post : SX → Prop} (hc : c ≤ 40) (K : ∀ o', so_P c o' → so_S (so_B A) o' 0 c → post (nI c, A, h, o', sp, rl, rh, st, ec, lc, pe, se, le)) :
    ∀ (n k : Nat) (o : Nat → Int32), 41 < n + k → k ≤ 41 → so_P c o → so_S (so_B A) o 0 k → wX_orderByInsertion__secondOrder_2 post n (nI k) (nI c) A h o sp rl rh st ec lc pe se le := by
  intro n
  induction n with
  | zero =>
    intro k o h1 h2 hP hS
    omega
  | succ n ih =>
    intro k o h1 h2 hP hS
    rw [wX_orderByInsertion__secondOrder_2]
    exact pk_le c k (fun e => K o hP (fun i j a b d => hS i j a b (by omega))) (fun e => xmv2 (g := 1) hc (by omega) (by omega) e hP (fun o' hP' hS' => nm_r (nI_1 k) (ih (k + 1) o' (by omega) (by omega) hP' (hS' rfl hS))))
theorem xin2 {post : SX → Prop} {o : Nat → Int32} (hc : c ≤ 40) (hP : so_P c o) (K : ∀ o', so_P c o' → so_S (so_B A) o' 0 c → post (nI c, A, h, o', sp, rl, rh, st, ec, lc, pe, se, le)) :
    wpX_orderByInsertion__secondOrder post (nI c, A, h, o, sp, rl, rh, st, ec, lc, pe, se, le) :=
  ⟨42, xin2_2 hc K 42 1 o (by omega) (by omega) hP (fun i j a b d => by omega)⟩
theorem xga13_2 {post : SX → Prop} {J : Int32 → Int32 → (Nat → Int32) → (Nat → Int32) → (Nat → Int32) → (Nat → Int32) → (Nat → Int32) → (Nat → Int32) → (Nat → Int32) → (Nat → Int32) → (Nat → Int32) → (Nat → Int32) → (Nat → Int32) → (Nat → Int32) → Prop} {g : Nat}
    (hc : c ≤ 40) (hg : 0 < g) (hg' : g ≤ 40) (K : ∀ o', so_P c o' → (g = 1 → so_S (so_B A) o' 0 c) → J (nI (g / 2)) (nI c) A h o' sp rl rh st ec lc pe se le) :
    ∀ (n k : Nat) (o : Nat → Int32), 41 < n + k → k ≤ 41 → so_P c o → (g = 1 → so_S (so_B A) o 0 k) → wX_orderByGaps__secondOrder_13 post J (nI g) n (nI k) (nI c) A h o sp rl rh st ec lc pe se le := by
  intro n
  induction n with
  | zero => intro k o h1 h2 hP hS; omega
  | succ n ih =>
    intro k o h1 h2 hP hS
    rw [wX_orderByGaps__secondOrder_13]
    exact pk_le c k (fun e => ⟨xe_n20, nm_r (pk_div (a := g) (d := 2) (by omega) (by omega) (by omega)) (K o hP (fun e1 i j a b d => hS e1 i j a b (by omega)))⟩)
      (fun e => xmv2 hc hg hg' e hP (fun o' hP' hS' => nm_r (nI_1 k) (ih (k + 1) o' (by omega) (by omega) hP' (fun e1 => hS' e1 (hS e1)))))
theorem xga7_2 {post : SX → Prop} (hc : c ≤ 40) (K : ∀ o', so_P c o' → so_S (so_B A) o' 0 c → post (nI c, A, h, o', sp, rl, rh, st, ec, lc, pe, se, le)) :
    ∀ (n g : Nat) (o : Nat → Int32), g < n → g ≤ 40 → so_P c o → (g = 0 → so_S (so_B A) o 0 c) → wX_orderByGaps__secondOrder_7 post n (nI g) (nI c) A h o sp rl rh st ec lc pe se le := by
  intro n
  induction n with
  | zero => intro g o h1; omega
  | succ n ih =>
    intro g o h1 h2 hP hS
    rw [wX_orderByGaps__secondOrder_7]
    refine pk_le g 0 (fun e => K o hP (hS (by omega))) (fun e => ⟨42, xga13_2 hc e h2 (fun o' hP' hS' => ih (g / 2) o' (by omega) (by omega) hP' (fun e1 => hS' (by omega))) 42 g o (by omega) (by omega) hP (fun e1 i j a b d => by omega)⟩)
theorem xga2 {post : SX → Prop} {o : Nat → Int32} (hc : c ≤ 40) (hP : so_P c o) (K : ∀ o', so_P c o' → so_S (so_B A) o' 0 c → post (nI c, A, h, o', sp, rl, rh, st, ec, lc, pe, se, le)) :
    wpX_orderByGaps__secondOrder post (nI c, A, h, o, sp, rl, rh, st, ec, lc, pe, se, le) :=
  ⟨xe_n20, nm_r (pk_div (a := c) (d := 2) (by omega) (by omega) (by omega)) ⟨c + 1, xga7_2 hc K (c + 1) (c / 2) o (by omega) (by omega) hP (fun e i j a b d => by omega)⟩⟩
theorem xse17_2 {post : SX → Prop} {J : Int32 → Int32 → (Nat → Int32) → (Nat → Int32) → (Nat → Int32) → (Nat → Int32) → (Nat → Int32) → (Nat → Int32) → (Nat → Int32) → (Nat → Int32) → (Nat → Int32) → (Nat → Int32) → (Nat → Int32) → (Nat → Int32) → Prop} {k : Nat} {o : Nat → Int32}
    (hc : c ≤ 40) (hk : k < c) (hP : so_P c o) (hS : so_Se (so_B A) o k c) (K : ∀ o', so_P c o' → so_Se (so_B A) o' (k + 1) c → J (nI (k + 1)) (nI c) A h o' sp rl rh st ec lc pe se le) :
    ∀ (n f j : Nat), c < n + j → j ≤ c → k ≤ j → k ≤ f → f < c → (∀ m, k ≤ m → m < j → so_B A (o m) (o f) = false) → wX_orderBySelection__secondOrder_17 post J (nI k) (nI c) A h o sp rl rh st ec lc pe se le n (nI f) (nI j) := by
  intro n
  induction n with
  | zero => intro f j h1 h2; omega
  | succ n ih =>
    intro f j h1 h2 hkj h3 h4 h5
    rw [wX_orderBySelection__secondOrder_17]
    refine pk_le c j (fun e => xsw2 (by omega) (by omega) (nm_r (nI_1 k) (K _ (so_P_w hP hk h4) (so_Se_s hS h3 h4 (fun m a b => h5 m a (by omega))))))
      (fun e => ⟨vp_in_nI (by omega) (by omega), vp_in_nI (by omega) (by omega), ?_⟩)
    rw [nI_clamp (n := j) (by omega), nI_clamp (n := f) (by omega)]
    exact xb (so_P_v hP hc e) (so_P_v hP hc h4) (fun t => br_f xe_n10 (nm_r (nI_1 j) (ih j (j + 1) (by omega) (by omega) (by omega) (by omega) e (so_Se_m (so_BO A) h5 t)))) (fun t => br_t rfl (nm_r (nI_1 j) (ih f (j + 1) (by omega) (by omega) (by omega) h3 h4 (so_Se_k h5 t))))
theorem xse2_2 {post : SX → Prop} (hc : c ≤ 40) (K : ∀ o', so_P c o' → so_S (so_B A) o' 0 c → post (nI c, A, h, o', sp, rl, rh, st, ec, lc, pe, se, le)) :
    ∀ (n k : Nat) (o : Nat → Int32), c < n + k → k ≤ c → so_P c o → so_Se (so_B A) o k c → wX_orderBySelection__secondOrder_2 post n (nI k) (nI c) A h o sp rl rh st ec lc pe se le := by
  intro n
  induction n with
  | zero => intro k o h1 h2; omega
  | succ n ih =>
    intro k o h1 h2 hP hS
    rw [wX_orderBySelection__secondOrder_2]
    refine pk_le c k (fun e => K o hP (so_Se_e hS e)) (fun e => nm_r (nI_1 k) ⟨c + 1, xse17_2 hc e hP hS (fun o' hP' hS' => ih (k + 1) o' (by omega) (by omega) hP' hS') (c + 1) k (k + 1) (by omega) (by omega) (by omega) (by omega) e (fun m a b => ?_)⟩)
    have : m = k := by omega
    rw [this]; exact (so_BO A).1 _
theorem xse2 {post : SX → Prop} {o : Nat → Int32} (hc : c ≤ 40) (hP : so_P c o) (K : ∀ o', so_P c o' → so_S (so_B A) o' 0 c → post (nI c, A, h, o', sp, rl, rh, st, ec, lc, pe, se, le)) :
    wpX_orderBySelection__secondOrder post (nI c, A, h, o, sp, rl, rh, st, ec, lc, pe, se, le) :=
  ⟨c + 1, xse2_2 hc K (c + 1) 0 o (by omega) (by omega) hP (fun i j a => by omega)⟩
theorem xop2 {post : SX → Prop} {o : Nat → Int32} {k : Nat} (hc : c ≤ 40) (hk : k + 1 < c) (hP : so_P c o) (K : post (nI c, A, h, so_pr (so_B A) o k, sp, rl, rh, st, ec, lc, pe, se, le)) :
    wpX_orderPair__secondOrder post (nI c, A, h, o, sp, rl, rh, st, ec, lc, pe, se, le) (nI k) := by
  refine ⟨by rw [nI_1]; exact vp_in_nI (by omega) (by omega), vp_in_nI (by omega) (by omega), ?_⟩
  rw [nI_1, nI_clamp (n := k + 1) (by omega), nI_clamp (n := k) (by omega)]
  refine xb (so_P_v hP hc hk) (so_P_v hP hc (by omega)) (fun t => br_f xe_n10 (xsw2 (by omega) (by omega) ?_)) (fun f => br_t rfl ?_)
  · rw [so_pr_t t] at K; exact K
  · rw [so_pr_f f] at K; exact K
theorem xbu13_2 {post : SX → Prop} {J : Int32 → Int32 → (Nat → Int32) → (Nat → Int32) → (Nat → Int32) → (Nat → Int32) → (Nat → Int32) → (Nat → Int32) → (Nat → Int32) → (Nat → Int32) → (Nat → Int32) → (Nat → Int32) → (Nat → Int32) → (Nat → Int32) → Prop} {l : Nat}
    (hc : c ≤ 40) (hl : l + 1 < c) (K : ∀ o', so_P c o' → so_Bu (so_B A) o' l c → J (nI l) (nI c) A h o' sp rl rh st ec lc pe se le) :
    ∀ (n k : Nat) (o : Nat → Int32), l + 1 < n + k → k ≤ l + 1 → so_P c o → so_Bu (so_B A) o (l + 1) c → (∀ i, i < k → so_B A (o k) (o i) = false) → wX_orderByBubbles__secondOrder_13 post J (nI (l + 1)) n (nI k) (nI c) A h o sp rl rh st ec lc pe se le := by
  intro n
  induction n with
  | zero => intro k o h1 h2; omega
  | succ n ih =>
    intro k o h1 h2 hP hS hi
    rw [wX_orderByBubbles__secondOrder_13]
    refine pk_le (l + 1) k (fun e => nm_r (pk_m1 l) (K o hP (so_Bu_s hS ?_))) (fun e => xop2 hc (by omega) hP (nm_r (nI_1 k) (ih (k + 1) _ (by omega) (by omega) (so_pr_P hP (by omega)) (so_Bu_p hS (by omega)) (so_Bu_i (so_BO A) hi))))
    have : k = l + 1 := by omega
    rw [← this]; exact hi
theorem xbu7_2 {post : SX → Prop} (hc : c ≤ 40) (K : ∀ o', so_P c o' → so_S (so_B A) o' 0 c → post (nI c, A, h, o', sp, rl, rh, st, ec, lc, pe, se, le)) :
    ∀ (n l : Nat) (o : Nat → Int32), l < n → l < c → so_P c o → so_Bu (so_B A) o l c → wX_orderByBubbles__secondOrder_7 post n (nI l) (nI c) A h o sp rl rh st ec lc pe se le := by
  intro n
  induction n with
  | zero => intro l o h1; omega
  | succ n ih =>
    intro l o h1 h2 hP hS
    rw [wX_orderByBubbles__secondOrder_7]
    cases l with
    | zero => exact pk_le 0 0 (fun e => K o hP (so_Bu_e hS)) (fun e => by omega)
    | succ l => exact pk_le (l + 1) 0 (fun e => by omega) (fun e => ⟨l + 2, xbu13_2 hc h2 (fun o' hP' hS' => ih l o' (by omega) (by omega) hP' hS') (l + 2) 0 o (by omega) (by omega) hP hS (fun i hi => by omega)⟩)
theorem xbu2 {post : SX → Prop} {o : Nat → Int32} (hc : c ≤ 40) (hP : so_P c o) (K : ∀ o', so_P c o' → so_S (so_B A) o' 0 c → post (nI c, A, h, o', sp, rl, rh, st, ec, lc, pe, se, le)) :
    wpX_orderByBubbles__secondOrder post (nI c, A, h, o, sp, rl, rh, st, ec, lc, pe, se, le) := by
  cases c with
  | zero => exact nm_e ⟨1, br_t (by decide) (K o hP (fun i j a b d => by omega))⟩
  | succ c => exact nm_r (nI_pred c) ⟨c + 1, xbu7_2 hc K (c + 1) c o (by omega) (by omega) hP (so_Bu_0 (by omega))⟩
theorem xod14_2 {post : SX → Prop} {J : Int32 → Int32 → (Nat → Int32) → (Nat → Int32) → (Nat → Int32) → (Nat → Int32) → (Nat → Int32) → (Nat → Int32) → (Nat → Int32) → (Nat → Int32) → (Nat → Int32) → (Nat → Int32) → (Nat → Int32) → (Nat → Int32) → Prop} {r : Nat} {o0 : Nat → Int32}
    (hc : c ≤ 40) (hr : r < c) (hA : so_A (so_B A) c r o0) (K : ∀ o', so_P c o' → so_A (so_B A) c (r + 1) o' → J (nI (r + 1)) (nI c) A h o' sp rl rh st ec lc pe se le) :
    ∀ (n k : Nat) (o : Nat → Int32), c < n + k → k ≤ c → so_P c o → so_oe (so_B A) o0 o r k → k % 2 = r % 2 → wX_orderByOddEven__secondOrder_14 post J (nI r) n (nI k) (nI c) A h o sp rl rh st ec lc pe se le := by
  intro n
  induction n with
  | zero => intro k o h1 h2; omega
  | succ n ih =>
    intro k o h1 h2 hP hS hk
    rw [wX_orderByOddEven__secondOrder_14]
    have ec1 : nI c - 1 = nI (c - 1) := by
      obtain ⟨d, rfl⟩ : ∃ d, c = d + 1 := ⟨c - 1, by omega⟩
      exact nI_pred d
    refine pk_le (c - 1) k (fun e => nm_r (nI_1 r) (K o hP (so_A_s hA hS hk h2 (by omega)))) (fun e => xop2 hc (by omega) hP (nm_r (nI_add k 2) (ih (k + 2) _ (by omega) (by omega) (so_pr_P hP (by omega)) (so_oe_s (so_BO A) hS hk) (by omega)))) ec1
theorem xod2_2 {post : SX → Prop} (hc : c ≤ 40) (K : ∀ o', so_P c o' → so_S (so_B A) o' 0 c → post (nI c, A, h, o', sp, rl, rh, st, ec, lc, pe, se, le)) :
    ∀ (n r : Nat) (o : Nat → Int32), c < n + r → r ≤ c → so_P c o → so_A (so_B A) c r o → wX_orderByOddEven__secondOrder_2 post n (nI r) (nI c) A h o sp rl rh st ec lc pe se le := by
  intro n
  induction n with
  | zero => intro r o h1 h2; omega
  | succ n ih =>
    intro r o h1 h2 hP hS
    rw [wX_orderByOddEven__secondOrder_2]
    refine pk_le c r (fun e => K o hP (so_A_e (so_BO A) ?_)) (fun e => ⟨xe_n20, nm_r (pk_rem (a := r) (d := 2) (by omega) (by omega) (by omega)) ⟨c + 1, xod14_2 hc e hS (fun o' hP' hS' => ih (r + 1) o' (by omega) (by omega) hP' hS') (c + 1) (r % 2) o (by omega) (by omega) hP (so_oe_0 r (r % 2) (by omega)) (by omega)⟩⟩)
    have : r = c := by omega
    rw [this] at hS; exact hS
theorem xod2 {post : SX → Prop} {o : Nat → Int32} (hc : c ≤ 40) (hP : so_P c o) (K : ∀ o', so_P c o' → so_S (so_B A) o' 0 c → post (nI c, A, h, o', sp, rl, rh, st, ec, lc, pe, se, le)) :
    wpX_orderByOddEven__secondOrder post (nI c, A, h, o, sp, rl, rh, st, ec, lc, pe, se, le) :=
  ⟨c + 1, xod2_2 hc K (c + 1) 0 o (by omega) (by omega) hP (so_A_0 c o)⟩
end
end
section
section
variable {A h sp rl rh st ec lc pe se le : Nat → Int32} {fc : Int32} {c : Nat}
theorem xcp3_1 {post : SX → Prop} {b : Nat} (hb : b ≤ 40) {a : Nat} {o : Nat → Int32} (K : post (nI c, A, so_cp o sp a b, h, sp, rl, rh, st, ec, lc, pe, se, le)) : ∀ n k : Nat, b < n + k → a ≤ k → k ≤ b →
    wX_copyRange__spare_firstOrder_3 post (nI b) (nI c) n (nI k) A (so_cp o sp a k) h sp rl rh st ec lc pe se le := by
  intro n
  induction n with
  | zero => intro k h1 h2; omega
  | succ n ih =>
    intro k h1 h2 h3
    rw [wX_copyRange__spare_firstOrder_3]
    have ck : (nI k).toNatClampNeg = k := nI_clamp (by omega)
    refine pk_le b k (fun e => ?_) (fun e => ⟨vp_in_nI (by omega) (by omega), vp_in_nI (by omega) (by omega), nm_r (e' := so_cp o sp a (k + 1)) (by rw [ck, so_cp_s o sp h2]) (nm_r (nI_1 k) (ih (k + 1) (by omega) (by omega) (by omega)))⟩)
    have : k = b := by omega
    rw [this]; exact K
theorem xcp1 {post : SX → Prop} {o : Nat → Int32} {a b : Nat} (hab : a ≤ b) (hb : b ≤ 40) (K : post (nI c, A, so_cp o sp a b, h, sp, rl, rh, st, ec, lc, pe, se, le)) :
    wpX_copyRange__spare_firstOrder post (nI c, A, o, h, sp, rl, rh, st, ec, lc, pe, se, le) (nI a) (nI b) := by
  refine ⟨b + 1, ?_⟩
  have h2 := xcp3_1 hb K (b + 1) a (by omega) (by omega) hab
  rw [so_cp_0] at h2
  exact h2
theorem xme92_1 {post : SX → Prop} {o : Nat → Int32} {J : Int32 → Int32 → Int32 → (Nat → Int32) → (Nat → Int32) → (Nat → Int32) → (Nat → Int32) → (Nat → Int32) → (Nat → Int32) → (Nat → Int32) → (Nat → Int32) → (Nat → Int32) → (Nat → Int32) → (Nat → Int32) → (Nat → Int32) → Prop} {x2 x4 x5 x7 : Int32} {l k : Nat}
    (hl : l < 40) (hk : k < 40) (K : J (nI (l + 1)) x7 (nI (k + 1)) A o h (upd sp k (o l)) rl rh st ec lc pe se le) : wX_mergeRuns__firstOrder_92 post J x2 x4 x5 (nI l) x7 (nI k) (nI c) A o h sp rl rh st ec lc pe se le := by
  have el : (nI l).toNatClampNeg = l := nI_clamp (by omega)
  have ek : (nI k).toNatClampNeg = k := nI_clamp (by omega)
  exact ⟨vp_in_nI hl (by omega), vp_in_nI hk (by omega), nm_r (e' := upd sp k (o l)) (by rw [el, ek]) (nm_r (nI_1 l) (nm_r (nI_1 k) K))⟩
theorem xme109_1 {post : SX → Prop} {o : Nat → Int32} {J : Int32 → Int32 → Int32 → (Nat → Int32) → (Nat → Int32) → (Nat → Int32) → (Nat → Int32) → (Nat → Int32) → (Nat → Int32) → (Nat → Int32) → (Nat → Int32) → (Nat → Int32) → (Nat → Int32) → (Nat → Int32) → (Nat → Int32) → Prop} {x2 x4 x5 x6 : Int32} {r k : Nat}
    (hr : r < 40) (hk : k < 40) (K : J x6 (nI (r + 1)) (nI (k + 1)) A o h (upd sp k (o r)) rl rh st ec lc pe se le) : wX_mergeRuns__firstOrder_109 post J x2 x4 x5 x6 (nI r) (nI k) (nI c) A o h sp rl rh st ec lc pe se le := by
  have er : (nI r).toNatClampNeg = r := nI_clamp (by omega)
  have ek : (nI k).toNatClampNeg = k := nI_clamp (by omega)
  exact ⟨vp_in_nI hr (by omega), vp_in_nI hk (by omega), nm_r (e' := upd sp k (o r)) (by rw [er, ek]) (nm_r (nI_1 r) (nm_r (nI_1 k) K))⟩
theorem xme56_1 {post : SX → Prop} {o : Nat → Int32} {lo mi hi : Nat} (hc : c ≤ 40) (hhi : hi ≤ c) (hP : so_P c o) (s1 : so_S (so_B A) o lo mi) (s2 : so_S (so_B A) o mi hi)
    (K : ∀ o' s', so_P c o' → so_S (so_B A) o' lo hi → (∀ m, m < lo ∨ hi ≤ m → o' m = o m) → post (nI c, A, o', h, s', rl, rh, st, ec, lc, pe, se, le)) :
    ∀ (n l r k : Nat) (s : Nat → Int32), hi < n + k → k ≤ hi → so_m (so_B A) o lo mi hi l r k s → wX_mergeRuns__firstOrder_56 post (nI lo) (nI mi) (nI hi) (nI c) n (nI l) (nI r) (nI k) A o h s rl rh st ec lc pe se le := by
  intro n
  induction n with
  | zero => intro l r k s h1 h2; omega
  | succ n ih =>
    intro l r k s h1 h2 hm
    rw [wX_mergeRuns__firstOrder_56]
    have hB := so_BO A
    obtain ⟨m1, m2, m3, m4, m5, _⟩ := id hm
    refine pk_le hi k (fun e => ?_) (fun e => pk_le hi r (fun e2 => xme92_1 (by omega) (by omega) (ih (l + 1) r (k + 1) _ (by omega) (by omega) (so_m_l hB hm s1 s2 (by omega) (Or.inl e2))))
      (fun e2 => pk_le mi l (fun e3 => xme109_1 (by omega) (by omega) (ih l (r + 1) (k + 1) _ (by omega) (by omega) (so_m_r hB hm s1 s2 e2 (Or.inl e3)))) (fun e3 => ⟨vp_in_nI (by omega) (by omega), vp_in_nI (by omega) (by omega), ?_⟩)))
    · have ek : k = hi := by omega
      rw [ek] at hm
      have hq := so_m_e hm hhi hP
      exact xcp1 (by omega) (by omega) (K _ s hq.1 hq.2 (fun m a => so_cp_o o s a))
    · rw [nI_clamp (n := l) (by omega), nI_clamp (n := r) (by omega)]
      exact xb (so_P_v hP hc (by omega)) (so_P_v hP hc (by omega)) (fun t => br_f xe_n10 (xme92_1 (by omega) (by omega) (ih (l + 1) r (k + 1) _ (by omega) (by omega) (so_m_l hB hm s1 s2 e3 (Or.inr t)))))
        (fun f => br_t rfl (xme109_1 (by omega) (by omega) (ih l (r + 1) (k + 1) _ (by omega) (by omega) (so_m_r hB hm s1 s2 e2 (Or.inr f)))))
theorem xme20_1 {post : SX → Prop} {o : Nat → Int32} {lo mi w : Nat} (hc : c ≤ 40) (hw : w ≤ 80) (hlo : lo ≤ mi) (hmi : mi ≤ c) (hP : so_P c o) (s1 : so_S (so_B A) o lo mi) (s2 : so_G (so_B A) o mi (mi + w) c)
    (K : ∀ o' s' hi, (hi = c ∧ c ≤ mi + w ∨ hi = mi + w ∧ mi + w < c) → so_P c o' → so_S (so_B A) o' lo hi → (∀ m, m < lo ∨ hi ≤ m → o' m = o m) → post (nI c, A, o', h, s', rl, rh, st, ec, lc, pe, se, le)) :
    wX_mergeRuns__firstOrder_20 post (nI lo) (nI w) (nI mi) (nI c) A o h sp rl rh st ec lc pe se le := by
  refine pk_le c (mi + w) (fun e => ⟨c + 1, xme56_1 hc (Nat.le_refl _) hP s1 (fun i j a b d => s2 i j a b (by omega) d) (fun o' s' p1 p2 p3 => K o' s' c (Or.inl ⟨rfl, e⟩) p1 p2 p3) (c + 1) lo mi lo sp (by omega) (by omega) (so_m_0 hlo hmi sp)⟩)
    (fun e => nm_r (nI_add mi w) ⟨c + 1, xme56_1 hc (by omega) hP s1 (fun i j a b d => s2 i j a b d (by omega)) (fun o' s' p1 p2 p3 => K o' s' (mi + w) (Or.inr ⟨rfl, e⟩) p1 p2 p3) (c + 1) lo mi lo sp (by omega) (by omega) (so_m_0 hlo (by omega) sp)⟩) rfl (nI_add mi w)
theorem xmr1 {post : SX → Prop} {o : Nat → Int32} {lo w : Nat} (hc : c ≤ 40) (hw : w ≤ 80) (hlo : lo < c) (hP : so_P c o) (s1 : so_G (so_B A) o lo (lo + w) c) (s2 : so_G (so_B A) o (lo + w) (lo + w + w) c)
    (K : ∀ o' s', so_P c o' → so_G (so_B A) o' lo (lo + w + w) c → (∀ m, m < lo ∨ lo + w + w ≤ m → o' m = o m) → post (nI c, A, o', h, s', rl, rh, st, ec, lc, pe, se, le)) :
    wpX_mergeRuns__firstOrder post (nI c, A, o, h, sp, rl, rh, st, ec, lc, pe, se, le) (nI lo) (nI w) := by
  refine pk_le c (lo + w) (fun e => ?_) (fun e => ?_) rfl (nI_add lo w)
  · refine xme20_1 hc hw (by omega) (Nat.le_refl _) hP (fun i j a b d => s1 i j a b (by omega) d) (fun i j a b d d' => by omega) (fun o' s' hi hh p1 p2 p3 => K o' s' p1 (fun i j a b d d' => p2 i j a b (by omega)) (fun m hm => ?_))
    by_cases z : m < lo
    · exact p3 m (Or.inl z)
    · exact p3 m (Or.inr (by omega))
  · rw [nI_add]
    refine xme20_1 hc hw (by omega) (by omega) hP (fun i j a b d => s1 i j a b d (by omega)) s2 (fun o' s' hi hh p1 p2 p3 => K o' s' p1 (fun i j a b d d' => p2 i j a b (by omega)) (fun m hm => ?_))
    by_cases z : m < lo
    · exact p3 m (Or.inl z)
    · exact p3 m (Or.inr (by omega))
theorem xmg12_1 {post : SX → Prop} {J : Int32 → Int32 → (Nat → Int32) → (Nat → Int32) → (Nat → Int32) → (Nat → Int32) → (Nat → Int32) → (Nat → Int32) → (Nat → Int32) → (Nat → Int32) → (Nat → Int32) → (Nat → Int32) → (Nat → Int32) → (Nat → Int32) → Prop} {w : Nat}
    (hc : c ≤ 40) (hw : w ≤ 40) (hw0 : 0 < w) (K : ∀ o' s', so_P c o' → so_V (so_B A) o' (2 * w) c → J (nI (2 * w)) (nI c) A o' h s' rl rh st ec lc pe se le) :
    ∀ (n q : Nat) (o s : Nat → Int32), 120 < n + q * (2 * w) → q * (2 * w) ≤ 120 → so_P c o → so_Vi (so_B A) o w q c → wX_orderByMerging__firstOrder_12 post J (nI w) n (nI (q * (2 * w))) (nI c) A o h s rl rh st ec lc pe se le := by
  intro n
  induction n with
  | zero =>
    intro q o s h1 h2 hP hV
    omega
  | succ n ih =>
    intro q o s h1 h2 hP hV
    rw [wX_orderByMerging__firstOrder_12]
    have e2 : (2 : Int32) * nI w = nI (2 * w) := pk_mul 2 w
    have e3 : (q + 1) * (2 * w) = q * (2 * w) + 2 * w := Nat.succ_mul q (2 * w)
    have e4 : nI (q * (2 * w)) + 2 * nI w = nI ((q + 1) * (2 * w)) := by rw [e2, nI_add, e3]
    have hV2 := so_Vi_a hV
    refine pk_le c (q * (2 * w)) (fun e => nm_r e2 (K o s hP (so_Vi_e hV e))) (fun e => xmr1 hc (by omega) e hP hV2.1 hV2.2 (fun o' s' p1 p2 p3 => nm_r e4 (ih (q + 1) o' s' (by omega) (by omega) p1 (so_Vi_s hV (fun m hm => p3 m (by omega)) (fun i j a b d d' => p2 i j a b (by omega) d'))))) rfl rfl (by omega) (by omega)
theorem xmg2_1 {post : SX → Prop} (hc : c ≤ 40) (K : ∀ o' s', so_P c o' → so_S (so_B A) o' 0 c → post (nI c, A, o', h, s', rl, rh, st, ec, lc, pe, se, le)) :
    ∀ (n w : Nat) (o s : Nat → Int32), 80 < n + w → w ≤ 80 → 0 < w → so_P c o → so_V (so_B A) o w c → wX_orderByMerging__firstOrder_2 post n (nI w) (nI c) A o h s rl rh st ec lc pe se le := by
  intro n
  induction n with
  | zero => intro w o s h1 h2 h3 hP hV; omega
  | succ n ih =>
    intro w o s h1 h2 h3 hP hV
    rw [wX_orderByMerging__firstOrder_2]
    refine pk_le c w (fun e => K o s hP (so_V_e hV e)) (fun e => ⟨121, ?_⟩)
    have hh := xmg12_1 (post := post) hc (by omega) h3 (fun o' s' p1 p2 => ih (2 * w) o' s' (by omega) (by omega) (by omega) p1 p2) 121 0 o s (by omega) (by omega) hP (so_Vi_0 hV)
    rw [Nat.zero_mul] at hh
    exact hh
theorem xmg1 {post : SX → Prop} {o : Nat → Int32} (hc : c ≤ 40) (hP : so_P c o) (K : ∀ o' s', so_P c o' → so_S (so_B A) o' 0 c → post (nI c, A, o', h, s', rl, rh, st, ec, lc, pe, se, le)) :
    wpX_orderByMerging__firstOrder post (nI c, A, o, h, sp, rl, rh, st, ec, lc, pe, se, le) :=
  ⟨80, xmg2_1 hc K 80 1 o sp (by omega) (by omega) (by omega) hP (so_V_1 o c)⟩
theorem xsd80_1 {post : SX → Prop} {o : Nat → Int32} {J : Int32 → Int32 → Int32 → (Nat → Int32) → (Nat → Int32) → (Nat → Int32) → (Nat → Int32) → (Nat → Int32) → (Nat → Int32) → (Nat → Int32) → (Nat → Int32) → (Nat → Int32) → (Nat → Int32) → (Nat → Int32) → (Nat → Int32) → Prop} {x3 : Int32} {x l y : Nat}
    (hx : x < 40) (hy : y < 40) (h1 : y = x → post (nI c, A, o, h, sp, rl, rh, st, ec, lc, pe, se, le)) (h2 : y ≠ x → J (nI y) (nI (l + 1)) (nI c) A (so_w o x y) h sp rl rh st ec lc pe se le) : wX_siftDown__firstOrder_80 post J x3 (nI x) (nI l) (nI y) (nI c) A o h sp rl rh st ec lc pe se le :=
  pk_eq y x h1 (fun e => xsw1 hx hy (nm_r (nI_1 l) (h2 e)))
theorem xsd55_1 {post : SX → Prop} {o : Nat → Int32} {J : Int32 → Int32 → Int32 → (Nat → Int32) → (Nat → Int32) → (Nat → Int32) → (Nat → Int32) → (Nat → Int32) → (Nat → Int32) → (Nat → Int32) → (Nat → Int32) → (Nat → Int32) → (Nat → Int32) → (Nat → Int32) → (Nat → Int32) → Prop} {e x l y r : Nat}
    (hc : c ≤ 40) (he : e ≤ c) (hP : so_P c o) (hx : x < e) (hy : y < e) (hr : r ≤ 100)
    (h1 : (e ≤ r ∨ so_B A (o y) (o r) = false) → (y = x → post (nI c, A, o, h, sp, rl, rh, st, ec, lc, pe, se, le)) ∧ (y ≠ x → J (nI y) (nI (l + 1)) (nI c) A (so_w o x y) h sp rl rh st ec lc pe se le))
    (h2 : r < e → so_B A (o y) (o r) = true → (r = x → post (nI c, A, o, h, sp, rl, rh, st, ec, lc, pe, se, le)) ∧ (r ≠ x → J (nI r) (nI (l + 1)) (nI c) A (so_w o x r) h sp rl rh st ec lc pe se le)) :
    wX_siftDown__firstOrder_55 post J (nI e) (nI x) (nI l) (nI y) (nI r) (nI c) A o h sp rl rh st ec lc pe se le := by
  refine pk_le e r (fun z => xsd80_1 (by omega) (by omega) (h1 (Or.inl z)).1 (h1 (Or.inl z)).2) (fun z => ⟨vp_in_nI (by omega) (by omega), vp_in_nI (by omega) (by omega), ?_⟩)
  rw [nI_clamp (n := y) (by omega), nI_clamp (n := r) (by omega)]
  exact xb (so_P_v hP hc (by omega)) (so_P_v hP hc (by omega)) (fun t => br_f xe_n10 (xsd80_1 (by omega) (by omega) (h2 z t).1 (h2 z t).2)) (fun f => br_t rfl (xsd80_1 (by omega) (by omega) (h1 (Or.inr f)).1 (h1 (Or.inr f)).2))
theorem xsd6_1 {post : SX → Prop} {o0 : Nat → Int32} {e root : Nat} (hc : c ≤ 40) (he : e ≤ c)
    (K : ∀ o', so_P c o' → so_Hf (so_B A) o' root e → so_W 0 e o0 o' → post (nI c, A, o', h, sp, rl, rh, st, ec, lc, pe, se, le)) :
    ∀ (n x l : Nat) (o : Nat → Int32), e < n + l → l ≤ x → x < e → root ≤ x → so_P c o → so_Hx (so_B A) o root e x → so_W 0 e o0 o → wX_siftDown__firstOrder_6 post (nI e) n (nI x) (nI l) (nI c) A o h sp rl rh st ec lc pe se le := by
  intro n
  induction n with
  | zero => intro x l o h1 h2 h3; omega
  | succ n ih =>
    intro x l o h1 h2 h3 h4 hP hH hW
    rw [wX_siftDown__firstOrder_6]
    have hB := so_BO A
    have e7 : (2 : Int32) * nI x + 1 = nI (2 * x + 1) := by rw [show (2 : Int32) * nI x = nI (2 * x) from pk_mul 2 x, nI_1]
    have e8 : nI (2 * x + 1) + 1 = nI (2 * x + 2) := nI_1 (2 * x + 1)
    have done : (∀ d, 0 < d → d < e → (d - 1) / 2 = x → so_B A (o x) (o d) = false) → post (nI c, A, o, h, sp, rl, rh, st, ec, lc, pe, se, le) := fun z => K o hP (so_Hx_e hH z) hW
    have step : ∀ y, (y - 1) / 2 = x → 0 < y → y < e → so_B A (o x) (o y) = true → (∀ d, 0 < d → d < e → (d - 1) / 2 = x → so_B A (o y) (o d) = false) →
        wX_siftDown__firstOrder_6 post (nI e) n (nI y) (nI (l + 1)) (nI c) A (so_w o x y) h sp rl rh st ec lc pe se le := fun y z1 z2 z3 z4 z5 =>
      ih y (l + 1) _ (by omega) (by omega) z3 (by omega) (so_P_w hP (by omega) (by omega)) (so_Hx_s hB hH h4 z1 z2 z3 z4 z5) (so_W_w hW (by omega) h3 (by omega) z3)
    refine br_f (nI_ge (by omega) (by omega)) (nm_r e7 (nm_r e8 ?_))
    refine pk_le e (2 * x + 1) (fun z => ?_) (fun z => ⟨vp_in_nI (by omega) (by omega), vp_in_nI (by omega) (by omega), ?_⟩)
    · exact xsd55_1 hc he hP h3 h3 (by omega) (fun _ => ⟨fun _ => done (fun d a b d' => by omega), fun q => (q rfl).elim⟩) (fun q => by omega)
    · rw [nI_clamp (n := x) (by omega), nI_clamp (n := 2 * x + 1) (by omega)]
      refine xb (so_P_v hP hc (by omega)) (so_P_v hP hc (by omega)) (fun t => br_f xe_n10 (xsd55_1 hc he hP h3 z (by omega) (fun q => ⟨fun w => by omega, fun _ => ?_⟩) (fun q q2 => ⟨fun w => by omega, fun _ => ?_⟩)))
        (fun f => br_t rfl (xsd55_1 hc he hP h3 h3 (by omega) (fun q => ⟨fun _ => done (fun d a b d' => ?_), fun q => (q rfl).elim⟩) (fun q q2 => ⟨fun w => by omega, fun _ => ?_⟩)))
      · refine step (2 * x + 1) (by omega) (by omega) z t (fun d a b d' => ?_)
        by_cases w : d = 2 * x + 1
        · rw [w]; exact hB.1 _
        · have w2 : d = 2 * x + 2 := by omega
          rcases q with q | q
          · omega
          · rw [w2]; exact q
      · refine step (2 * x + 2) (by omega) (by omega) q (hB.2.1 _ _ _ t q2) (fun d a b d' => ?_)
        by_cases w : d = 2 * x + 1
        · rw [w]; exact so_as hB q2
        · have w2 : d = 2 * x + 2 := by omega
          rw [w2]; exact hB.1 _
      · by_cases w : d = 2 * x + 1
        · rw [w]; exact f
        · have w2 : d = 2 * x + 2 := by omega
          rcases q with q | q
          · omega
          · rw [w2]; exact q
      · refine step (2 * x + 2) (by omega) (by omega) q q2 (fun d a b d' => ?_)
        by_cases w : d = 2 * x + 1
        · rw [w]; exact so_tr hB f (so_as hB q2)
        · have w2 : d = 2 * x + 2 := by omega
          rw [w2]; exact hB.1 _
theorem xsd1 {post : SX → Prop} {o : Nat → Int32} {e root : Nat} (hc : c ≤ 40) (he : e ≤ c) (hr : root < e) (hP : so_P c o) (hH : so_Hf (so_B A) o (root + 1) e)
    (K : ∀ o', so_P c o' → so_Hf (so_B A) o' root e → so_W 0 e o o' → post (nI c, A, o', h, sp, rl, rh, st, ec, lc, pe, se, le)) : wpX_siftDown__firstOrder post (nI c, A, o, h, sp, rl, rh, st, ec, lc, pe, se, le) (nI root) (nI e) :=
  ⟨e + 1, xsd6_1 hc he K (e + 1) root 0 o (by omega) (by omega) hr (by omega) hP (so_Hx_0 hH) (so_W_r 0 e o)⟩
theorem xhe36_1 {post : SX → Prop} (hc : c ≤ 40) (K : ∀ o', so_P c o' → so_S (so_B A) o' 0 c → post (nI c, A, o', h, sp, rl, rh, st, ec, lc, pe, se, le)) :
    ∀ (n e : Nat) (o : Nat → Int32), e < n → e < c → so_P c o → so_Hf (so_B A) o 0 (e + 1) → so_Bu (so_B A) o e c → wX_orderByHeap__firstOrder_36 post n (nI e) (nI c) A o h sp rl rh st ec lc pe se le := by
  intro n
  induction n with
  | zero => intro e o h1; omega
  | succ n ih =>
    intro e o h1 h2 hP hH hU
    rw [wX_orderByHeap__firstOrder_36]
    cases e with
    | zero => exact pk_le 0 0 (fun e => K o hP (so_Bu_e hU)) (fun e => by omega)
    | succ e =>
      obtain ⟨q1, q2⟩ := so_Hf_out (so_BO A) hH hU
      exact pk_le (e + 1) 0 (fun z => by omega) (fun z => xsw1 (i := 0) (j := e + 1) (by omega) (by omega) (xsd1 (root := 0) (e := e + 1) hc (by omega) (by omega) (so_P_w hP (by omega) h2) q1 (fun o' p1 p2 p3 => nm_r (pk_m1 e) (ih e o' (by omega) (by omega) p1 p2 (so_Bu_W q2 p3 (by omega))))))
theorem xhe9_1 {post : SX → Prop} (hc : c ≤ 40) (K : ∀ o', so_P c o' → so_S (so_B A) o' 0 c → post (nI c, A, o', h, sp, rl, rh, st, ec, lc, pe, se, le)) :
    ∀ (n t : Nat) (o : Nat → Int32), t < n → t ≤ c → so_P c o → so_Hf (so_B A) o t c → wX_orderByHeap__firstOrder_9 post n (nI t - 1) (nI c) A o h sp rl rh st ec lc pe se le := by
  intro n
  induction n with
  | zero => intro t o h1; omega
  | succ n ih =>
    intro t o h1 h2 hP hH
    rw [wX_orderByHeap__firstOrder_9]
    cases t with
    | zero =>
      refine br_t (by decide) ?_
      cases c with
      | zero => exact nm_e ⟨1, br_t (by decide) (K o hP (fun i j a b d => by omega))⟩
      | succ c => exact nm_r (nI_pred c) ⟨c + 1, xhe36_1 hc K (c + 1) c o (by omega) (by omega) hP hH (so_Bu_0 (by omega))⟩
    | succ t =>
      rw [nI_pred t]
      exact br_f (nI_pos (by omega)) (xsd1 hc (Nat.le_refl _) (by omega) hP hH (fun o' p1 p2 _ => nm_r (show nI t + (-1) = nI t - 1 from (Int32.sub_eq_add_neg _ _).symm) (ih t o' (by omega) (by omega) p1 p2)))
theorem xhe1 {post : SX → Prop} {o : Nat → Int32} (hc : c ≤ 40) (hP : so_P c o) (K : ∀ o', so_P c o' → so_S (so_B A) o' 0 c → post (nI c, A, o', h, sp, rl, rh, st, ec, lc, pe, se, le)) :
    wpX_orderByHeap__firstOrder post (nI c, A, o, h, sp, rl, rh, st, ec, lc, pe, se, le) :=
  ⟨xe_n20, nm_r (e' := nI (c / 2) - 1) (congrArg (fun x => x - 1) (pk_div (a := c) (d := 2) (by omega) (by omega) (by omega))) ⟨c + 1, xhe9_1 hc K (c + 1) (c / 2) o (by omega) (by omega) hP (so_Hf_0 (by omega))⟩⟩
theorem xpa19_1 {post : Int32 → SX → Prop} {o0 : Nat → Int32} {lo hi : Nat} (hc : c ≤ 40) (hh : hi < c)
    (K : ∀ b o', so_P c o' → so_pd (so_B A) o' lo b hi → so_W lo (hi + 1) o0 o' → post (nI b) (nI c, A, o', h, sp, rl, rh, st, ec, lc, pe, se, le)) :
    ∀ (n b k : Nat) (o : Nat → Int32), hi < n + k → so_P c o → so_pa (so_B A) o lo b k hi → so_W lo (hi + 1) o0 o → wX_partition__firstOrder_19 post (nI hi) n (nI b) (nI k) (nI c) A o h sp rl rh st ec lc pe se le := by
  intro n
  induction n with
  | zero => intro b k o h1 h2 h3; have := h3.2.2.1; omega
  | succ n ih =>
    intro b k o h1 hP hp hW
    rw [wX_partition__firstOrder_19]
    have hB := so_BO A
    obtain ⟨m1, m2, m3, _⟩ := id hp
    refine pk_le hi k (fun e => ?_) (fun e => ⟨vp_in_nI (by omega) (by omega), vp_in_nI (by omega) (by omega), ?_⟩)
    · have ek : k = hi := by omega
      rw [ek] at hp
      exact xsw1 (by omega) (by omega) (K b _ (so_P_w hP (by omega) hh) (so_pa_e hB hp) (so_W_w hW m1 (by omega) (by omega) (by omega)))
    · rw [nI_clamp (n := k) (by omega), nI_clamp (n := hi) (by omega)]
      exact xb (so_P_v hP hc (by omega)) (so_P_v hP hc hh) (fun t => br_f xe_n10 (xsw1 (by omega) (by omega) (nm_r (nI_1 b) (nm_r (nI_1 k) (ih (b + 1) (k + 1) _ (by omega) (so_P_w hP (by omega) (by omega)) (so_pa_t hp e t) (so_W_w hW m1 (by omega) (by omega) (by omega)))))))
        (fun f => br_t rfl (nm_r (nI_1 k) (ih b (k + 1) o (by omega) hP (so_pa_f hp e f) hW)))
theorem xpa1 {post : Int32 → SX → Prop} {o : Nat → Int32} {lo hi : Nat} (hc : c ≤ 40) (hl : lo < hi) (hh : hi < c) (hP : so_P c o)
    (K : ∀ b o', so_P c o' → so_pd (so_B A) o' lo b hi → so_W lo (hi + 1) o o' → post (nI b) (nI c, A, o', h, sp, rl, rh, st, ec, lc, pe, se, le)) : wpX_partition__firstOrder post (nI c, A, o, h, sp, rl, rh, st, ec, lc, pe, se, le) (nI lo) (nI hi) := by
  have e : nI lo + (nI hi - nI lo) / 2 = nI (lo + (hi - lo) / 2) := by
    rw [pk_sub (by omega), show nI (hi - lo) / 2 = nI ((hi - lo) / 2) from pk_div (d := 2) (by omega) (by omega) (by omega), nI_add]
  refine ⟨xe_n20, ?_⟩
  rw [e]
  exact xsw1 (by omega) (by omega) ⟨hi + 1, xpa19_1 hc hh K (hi + 1) lo lo _ (by omega) (so_P_w hP (by omega) hh) (so_pa_0 (by omega)) (so_W_w (so_W_r lo (hi + 1) o) (by omega) (by omega) (by omega) (by omega))⟩
theorem xqa1 {post : Int32 → SX → Prop} {o : Nat → Int32} {l hh : Nat → Nat} {r a b : Nat} {y : Int32} {E : Nat → Nat → Prop} (hc : c ≤ 40) (hr : r < 40) (ha : a ≤ 40)
    (hA : ∀ t, t < r → rl t = nI (l t) ∧ rh t = nI (hh t)) (hs : so_Qs c l hh r) (hp : so_Qp (so_B A) c o l hh r (fun i j => (a ≤ i ∧ j ≤ b) ∨ E i j)) (hl : ∀ t, t < r → hh t < a) (hb : a < b → b < c)
    (hy : (y = nI b ∧ b < 40) ∨ (y = -1 ∧ b ≤ a))
    (K : ∀ rl' rh' l' h' r', (∀ t, t < r' → rl' t = nI (l' t) ∧ rh' t = nI (h' t)) → so_Qs c l' h' r' → so_Qp (so_B A) c o l' h' r' E → so_sm l' h' r' = so_sm l hh r + (b - a) →
      (∀ z, (∀ t, t < r → hh t < z) → (a < b → b < z) → ∀ t, t < r' → h' t < z) → r' ≤ r + 1 → post (nI r') (nI c, A, o, h, sp, rl', rh', st, ec, lc, pe, se, le)) :
    wpX_addRange post (nI c, A, o, h, sp, rl, rh, st, ec, lc, pe, se, le) (nI r) (nI a) y := by
  by_cases hab : a < b
  · rcases hy with ⟨e, hb'⟩ | ⟨e, f⟩
    · rw [e]
      refine xar_t hr hab hb' (K _ _ (so_pu l r a) (so_pu hh r b) (r + 1) (fun t ht => ?_) (so_Qs_push hs hab (hb hab) hl) (so_Qp_push hp) (so_sm_push l hh r a b) (fun z z1 z2 t ht => ?_) (Nat.le_refl _))
      · by_cases q : t = r
        · rw [q, so_uS, so_uS, so_pu_r, so_pu_r]; exact ⟨rfl, rfl⟩
        · rw [so_uN q, so_uN q, so_pu_n _ _ q, so_pu_n _ _ q]; exact hA t (by omega)
      · by_cases q : t = r
        · rw [q, so_pu_r]; exact z2 hab
        · rw [so_pu_n _ _ q]; exact z1 t (by omega)
    · omega
  · refine xar_f ?_ (K rl rh l hh r hA hs (so_Qp_no hp (by omega)) (by omega) (fun z z1 _ => z1) (by omega))
    rcases hy with ⟨e, hb'⟩ | ⟨e, f⟩
    · rw [e]; exact nI_nlt (by omega) (by omega)
    · rw [e, Int32.lt_iff_toInt_lt, nI_toInt (by omega), show (-1 : Int32).toInt = -1 from by decide]; omega
theorem xqu15_1 {post : SX → Prop} (hc : c ≤ 40) (K : ∀ o' rl' rh', so_P c o' → so_S (so_B A) o' 0 c → post (nI c, A, o', h, sp, rl', rh', st, ec, lc, pe, se, le)) :
    ∀ (n r rd : Nat) (o rl rh : Nat → Int32) (l hh : Nat → Nat), c < n + rd → rd ≤ c → so_P c o → (∀ t, t < r → rl t = nI (l t) ∧ rh t = nI (hh t)) → so_Qs c l hh r → so_Qp (so_B A) c o l hh r (fun _ _ => False) →
    (0 < r → so_sm l hh r + rd + 1 ≤ c) → r ≤ 40 → wX_orderByPartition__firstOrder_15 post n (nI r) (nI rd) (nI c) A o h sp rl rh st ec lc pe se le := by
  intro n
  induction n with
  | zero => intro r rd o rl rh l hh h1 h2; omega
  | succ n ih =>
    intro r rd o rl rh l hh h1 h2 hP hA hs hp hz hr
    rw [wX_orderByPartition__firstOrder_15]
    cases r with
    | zero => exact pk_le c rd (fun e => K o rl rh hP (so_Qp_e hp)) (fun e => pk_le 0 0 (fun _ => K o rl rh hP (so_Qp_e hp)) (fun z => by omega))
    | succ r =>
      have hz' := hz (by omega)
      have hsr := so_sm_r hs
      obtain ⟨a1, a2⟩ := hA r (by omega)
      obtain ⟨b1, b2⟩ := hs.1 r (by omega)
      have cr : (nI r).toNatClampNeg = r := nI_clamp (by omega)
      refine pk_le c rd (fun e => by omega) (fun e => pk_le (r + 1) 0 (fun z => by omega) (fun z => nm_r (pk_m1 r) ⟨vp_in_nI (by omega) (by omega), nm_r (e' := nI (l r)) (by rw [cr, a1]) ⟨vp_in_nI (by omega) (by omega), nm_r (e' := nI (hh r)) (by rw [cr, a2]) (xpa1 hc b1 b2 hP (fun b o' p1 p2 p3 => ?_))⟩⟩))
      have hn : ∀ t, t < r → hh t < l r := fun t ht => hs.2 t r ht (by omega)
      obtain ⟨d1, d2, _⟩ := id p2
      have hq := so_Qp_part (so_BO A) hs hp p3 p2
      have sm : so_sm l hh (r + 1) = so_sm l hh r + (hh r - l r) := rfl
      refine xqa1 hc (by omega) (by omega) (fun t ht => hA t (by omega)) (so_Qs_less hs) hq hn (fun q => by omega) ?_ (fun rl1 rh1 l1 h1' r1 k1 k2 k3 k4 k5 k6 => ?_)
      · cases b with
        | zero => exact Or.inr ⟨by decide, by omega⟩
        | succ b => exact Or.inl ⟨nI_pred b, by omega⟩
      · show wpX_addRange _ _ _ (nI b + 1) _
        rw [nI_1 b]
        refine xqa1 hc (by omega) (by omega) k1 k2 k3 (k5 _ (fun t ht => by have := hn t ht; omega) (fun q => by omega)) (fun q => b2) (Or.inl ⟨rfl, by omega⟩) (fun rl2 rh2 l2 h2' r2 j1 j2 j3 j4 j5 j6 => ?_)
        have hr2 := so_sm_r j2
        exact nm_r (nI_1 rd) (ih r2 (rd + 1) o' rl2 rh2 l2 h2' (by omega) (by omega) p1 j1 j2 j3 (fun _ => by omega) (by omega))
theorem xqu1 {post : SX → Prop} {o : Nat → Int32} (hc : c ≤ 40) (hP : so_P c o) (K : ∀ o' rl' rh', so_P c o' → so_S (so_B A) o' 0 c → post (nI c, A, o', h, sp, rl', rh', st, ec, lc, pe, se, le)) :
    wpX_orderByPartition__firstOrder post (nI c, A, o, h, sp, rl, rh, st, ec, lc, pe, se, le) := by
  unfold wpX_orderByPartition__firstOrder
  dsimp only
  refine xqa1 (r := 0) (a := 0) (b := c - 1) (l := fun _ => 0) (hh := fun _ => 0) (E := fun _ _ => False) hc (by omega) (by omega) (fun t ht => by omega) ⟨fun t ht => by omega, fun s t a b => by omega⟩
    (fun i j a b => Or.inr (Or.inr (Or.inl ⟨by omega, by omega⟩))) (fun t ht => by omega) (fun q => by omega) ?_ (fun rl' rh' l' h' r' k1 k2 k3 k4 k5 k6 => ?_)
  · cases c with
    | zero => exact Or.inr ⟨by decide, by omega⟩
    | succ c => exact Or.inl ⟨nI_pred c, by omega⟩
  · have hr := so_sm_r k2
    have e0 : so_sm (fun _ => 0) (fun _ => 0) 0 = 0 := rfl
    exact ⟨c + 1, xqu15_1 hc K (c + 1) r' 0 o rl' rh' l' h' (by omega) (by omega) hP k1 k2 k3 (fun q => by omega) (by omega)⟩
end
end
section
section
variable {A h sp rl rh st ec lc pe se le : Nat → Int32} {fc : Int32} {c : Nat}
theorem xcp3_2 {post : SX → Prop} {b : Nat} (hb : b ≤ 40) {a : Nat} {o : Nat → Int32} (K : post (nI c, A, h, so_cp o sp a b, sp, rl, rh, st, ec, lc, pe, se, le)) : ∀ n k : Nat, b < n + k → a ≤ k → k ≤ b →
    wX_copyRange__spare_secondOrder_3 post (nI b) (nI c) n (nI k) A h (so_cp o sp a k) sp rl rh st ec lc pe se le := by
  intro n
  induction n with
  | zero => intro k h1 h2; omega
  | succ n ih =>
    intro k h1 h2 h3
    rw [wX_copyRange__spare_secondOrder_3]
    have ck : (nI k).toNatClampNeg = k := nI_clamp (by omega)
    refine pk_le b k (fun e => ?_) (fun e => ⟨vp_in_nI (by omega) (by omega), vp_in_nI (by omega) (by omega), nm_r (e' := so_cp o sp a (k + 1)) (by rw [ck, so_cp_s o sp h2]) (nm_r (nI_1 k) (ih (k + 1) (by omega) (by omega) (by omega)))⟩)
    have : k = b := by omega
    rw [this]; exact K
theorem xcp2 {post : SX → Prop} {o : Nat → Int32} {a b : Nat} (hab : a ≤ b) (hb : b ≤ 40) (K : post (nI c, A, h, so_cp o sp a b, sp, rl, rh, st, ec, lc, pe, se, le)) :
    wpX_copyRange__spare_secondOrder post (nI c, A, h, o, sp, rl, rh, st, ec, lc, pe, se, le) (nI a) (nI b) := by
  refine ⟨b + 1, ?_⟩
  have h2 := xcp3_2 hb K (b + 1) a (by omega) (by omega) hab
  rw [so_cp_0] at h2
  exact h2
theorem xme92_2 {post : SX → Prop} {o : Nat → Int32} {J : Int32 → Int32 → Int32 → (Nat → Int32) → (Nat → Int32) → (Nat → Int32) → (Nat → Int32) → (Nat → Int32) → (Nat → Int32) → (Nat → Int32) → (Nat → Int32) → (Nat → Int32) → (Nat → Int32) → (Nat → Int32) → (Nat → Int32) → Prop} {x2 x4 x5 x7 : Int32} {l k : Nat}
    (hl : l < 40) (hk : k < 40) (K : J (nI (l + 1)) x7 (nI (k + 1)) A h o (upd sp k (o l)) rl rh st ec lc pe se le) : wX_mergeRuns__secondOrder_92 post J x2 x4 x5 (nI l) x7 (nI k) (nI c) A h o sp rl rh st ec lc pe se le := by
  have el : (nI l).toNatClampNeg = l := nI_clamp (by omega)
  have ek : (nI k).toNatClampNeg = k := nI_clamp (by omega)
  exact ⟨vp_in_nI hl (by omega), vp_in_nI hk (by omega), nm_r (e' := upd sp k (o l)) (by rw [el, ek]) (nm_r (nI_1 l) (nm_r (nI_1 k) K))⟩
theorem xme109_2 {post : SX → Prop} {o : Nat → Int32} {J : Int32 → Int32 → Int32 → (Nat → Int32) → (Nat → Int32) → (Nat → Int32) → (Nat → Int32) → (Nat → Int32) → (Nat → Int32) → (Nat → Int32) → (Nat → Int32) → (Nat → Int32) → (Nat → Int32) → (Nat → Int32) → (Nat → Int32) → Prop} {x2 x4 x5 x6 : Int32} {r k : Nat}
    (hr : r < 40) (hk : k < 40) (K : J x6 (nI (r + 1)) (nI (k + 1)) A h o (upd sp k (o r)) rl rh st ec lc pe se le) : wX_mergeRuns__secondOrder_109 post J x2 x4 x5 x6 (nI r) (nI k) (nI c) A h o sp rl rh st ec lc pe se le := by
  have er : (nI r).toNatClampNeg = r := nI_clamp (by omega)
  have ek : (nI k).toNatClampNeg = k := nI_clamp (by omega)
  exact ⟨vp_in_nI hr (by omega), vp_in_nI hk (by omega), nm_r (e' := upd sp k (o r)) (by rw [er, ek]) (nm_r (nI_1 r) (nm_r (nI_1 k) K))⟩
theorem xme56_2 {post : SX → Prop} {o : Nat → Int32} {lo mi hi : Nat} (hc : c ≤ 40) (hhi : hi ≤ c) (hP : so_P c o) (s1 : so_S (so_B A) o lo mi) (s2 : so_S (so_B A) o mi hi)
    (K : ∀ o' s', so_P c o' → so_S (so_B A) o' lo hi → (∀ m, m < lo ∨ hi ≤ m → o' m = o m) → post (nI c, A, h, o', s', rl, rh, st, ec, lc, pe, se, le)) :
    ∀ (n l r k : Nat) (s : Nat → Int32), hi < n + k → k ≤ hi → so_m (so_B A) o lo mi hi l r k s → wX_mergeRuns__secondOrder_56 post (nI lo) (nI mi) (nI hi) (nI c) n (nI l) (nI r) (nI k) A h o s rl rh st ec lc pe se le := by
  intro n
  induction n with
  | zero => intro l r k s h1 h2; omega
  | succ n ih =>
    intro l r k s h1 h2 hm
    rw [wX_mergeRuns__secondOrder_56]
    have hB := so_BO A
    obtain ⟨m1, m2, m3, m4, m5, _⟩ := id hm
    refine pk_le hi k (fun e => ?_) (fun e => pk_le hi r (fun e2 => xme92_2 (by omega) (by omega) (ih (l + 1) r (k + 1) _ (by omega) (by omega) (so_m_l hB hm s1 s2 (by omega) (Or.inl e2))))
      (fun e2 => pk_le mi l (fun e3 => xme109_2 (by omega) (by omega) (ih l (r + 1) (k + 1) _ (by omega) (by omega) (so_m_r hB hm s1 s2 e2 (Or.inl e3)))) (fun e3 => ⟨vp_in_nI (by omega) (by omega), vp_in_nI (by omega) (by omega), ?_⟩)))
    · have ek : k = hi := by omega
      rw [ek] at hm
      have hq := so_m_e hm hhi hP
      exact xcp2 (by omega) (by omega) (K _ s hq.1 hq.2 (fun m a => so_cp_o o s a))
    · rw [nI_clamp (n := l) (by omega), nI_clamp (n := r) (by omega)]
      exact xb (so_P_v hP hc (by omega)) (so_P_v hP hc (by omega)) (fun t => br_f xe_n10 (xme92_2 (by omega) (by omega) (ih (l + 1) r (k + 1) _ (by omega) (by omega) (so_m_l hB hm s1 s2 e3 (Or.inr t)))))
        (fun f => br_t rfl (xme109_2 (by omega) (by omega) (ih l (r + 1) (k + 1) _ (by omega) (by omega) (so_m_r hB hm s1 s2 e2 (Or.inr f)))))
theorem xme20_2 {post : SX → Prop} {o : Nat → Int32} {lo mi w : Nat} (hc : c ≤ 40) (hw : w ≤ 80) (hlo : lo ≤ mi) (hmi : mi ≤ c) (hP : so_P c o) (s1 : so_S (so_B A) o lo mi) (s2 : so_G (so_B A) o mi (mi + w) c)
    (K : ∀ o' s' hi, (hi = c ∧ c ≤ mi + w ∨ hi = mi + w ∧ mi + w < c) → so_P c o' → so_S (so_B A) o' lo hi → (∀ m, m < lo ∨ hi ≤ m → o' m = o m) → post (nI c, A, h, o', s', rl, rh, st, ec, lc, pe, se, le)) :
    wX_mergeRuns__secondOrder_20 post (nI lo) (nI w) (nI mi) (nI c) A h o sp rl rh st ec lc pe se le := by
  refine pk_le c (mi + w) (fun e => ⟨c + 1, xme56_2 hc (Nat.le_refl _) hP s1 (fun i j a b d => s2 i j a b (by omega) d) (fun o' s' p1 p2 p3 => K o' s' c (Or.inl ⟨rfl, e⟩) p1 p2 p3) (c + 1) lo mi lo sp (by omega) (by omega) (so_m_0 hlo hmi sp)⟩)
    (fun e => nm_r (nI_add mi w) ⟨c + 1, xme56_2 hc (by omega) hP s1 (fun i j a b d => s2 i j a b d (by omega)) (fun o' s' p1 p2 p3 => K o' s' (mi + w) (Or.inr ⟨rfl, e⟩) p1 p2 p3) (c + 1) lo mi lo sp (by omega) (by omega) (so_m_0 hlo (by omega) sp)⟩) rfl (nI_add mi w)
theorem xmr2 {post : SX → Prop} {o : Nat → Int32} {lo w : Nat} (hc : c ≤ 40) (hw : w ≤ 80) (hlo : lo < c) (hP : so_P c o) (s1 : so_G (so_B A) o lo (lo + w) c) (s2 : so_G (so_B A) o (lo + w) (lo + w + w) c)
    (K : ∀ o' s', so_P c o' → so_G (so_B A) o' lo (lo + w + w) c → (∀ m, m < lo ∨ lo + w + w ≤ m → o' m = o m) → post (nI c, A, h, o', s', rl, rh, st, ec, lc, pe, se, le)) :
    wpX_mergeRuns__secondOrder post (nI c, A, h, o, sp, rl, rh, st, ec, lc, pe, se, le) (nI lo) (nI w) := by
  refine pk_le c (lo + w) (fun e => ?_) (fun e => ?_) rfl (nI_add lo w)
  · refine xme20_2 hc hw (by omega) (Nat.le_refl _) hP (fun i j a b d => s1 i j a b (by omega) d) (fun i j a b d d' => by omega) (fun o' s' hi hh p1 p2 p3 => K o' s' p1 (fun i j a b d d' => p2 i j a b (by omega)) (fun m hm => ?_))
    by_cases z : m < lo
    · exact p3 m (Or.inl z)
    · exact p3 m (Or.inr (by omega))
  · rw [nI_add]
    refine xme20_2 hc hw (by omega) (by omega) hP (fun i j a b d => s1 i j a b d (by omega)) s2 (fun o' s' hi hh p1 p2 p3 => K o' s' p1 (fun i j a b d d' => p2 i j a b (by omega)) (fun m hm => ?_))
    by_cases z : m < lo
    · exact p3 m (Or.inl z)
    · exact p3 m (Or.inr (by omega))
theorem xmg12_2 {post : SX → Prop} {J : Int32 → Int32 → (Nat → Int32) → (Nat → Int32) → (Nat → Int32) → (Nat → Int32) → (Nat → Int32) → (Nat → Int32) → (Nat → Int32) → (Nat → Int32) → (Nat → Int32) → (Nat → Int32) → (Nat → Int32) → (Nat → Int32) → Prop} {w : Nat}
    (hc : c ≤ 40) (hw : w ≤ 40) (hw0 : 0 < w) (K : ∀ o' s', so_P c o' → so_V (so_B A) o' (2 * w) c → J (nI (2 * w)) (nI c) A h o' s' rl rh st ec lc pe se le) :
    ∀ (n q : Nat) (o s : Nat → Int32), 120 < n + q * (2 * w) → q * (2 * w) ≤ 120 → so_P c o → so_Vi (so_B A) o w q c → wX_orderByMerging__secondOrder_12 post J (nI w) n (nI (q * (2 * w))) (nI c) A h o s rl rh st ec lc pe se le := by
  intro n
  induction n with
  | zero =>
    intro q o s h1 h2 hP hV
    omega
  | succ n ih =>
    intro q o s h1 h2 hP hV
    rw [wX_orderByMerging__secondOrder_12]
    have e2 : (2 : Int32) * nI w = nI (2 * w) := pk_mul 2 w
    have e3 : (q + 1) * (2 * w) = q * (2 * w) + 2 * w := Nat.succ_mul q (2 * w)
    have e4 : nI (q * (2 * w)) + 2 * nI w = nI ((q + 1) * (2 * w)) := by rw [e2, nI_add, e3]
    have hV2 := so_Vi_a hV
    refine pk_le c (q * (2 * w)) (fun e => nm_r e2 (K o s hP (so_Vi_e hV e))) (fun e => xmr2 hc (by omega) e hP hV2.1 hV2.2 (fun o' s' p1 p2 p3 => nm_r e4 (ih (q + 1) o' s' (by omega) (by omega) p1 (so_Vi_s hV (fun m hm => p3 m (by omega)) (fun i j a b d d' => p2 i j a b (by omega) d'))))) rfl rfl (by omega) (by omega)
theorem xmg2_2 {post : SX → Prop} (hc : c ≤ 40) (K : ∀ o' s', so_P c o' → so_S (so_B A) o' 0 c → post (nI c, A, h, o', s', rl, rh, st, ec, lc, pe, se, le)) :
    ∀ (n w : Nat) (o s : Nat → Int32), 80 < n + w → w ≤ 80 → 0 < w → so_P c o → so_V (so_B A) o w c → wX_orderByMerging__secondOrder_2 post n (nI w) (nI c) A h o s rl rh st ec lc pe se le := by
  intro n
  induction n with
  | zero => intro w o s h1 h2 h3 hP hV; omega
  | succ n ih =>
    intro w o s h1 h2 h3 hP hV
    rw [wX_orderByMerging__secondOrder_2]
    refine pk_le c w (fun e => K o s hP (so_V_e hV e)) (fun e => ⟨121, ?_⟩)
    have hh := xmg12_2 (post := post) hc (by omega) h3 (fun o' s' p1 p2 => ih (2 * w) o' s' (by omega) (by omega) (by omega) p1 p2) 121 0 o s (by omega) (by omega) hP (so_Vi_0 hV)
    rw [Nat.zero_mul] at hh
    exact hh
theorem xmg2 {post : SX → Prop} {o : Nat → Int32} (hc : c ≤ 40) (hP : so_P c o) (K : ∀ o' s', so_P c o' → so_S (so_B A) o' 0 c → post (nI c, A, h, o', s', rl, rh, st, ec, lc, pe, se, le)) :
    wpX_orderByMerging__secondOrder post (nI c, A, h, o, sp, rl, rh, st, ec, lc, pe, se, le) :=
  ⟨80, xmg2_2 hc K 80 1 o sp (by omega) (by omega) (by omega) hP (so_V_1 o c)⟩
theorem xsd80_2 {post : SX → Prop} {o : Nat → Int32} {J : Int32 → Int32 → Int32 → (Nat → Int32) → (Nat → Int32) → (Nat → Int32) → (Nat → Int32) → (Nat → Int32) → (Nat → Int32) → (Nat → Int32) → (Nat → Int32) → (Nat → Int32) → (Nat → Int32) → (Nat → Int32) → (Nat → Int32) → Prop} {x3 : Int32} {x l y : Nat}
    (hx : x < 40) (hy : y < 40) (h1 : y = x → post (nI c, A, h, o, sp, rl, rh, st, ec, lc, pe, se, le)) (h2 : y ≠ x → J (nI y) (nI (l + 1)) (nI c) A h (so_w o x y) sp rl rh st ec lc pe se le) : wX_siftDown__secondOrder_80 post J x3 (nI x) (nI l) (nI y) (nI c) A h o sp rl rh st ec lc pe se le :=
  pk_eq y x h1 (fun e => xsw2 hx hy (nm_r (nI_1 l) (h2 e)))
theorem xsd55_2 {post : SX → Prop} {o : Nat → Int32} {J : Int32 → Int32 → Int32 → (Nat → Int32) → (Nat → Int32) → (Nat → Int32) → (Nat → Int32) → (Nat → Int32) → (Nat → Int32) → (Nat → Int32) → (Nat → Int32) → (Nat → Int32) → (Nat → Int32) → (Nat → Int32) → (Nat → Int32) → Prop} {e x l y r : Nat}
    (hc : c ≤ 40) (he : e ≤ c) (hP : so_P c o) (hx : x < e) (hy : y < e) (hr : r ≤ 100)
    (h1 : (e ≤ r ∨ so_B A (o y) (o r) = false) → (y = x → post (nI c, A, h, o, sp, rl, rh, st, ec, lc, pe, se, le)) ∧ (y ≠ x → J (nI y) (nI (l + 1)) (nI c) A h (so_w o x y) sp rl rh st ec lc pe se le))
    (h2 : r < e → so_B A (o y) (o r) = true → (r = x → post (nI c, A, h, o, sp, rl, rh, st, ec, lc, pe, se, le)) ∧ (r ≠ x → J (nI r) (nI (l + 1)) (nI c) A h (so_w o x r) sp rl rh st ec lc pe se le)) :
    wX_siftDown__secondOrder_55 post J (nI e) (nI x) (nI l) (nI y) (nI r) (nI c) A h o sp rl rh st ec lc pe se le := by
  refine pk_le e r (fun z => xsd80_2 (by omega) (by omega) (h1 (Or.inl z)).1 (h1 (Or.inl z)).2) (fun z => ⟨vp_in_nI (by omega) (by omega), vp_in_nI (by omega) (by omega), ?_⟩)
  rw [nI_clamp (n := y) (by omega), nI_clamp (n := r) (by omega)]
  exact xb (so_P_v hP hc (by omega)) (so_P_v hP hc (by omega)) (fun t => br_f xe_n10 (xsd80_2 (by omega) (by omega) (h2 z t).1 (h2 z t).2)) (fun f => br_t rfl (xsd80_2 (by omega) (by omega) (h1 (Or.inr f)).1 (h1 (Or.inr f)).2))
theorem xsd6_2 {post : SX → Prop} {o0 : Nat → Int32} {e root : Nat} (hc : c ≤ 40) (he : e ≤ c)
    (K : ∀ o', so_P c o' → so_Hf (so_B A) o' root e → so_W 0 e o0 o' → post (nI c, A, h, o', sp, rl, rh, st, ec, lc, pe, se, le)) :
    ∀ (n x l : Nat) (o : Nat → Int32), e < n + l → l ≤ x → x < e → root ≤ x → so_P c o → so_Hx (so_B A) o root e x → so_W 0 e o0 o → wX_siftDown__secondOrder_6 post (nI e) n (nI x) (nI l) (nI c) A h o sp rl rh st ec lc pe se le := by
  intro n
  induction n with
  | zero => intro x l o h1 h2 h3; omega
  | succ n ih =>
    intro x l o h1 h2 h3 h4 hP hH hW
    rw [wX_siftDown__secondOrder_6]
    have hB := so_BO A
    have e7 : (2 : Int32) * nI x + 1 = nI (2 * x + 1) := by rw [show (2 : Int32) * nI x = nI (2 * x) from pk_mul 2 x, nI_1]
    have e8 : nI (2 * x + 1) + 1 = nI (2 * x + 2) := nI_1 (2 * x + 1)
    have done : (∀ d, 0 < d → d < e → (d - 1) / 2 = x → so_B A (o x) (o d) = false) → post (nI c, A, h, o, sp, rl, rh, st, ec, lc, pe, se, le) := fun z => K o hP (so_Hx_e hH z) hW
    have step : ∀ y, (y - 1) / 2 = x → 0 < y → y < e → so_B A (o x) (o y) = true → (∀ d, 0 < d → d < e → (d - 1) / 2 = x → so_B A (o y) (o d) = false) →
        wX_siftDown__secondOrder_6 post (nI e) n (nI y) (nI (l + 1)) (nI c) A h (so_w o x y) sp rl rh st ec lc pe se le := fun y z1 z2 z3 z4 z5 =>
      ih y (l + 1) _ (by omega) (by omega) z3 (by omega) (so_P_w hP (by omega) (by omega)) (so_Hx_s hB hH h4 z1 z2 z3 z4 z5) (so_W_w hW (by omega) h3 (by omega) z3)
    refine br_f (nI_ge (by omega) (by omega)) (nm_r e7 (nm_r e8 ?_))
    refine pk_le e (2 * x + 1) (fun z => ?_) (fun z => ⟨vp_in_nI (by omega) (by omega), vp_in_nI (by omega) (by omega), ?_⟩)
    · exact xsd55_2 hc he hP h3 h3 (by omega) (fun _ => ⟨fun _ => done (fun d a b d' => by omega), fun q => (q rfl).elim⟩) (fun q => by omega)
    · rw [nI_clamp (n := x) (by omega), nI_clamp (n := 2 * x + 1) (by omega)]
      refine xb (so_P_v hP hc (by omega)) (so_P_v hP hc (by omega)) (fun t => br_f xe_n10 (xsd55_2 hc he hP h3 z (by omega) (fun q => ⟨fun w => by omega, fun _ => ?_⟩) (fun q q2 => ⟨fun w => by omega, fun _ => ?_⟩)))
        (fun f => br_t rfl (xsd55_2 hc he hP h3 h3 (by omega) (fun q => ⟨fun _ => done (fun d a b d' => ?_), fun q => (q rfl).elim⟩) (fun q q2 => ⟨fun w => by omega, fun _ => ?_⟩)))
      · refine step (2 * x + 1) (by omega) (by omega) z t (fun d a b d' => ?_)
        by_cases w : d = 2 * x + 1
        · rw [w]; exact hB.1 _
        · have w2 : d = 2 * x + 2 := by omega
          rcases q with q | q
          · omega
          · rw [w2]; exact q
      · refine step (2 * x + 2) (by omega) (by omega) q (hB.2.1 _ _ _ t q2) (fun d a b d' => ?_)
        by_cases w : d = 2 * x + 1
        · rw [w]; exact so_as hB q2
        · have w2 : d = 2 * x + 2 := by omega
          rw [w2]; exact hB.1 _
      · by_cases w : d = 2 * x + 1
        · rw [w]; exact f
        · have w2 : d = 2 * x + 2 := by omega
          rcases q with q | q
          · omega
          · rw [w2]; exact q
      · refine step (2 * x + 2) (by omega) (by omega) q q2 (fun d a b d' => ?_)
        by_cases w : d = 2 * x + 1
        · rw [w]; exact so_tr hB f (so_as hB q2)
        · have w2 : d = 2 * x + 2 := by omega
          rw [w2]; exact hB.1 _
theorem xsd2 {post : SX → Prop} {o : Nat → Int32} {e root : Nat} (hc : c ≤ 40) (he : e ≤ c) (hr : root < e) (hP : so_P c o) (hH : so_Hf (so_B A) o (root + 1) e)
    (K : ∀ o', so_P c o' → so_Hf (so_B A) o' root e → so_W 0 e o o' → post (nI c, A, h, o', sp, rl, rh, st, ec, lc, pe, se, le)) : wpX_siftDown__secondOrder post (nI c, A, h, o, sp, rl, rh, st, ec, lc, pe, se, le) (nI root) (nI e) :=
  ⟨e + 1, xsd6_2 hc he K (e + 1) root 0 o (by omega) (by omega) hr (by omega) hP (so_Hx_0 hH) (so_W_r 0 e o)⟩
theorem xhe36_2 {post : SX → Prop} (hc : c ≤ 40) (K : ∀ o', so_P c o' → so_S (so_B A) o' 0 c → post (nI c, A, h, o', sp, rl, rh, st, ec, lc, pe, se, le)) :
    ∀ (n e : Nat) (o : Nat → Int32), e < n → e < c → so_P c o → so_Hf (so_B A) o 0 (e + 1) → so_Bu (so_B A) o e c → wX_orderByHeap__secondOrder_36 post n (nI e) (nI c) A h o sp rl rh st ec lc pe se le := by
  intro n
  induction n with
  | zero => intro e o h1; omega
  | succ n ih =>
    intro e o h1 h2 hP hH hU
    rw [wX_orderByHeap__secondOrder_36]
    cases e with
    | zero => exact pk_le 0 0 (fun e => K o hP (so_Bu_e hU)) (fun e => by omega)
    | succ e =>
      obtain ⟨q1, q2⟩ := so_Hf_out (so_BO A) hH hU
      exact pk_le (e + 1) 0 (fun z => by omega) (fun z => xsw2 (i := 0) (j := e + 1) (by omega) (by omega) (xsd2 (root := 0) (e := e + 1) hc (by omega) (by omega) (so_P_w hP (by omega) h2) q1 (fun o' p1 p2 p3 => nm_r (pk_m1 e) (ih e o' (by omega) (by omega) p1 p2 (so_Bu_W q2 p3 (by omega))))))
theorem xhe9_2 {post : SX → Prop} (hc : c ≤ 40) (K : ∀ o', so_P c o' → so_S (so_B A) o' 0 c → post (nI c, A, h, o', sp, rl, rh, st, ec, lc, pe, se, le)) :
    ∀ (n t : Nat) (o : Nat → Int32), t < n → t ≤ c → so_P c o → so_Hf (so_B A) o t c → wX_orderByHeap__secondOrder_9 post n (nI t - 1) (nI c) A h o sp rl rh st ec lc pe se le := by
  intro n
  induction n with
  | zero => intro t o h1; omega
  | succ n ih =>
    intro t o h1 h2 hP hH
    rw [wX_orderByHeap__secondOrder_9]
    cases t with
    | zero =>
      refine br_t (by decide) ?_
      cases c with
      | zero => exact nm_e ⟨1, br_t (by decide) (K o hP (fun i j a b d => by omega))⟩
      | succ c => exact nm_r (nI_pred c) ⟨c + 1, xhe36_2 hc K (c + 1) c o (by omega) (by omega) hP hH (so_Bu_0 (by omega))⟩
    | succ t =>
      rw [nI_pred t]
      exact br_f (nI_pos (by omega)) (xsd2 hc (Nat.le_refl _) (by omega) hP hH (fun o' p1 p2 _ => nm_r (show nI t + (-1) = nI t - 1 from (Int32.sub_eq_add_neg _ _).symm) (ih t o' (by omega) (by omega) p1 p2)))
theorem xhe2 {post : SX → Prop} {o : Nat → Int32} (hc : c ≤ 40) (hP : so_P c o) (K : ∀ o', so_P c o' → so_S (so_B A) o' 0 c → post (nI c, A, h, o', sp, rl, rh, st, ec, lc, pe, se, le)) :
    wpX_orderByHeap__secondOrder post (nI c, A, h, o, sp, rl, rh, st, ec, lc, pe, se, le) :=
  ⟨xe_n20, nm_r (e' := nI (c / 2) - 1) (congrArg (fun x => x - 1) (pk_div (a := c) (d := 2) (by omega) (by omega) (by omega))) ⟨c + 1, xhe9_2 hc K (c + 1) (c / 2) o (by omega) (by omega) hP (so_Hf_0 (by omega))⟩⟩
theorem xpa19_2 {post : Int32 → SX → Prop} {o0 : Nat → Int32} {lo hi : Nat} (hc : c ≤ 40) (hh : hi < c)
    (K : ∀ b o', so_P c o' → so_pd (so_B A) o' lo b hi → so_W lo (hi + 1) o0 o' → post (nI b) (nI c, A, h, o', sp, rl, rh, st, ec, lc, pe, se, le)) :
    ∀ (n b k : Nat) (o : Nat → Int32), hi < n + k → so_P c o → so_pa (so_B A) o lo b k hi → so_W lo (hi + 1) o0 o → wX_partition__secondOrder_19 post (nI hi) n (nI b) (nI k) (nI c) A h o sp rl rh st ec lc pe se le := by
  intro n
  induction n with
  | zero => intro b k o h1 h2 h3; have := h3.2.2.1; omega
  | succ n ih =>
    intro b k o h1 hP hp hW
    rw [wX_partition__secondOrder_19]
    have hB := so_BO A
    obtain ⟨m1, m2, m3, _⟩ := id hp
    refine pk_le hi k (fun e => ?_) (fun e => ⟨vp_in_nI (by omega) (by omega), vp_in_nI (by omega) (by omega), ?_⟩)
    · have ek : k = hi := by omega
      rw [ek] at hp
      exact xsw2 (by omega) (by omega) (K b _ (so_P_w hP (by omega) hh) (so_pa_e hB hp) (so_W_w hW m1 (by omega) (by omega) (by omega)))
    · rw [nI_clamp (n := k) (by omega), nI_clamp (n := hi) (by omega)]
      exact xb (so_P_v hP hc (by omega)) (so_P_v hP hc hh) (fun t => br_f xe_n10 (xsw2 (by omega) (by omega) (nm_r (nI_1 b) (nm_r (nI_1 k) (ih (b + 1) (k + 1) _ (by omega) (so_P_w hP (by omega) (by omega)) (so_pa_t hp e t) (so_W_w hW m1 (by omega) (by omega) (by omega)))))))
        (fun f => br_t rfl (nm_r (nI_1 k) (ih b (k + 1) o (by omega) hP (so_pa_f hp e f) hW)))
theorem xpa2 {post : Int32 → SX → Prop} {o : Nat → Int32} {lo hi : Nat} (hc : c ≤ 40) (hl : lo < hi) (hh : hi < c) (hP : so_P c o)
    (K : ∀ b o', so_P c o' → so_pd (so_B A) o' lo b hi → so_W lo (hi + 1) o o' → post (nI b) (nI c, A, h, o', sp, rl, rh, st, ec, lc, pe, se, le)) : wpX_partition__secondOrder post (nI c, A, h, o, sp, rl, rh, st, ec, lc, pe, se, le) (nI lo) (nI hi) := by
  have e : nI lo + (nI hi - nI lo) / 2 = nI (lo + (hi - lo) / 2) := by
    rw [pk_sub (by omega), show nI (hi - lo) / 2 = nI ((hi - lo) / 2) from pk_div (d := 2) (by omega) (by omega) (by omega), nI_add]
  refine ⟨xe_n20, ?_⟩
  rw [e]
  exact xsw2 (by omega) (by omega) ⟨hi + 1, xpa19_2 hc hh K (hi + 1) lo lo _ (by omega) (so_P_w hP (by omega) hh) (so_pa_0 (by omega)) (so_W_w (so_W_r lo (hi + 1) o) (by omega) (by omega) (by omega) (by omega))⟩
theorem xqa2 {post : Int32 → SX → Prop} {o : Nat → Int32} {l hh : Nat → Nat} {r a b : Nat} {y : Int32} {E : Nat → Nat → Prop} (hc : c ≤ 40) (hr : r < 40) (ha : a ≤ 40)
    (hA : ∀ t, t < r → rl t = nI (l t) ∧ rh t = nI (hh t)) (hs : so_Qs c l hh r) (hp : so_Qp (so_B A) c o l hh r (fun i j => (a ≤ i ∧ j ≤ b) ∨ E i j)) (hl : ∀ t, t < r → hh t < a) (hb : a < b → b < c)
    (hy : (y = nI b ∧ b < 40) ∨ (y = -1 ∧ b ≤ a))
    (K : ∀ rl' rh' l' h' r', (∀ t, t < r' → rl' t = nI (l' t) ∧ rh' t = nI (h' t)) → so_Qs c l' h' r' → so_Qp (so_B A) c o l' h' r' E → so_sm l' h' r' = so_sm l hh r + (b - a) →
      (∀ z, (∀ t, t < r → hh t < z) → (a < b → b < z) → ∀ t, t < r' → h' t < z) → r' ≤ r + 1 → post (nI r') (nI c, A, h, o, sp, rl', rh', st, ec, lc, pe, se, le)) :
    wpX_addRange post (nI c, A, h, o, sp, rl, rh, st, ec, lc, pe, se, le) (nI r) (nI a) y := by
  by_cases hab : a < b
  · rcases hy with ⟨e, hb'⟩ | ⟨e, f⟩
    · rw [e]
      refine xar_t hr hab hb' (K _ _ (so_pu l r a) (so_pu hh r b) (r + 1) (fun t ht => ?_) (so_Qs_push hs hab (hb hab) hl) (so_Qp_push hp) (so_sm_push l hh r a b) (fun z z1 z2 t ht => ?_) (Nat.le_refl _))
      · by_cases q : t = r
        · rw [q, so_uS, so_uS, so_pu_r, so_pu_r]; exact ⟨rfl, rfl⟩
        · rw [so_uN q, so_uN q, so_pu_n _ _ q, so_pu_n _ _ q]; exact hA t (by omega)
      · by_cases q : t = r
        · rw [q, so_pu_r]; exact z2 hab
        · rw [so_pu_n _ _ q]; exact z1 t (by omega)
    · omega
  · refine xar_f ?_ (K rl rh l hh r hA hs (so_Qp_no hp (by omega)) (by omega) (fun z z1 _ => z1) (by omega))
    rcases hy with ⟨e, hb'⟩ | ⟨e, f⟩
    · rw [e]; exact nI_nlt (by omega) (by omega)
    · rw [e, Int32.lt_iff_toInt_lt, nI_toInt (by omega), show (-1 : Int32).toInt = -1 from by decide]; omega
theorem xqu15_2 {post : SX → Prop} (hc : c ≤ 40) (K : ∀ o' rl' rh', so_P c o' → so_S (so_B A) o' 0 c → post (nI c, A, h, o', sp, rl', rh', st, ec, lc, pe, se, le)) :
    ∀ (n r rd : Nat) (o rl rh : Nat → Int32) (l hh : Nat → Nat), c < n + rd → rd ≤ c → so_P c o → (∀ t, t < r → rl t = nI (l t) ∧ rh t = nI (hh t)) → so_Qs c l hh r → so_Qp (so_B A) c o l hh r (fun _ _ => False) →
    (0 < r → so_sm l hh r + rd + 1 ≤ c) → r ≤ 40 → wX_orderByPartition__secondOrder_15 post n (nI r) (nI rd) (nI c) A h o sp rl rh st ec lc pe se le := by
  intro n
  induction n with
  | zero => intro r rd o rl rh l hh h1 h2; omega
  | succ n ih =>
    intro r rd o rl rh l hh h1 h2 hP hA hs hp hz hr
    rw [wX_orderByPartition__secondOrder_15]
    cases r with
    | zero => exact pk_le c rd (fun e => K o rl rh hP (so_Qp_e hp)) (fun e => pk_le 0 0 (fun _ => K o rl rh hP (so_Qp_e hp)) (fun z => by omega))
    | succ r =>
      have hz' := hz (by omega)
      have hsr := so_sm_r hs
      obtain ⟨a1, a2⟩ := hA r (by omega)
      obtain ⟨b1, b2⟩ := hs.1 r (by omega)
      have cr : (nI r).toNatClampNeg = r := nI_clamp (by omega)
      refine pk_le c rd (fun e => by omega) (fun e => pk_le (r + 1) 0 (fun z => by omega) (fun z => nm_r (pk_m1 r) ⟨vp_in_nI (by omega) (by omega), nm_r (e' := nI (l r)) (by rw [cr, a1]) ⟨vp_in_nI (by omega) (by omega), nm_r (e' := nI (hh r)) (by rw [cr, a2]) (xpa2 hc b1 b2 hP (fun b o' p1 p2 p3 => ?_))⟩⟩))
      have hn : ∀ t, t < r → hh t < l r := fun t ht => hs.2 t r ht (by omega)
      obtain ⟨d1, d2, _⟩ := id p2
      have hq := so_Qp_part (so_BO A) hs hp p3 p2
      have sm : so_sm l hh (r + 1) = so_sm l hh r + (hh r - l r) := rfl
      refine xqa2 hc (by omega) (by omega) (fun t ht => hA t (by omega)) (so_Qs_less hs) hq hn (fun q => by omega) ?_ (fun rl1 rh1 l1 h1' r1 k1 k2 k3 k4 k5 k6 => ?_)
      · cases b with
        | zero => exact Or.inr ⟨by decide, by omega⟩
        | succ b => exact Or.inl ⟨nI_pred b, by omega⟩
      · show wpX_addRange _ _ _ (nI b + 1) _
        rw [nI_1 b]
        refine xqa2 hc (by omega) (by omega) k1 k2 k3 (k5 _ (fun t ht => by have := hn t ht; omega) (fun q => by omega)) (fun q => b2) (Or.inl ⟨rfl, by omega⟩) (fun rl2 rh2 l2 h2' r2 j1 j2 j3 j4 j5 j6 => ?_)
        have hr2 := so_sm_r j2
        exact nm_r (nI_1 rd) (ih r2 (rd + 1) o' rl2 rh2 l2 h2' (by omega) (by omega) p1 j1 j2 j3 (fun _ => by omega) (by omega))
theorem xqu2 {post : SX → Prop} {o : Nat → Int32} (hc : c ≤ 40) (hP : so_P c o) (K : ∀ o' rl' rh', so_P c o' → so_S (so_B A) o' 0 c → post (nI c, A, h, o', sp, rl', rh', st, ec, lc, pe, se, le)) :
    wpX_orderByPartition__secondOrder post (nI c, A, h, o, sp, rl, rh, st, ec, lc, pe, se, le) := by
  unfold wpX_orderByPartition__secondOrder
  dsimp only
  refine xqa2 (r := 0) (a := 0) (b := c - 1) (l := fun _ => 0) (hh := fun _ => 0) (E := fun _ _ => False) hc (by omega) (by omega) (fun t ht => by omega) ⟨fun t ht => by omega, fun s t a b => by omega⟩
    (fun i j a b => Or.inr (Or.inr (Or.inl ⟨by omega, by omega⟩))) (fun t ht => by omega) (fun q => by omega) ?_ (fun rl' rh' l' h' r' k1 k2 k3 k4 k5 k6 => ?_)
  · cases c with
    | zero => exact Or.inr ⟨by decide, by omega⟩
    | succ c => exact Or.inl ⟨nI_pred c, by omega⟩
  · have hr := so_sm_r k2
    have e0 : so_sm (fun _ => 0) (fun _ => 0) 0 = 0 := rfl
    exact ⟨c + 1, xqu15_2 hc K (c + 1) r' 0 o rl' rh' l' h' (by omega) (by omega) hP k1 k2 k3 (fun q => by omega) (by omega)⟩
end
end
section
section
variable {A h sp rl rh st ec lc pe se le : Nat → Int32} {fc : Int32} {c : Nat}
theorem xra2_1 {post : SX → Prop} (hc : c ≤ 40) (K : ∀ o', so_D (so_B A) c o' → post (nI c, A, o', h, sp, rl, rh, st, ec, lc, pe, se, le)) :
    ∀ (n p : Nat) (o : Nat → Int32), c < n + p → p ≤ c → so_fi (so_B A) c p o → wX_orderByRank__firstOrder_2 post (nI c) n (nI p) A o h sp rl rh st ec lc pe se le := by
  intro n
  induction n with
  | zero => intro p o h1 h2; omega
  | succ n ih =>
    intro p o h1 h2 hf
    rw [wX_orderByRank__firstOrder_2]
    refine pk_le c p (fun e => K o ?_) (fun e => xrk hc (by omega) ?_)
    · have : p = c := by omega
      rw [this] at hf; exact hf
    · have hr := so_rk_lt (so_BO A) e
      exact ⟨vp_in_nI (by omega) (by omega), nm_r (e' := upd o (so_rk (so_B A) c (nI p)) (nI p)) (by rw [nI_clamp (by omega)]) (nm_r (nI_1 p) (ih (p + 1) _ (by omega) (by omega) (so_fi_s (so_BO A) (by omega) e hf)))⟩
theorem xra1 {post : SX → Prop} {o : Nat → Int32} (hc : c ≤ 40) (K : ∀ o', so_D (so_B A) c o' → post (nI c, A, o', h, sp, rl, rh, st, ec, lc, pe, se, le)) : wpX_orderByRank__firstOrder post (nI c, A, o, h, sp, rl, rh, st, ec, lc, pe, se, le) :=
  ⟨c + 1, xra2_1 hc K (c + 1) 0 o (by omega) (by omega) (so_fi_0 c o)⟩
theorem xco90_1 {post : SX → Prop} (hc : c ≤ 40) (hR : so_R A c) (K : ∀ o' st', so_D (so_B A) c o' → post (nI c, A, o', h, sp, rl, rh, st', ec, lc, pe, se, le)) :
    ∀ (n p : Nat) (o st : Nat → Int32), c < n + p → p ≤ c → so_fi (so_B A) c p o → (∀ j, j < 199 → st j = nI (so_c (fun m => decide (so_kn (A m) < j)) c + so_c (fun m => decide (so_kn (A m) = j)) p)) →
    wX_orderByCounting__firstOrder_90 post (nI c) n (nI p) A o h sp rl rh st ec lc pe se le := by
  intro n
  induction n with
  | zero => intro p o st h1 h2; omega
  | succ n ih =>
    intro p o st h1 h2 hf hst
    rw [wX_orderByCounting__firstOrder_90]
    refine pk_le c p (fun e => K o st ?_) (fun e => xky (by omega) ?_)
    · have : p = c := by omega
      rw [this] at hf; exact hf
    · obtain ⟨k1, k2, k3⟩ := so_knk (hR p e).1 (hR p e).2
      have hr := so_rk_lt (so_BO A) e
      have hs := hst (so_kn (A p)) k1
      rw [so_ck (L := A) (ky := fun m => so_kn (A m)) (by omega) (fun i hi => (so_knk (hR i hi).1 (hR i hi).2).2.2) e] at hs
      rw [k2]
      have ck : (nI (so_kn (A p))).toNatClampNeg = so_kn (A p) := nI_clamp (by omega)
      have vk : vp_in (nI (so_kn (A p))) 200 := vp_in_nI (by omega) (by omega)
      refine ⟨vk, by rw [ck, hs]; exact vp_in_nI (by omega) (by omega), nm_r (e' := upd o (so_rk (so_B A) c (nI p)) (nI p)) (by rw [ck, hs, nI_clamp (by omega)]) ⟨vk, vk, nm_r (e' := upd st (so_kn (A p)) (nI (so_rk (so_B A) c (nI p) + 1))) (by rw [ck, hs, nI_1]) (nm_r (nI_1 p) (ih (p + 1) _ _ (by omega) (by omega) (so_fi_s (so_BO A) (by omega) e hf) (fun j hj => ?_)))⟩⟩
      rw [so_cs]
      by_cases q : j = so_kn (A p)
      · rw [q, so_uS, decide_eq_true rfl, so_t1, ← so_ck (L := A) (ky := fun m => so_kn (A m)) (by omega) (fun i hi => (so_knk (hR i hi).1 (hR i hi).2).2.2) e]
        rfl
      · rw [so_uN q, decide_eq_false (fun z => q z.symm), so_f0, hst j hj]
        rfl
theorem xco58_1 {post : SX → Prop} {o : Nat → Int32} (hc : c ≤ 40) (hR : so_R A c) (K : ∀ o' st', so_D (so_B A) c o' → post (nI c, A, o', h, sp, rl, rh, st', ec, lc, pe, se, le)) :
    ∀ (n k : Nat) (st : Nat → Int32), 200 < n + k + 1 → k + 1 ≤ 200 → (∀ j, j < 200 → st j = nI (so_c3 (fun m => so_kn (A m)) c (k + 1) j)) →
    wX_orderByCounting__firstOrder_58 post (nI c) n (nI (k + 1)) A o h sp rl rh st ec lc pe se le := by
  intro n
  induction n with
  | zero => intro k st h1 h2; omega
  | succ n ih =>
    intro k st h1 h2 hst
    rw [wX_orderByCounting__firstOrder_58]
    have ck : (nI (k + 1)).toNatClampNeg = k + 1 := nI_clamp (by omega)
    have ck' : (nI (k + 1) - 1).toNatClampNeg = k := by rw [nI_pred]; exact nI_clamp (by omega)
    refine pk_le 200 (k + 1) (fun e => ⟨c + 1, xco90_1 hc hR K (c + 1) 0 o st (by omega) (by omega) (so_fi_0 c o) (fun j hj => ?_)⟩)
      (fun e => ⟨vp_in_nI (by omega) (by omega), by rw [nI_pred]; exact vp_in_nI (by omega) (by omega), vp_in_nI (by omega) (by omega), nm_r (e' := upd st (k + 1) (nI (so_c3 (fun m => so_kn (A m)) c (k + 2) (k + 1)))) (by rw [ck, ck', hst (k + 1) (by omega), hst k (by omega), nI_add, so_c3_s]) (nm_r (nI_1 (k + 1)) (ih (k + 1) _ (by omega) (by omega) (fun j hj => ?_)))⟩)
    · have e2 : k + 1 = 200 := by omega
      rw [e2] at hst
      rw [hst j (by omega), so_c3_e _ _ _ (by omega)]
      rfl
    · by_cases q : j = k + 1
      · rw [q, so_uS]
      · rw [so_uN q, hst j hj, so_c3_o _ _ _ _ q]
theorem xco24_1 {post : SX → Prop} {o : Nat → Int32} (hc : c ≤ 40) (hR : so_R A c) (K : ∀ o' st', so_D (so_B A) c o' → post (nI c, A, o', h, sp, rl, rh, st', ec, lc, pe, se, le)) :
    ∀ (n p : Nat) (st : Nat → Int32), c < n + p → p ≤ c → (∀ j, j < 200 → st j = nI (so_c (fun m => decide (so_kn (A m) + 1 = j)) p)) →
    wX_orderByCounting__firstOrder_24 post (nI c) n (nI p) A o h sp rl rh st ec lc pe se le := by
  intro n
  induction n with
  | zero => intro p st h1 h2; omega
  | succ n ih =>
    intro p st h1 h2 hst
    rw [wX_orderByCounting__firstOrder_24]
    refine pk_le c p (fun e => ⟨200, xco58_1 hc hR K 200 0 st (by omega) (by omega) (fun j hj => ?_)⟩) (fun e => xky (by omega) ?_)
    · have : p = c := by omega
      rw [this] at hst
      rw [hst j hj, so_c3_1]
    · obtain ⟨k1, k2, k3⟩ := so_knk (hR p e).1 (hR p e).2
      rw [k2]
      have ck : (nI (so_kn (A p)) + 1).toNatClampNeg = so_kn (A p) + 1 := by rw [nI_1]; exact nI_clamp (by omega)
      have vk : vp_in (nI (so_kn (A p)) + 1) 200 := by rw [nI_1]; exact vp_in_nI (by omega) (by omega)
      refine ⟨vk, vk, nm_r (e' := upd st (so_kn (A p) + 1) (nI (so_c (fun m => decide (so_kn (A m) + 1 = so_kn (A p) + 1)) p + 1))) (by rw [ck, hst _ (by omega), nI_1]) (nm_r (nI_1 p) (ih (p + 1) _ (by omega) (by omega) (fun j hj => ?_)))⟩
      rw [so_cs]
      by_cases q : j = so_kn (A p) + 1
      · rw [q, so_uS, decide_eq_true rfl, so_t1]
      · rw [so_uN q, decide_eq_false (fun z => q z.symm), so_f0, hst j hj]
        rfl
theorem xco2_1 {post : SX → Prop} {o : Nat → Int32} (hc : c ≤ 40) (hR : so_R A c) (K : ∀ o' st', so_D (so_B A) c o' → post (nI c, A, o', h, sp, rl, rh, st', ec, lc, pe, se, le)) :
    ∀ (n k : Nat) (st : Nat → Int32), 200 < n + k → k ≤ 200 → (∀ j, j < k → st j = 0) → wX_orderByCounting__firstOrder_2 post (nI c) n (nI k) A o h sp rl rh st ec lc pe se le := by
  intro n
  induction n with
  | zero => intro k st h1 h2; omega
  | succ n ih =>
    intro k st h1 h2 hst
    rw [wX_orderByCounting__firstOrder_2]
    have ck : (nI k).toNatClampNeg = k := nI_clamp (by omega)
    refine pk_le 200 k (fun e => ⟨c + 1, xco24_1 hc hR K (c + 1) 0 st (by omega) (by omega) (fun j hj => ?_)⟩) (fun e => ⟨vp_in_nI (by omega) (by omega), nm_r (e' := upd st k 0) (by rw [ck]) (nm_r (nI_1 k) (ih (k + 1) _ (by omega) (by omega) (fun j hj => ?_)))⟩)
    · exact hst j (by omega)
    · by_cases q : j = k
      · rw [q]; exact so_uS
      · rw [so_uN q]; exact hst j (by omega)
theorem xco1 {post : SX → Prop} {o : Nat → Int32} (hc : c ≤ 40) (hR : so_R A c) (K : ∀ o' st', so_D (so_B A) c o' → post (nI c, A, o', h, sp, rl, rh, st', ec, lc, pe, se, le)) : wpX_orderByCounting__firstOrder post (nI c, A, o, h, sp, rl, rh, st, ec, lc, pe, se, le) :=
  ⟨201, xco2_1 hc hR K 201 0 st (by omega) (by omega) (fun j hj => by omega)⟩
theorem xcb7_1 {post : Int32 → SX → Prop} {o s0 : Nat → Int32} {b w t : Nat} (hc : c ≤ 40) (hR : so_R A c) (hP : so_P c o) (hb : b < 8) (hw : w < 2) (ht : t + so_cb (so_kf A) b w o c ≤ c)
    (K : ∀ s, so_co (so_kf A) b w t o c s0 s → post (nI (t + so_cb (so_kf A) b w o c)) (nI c, A, o, h, s, rl, rh, st, ec, lc, pe, se, le)) :
    ∀ (n k : Nat) (s : Nat → Int32), c < n + k → k ≤ c → so_co (so_kf A) b w t o k s0 s → wX_collectBit__firstOrder_7 post (nI b) (nI w) (nI c) n (nI (t + so_cb (so_kf A) b w o k)) (nI k) A o h s rl rh st ec lc pe se le := by
  intro n
  induction n with
  | zero => intro k s h1 h2; omega
  | succ n ih =>
    intro k s h1 h2 hs
    rw [wX_collectBit__firstOrder_7]
    have ck : (nI k).toNatClampNeg = k := nI_clamp (by omega)
    refine pk_le c k (fun e => ?_) (fun e => ⟨vp_in_nI (by omega) (by omega), ?_⟩)
    · have : k = c := by omega
      rw [this] at hs ⊢; exact K s hs
    · obtain ⟨i, hi, ei⟩ := so_P_in hP e
      obtain ⟨k1, k2, k3⟩ := so_knk (hR i hi).1 (hR i hi).2
      have ebt : so_bt (so_kf A) b (o k) = so_kn (A i) / 2 ^ b % 2 := by unfold so_bt; rw [ei, so_kfn (by omega)]
      rw [ck]
      have goal : ∀ x, x = o k → wpX_keyOf (fun r_3 => (((r_3 >>> (nI b &&& 31)) &&& 1) = nI w → vp_in (nI k) 40 ∧ (vp_in (nI (t + so_cb (so_kf A) b w o k)) 40 ∧ ∀ y, y = upd s (nI (t + so_cb (so_kf A) b w o k)).toNatClampNeg (o k) → ∀ x5, x5 = nI (t + so_cb (so_kf A) b w o k) + 1 → ∀ x6, x6 = nI k + 1 → wX_collectBit__firstOrder_7 post (nI b) (nI w) (nI c) n x5 x6 A o h y rl rh st ec lc pe se le)) ∧ (¬ ((r_3 >>> (nI b &&& 31)) &&& 1) = nI w → ∀ x6, x6 = nI k + 1 → wX_collectBit__firstOrder_7 post (nI b) (nI w) (nI c) n (nI (t + so_cb (so_kf A) b w o k)) x6 A o h s rl rh st ec lc pe se le)) (nI c, A, o, h, s, rl, rh, st, ec, lc, pe, se, le) x := by
        intro x ex
        rw [ex, ei]
        refine xky (by omega) ?_
        rw [k2, so_bit k1 hb, ← ei]
        have hlt : so_kn (A i) / 2 ^ b % 2 < 2 := Nat.mod_lt _ (by omega)
        refine pk_eq (so_kn (A i) / 2 ^ b % 2) w (fun q => ?_) (fun q => ?_)
        · rw [← ebt] at q
          have hl := so_cb_lt (n := c) e q
          have h3 := ih (k + 1) (upd s (t + so_cb (so_kf A) b w o k) (o k)) (by omega) (by omega) (so_co_t hs q)
          rw [so_cb_t q] at h3
          exact ⟨vp_in_nI (by omega) (by omega), vp_in_nI (by omega) (by omega), nm_r (e' := upd s (t + so_cb (so_kf A) b w o k) (o k)) (by rw [nI_clamp (by omega)]) (nm_r (nI_1 _) (nm_r (nI_1 k) h3))⟩
        · rw [← ebt] at q
          have h3 := ih (k + 1) s (by omega) (by omega) (so_co_f hs q)
          rw [so_cb_f q] at h3
          exact nm_r (nI_1 k) h3
      exact goal _ rfl
theorem xcb1 {post : Int32 → SX → Prop} {o : Nat → Int32} {b w t : Nat} (hc : c ≤ 40) (hR : so_R A c) (hP : so_P c o) (hb : b < 8) (hw : w < 2) (ht : t + so_cb (so_kf A) b w o c ≤ c)
    (K : ∀ s, so_co (so_kf A) b w t o c sp s → post (nI (t + so_cb (so_kf A) b w o c)) (nI c, A, o, h, s, rl, rh, st, ec, lc, pe, se, le)) : wpX_collectBit__firstOrder post (nI c, A, o, h, sp, rl, rh, st, ec, lc, pe, se, le) (nI b) (nI w) (nI t) :=
  ⟨c + 1, xcb7_1 hc hR hP hb hw ht K (c + 1) 0 sp (by omega) (by omega) (so_co_0 _ _ _ _ _ _)⟩
theorem xbi2_1 {post : SX → Prop} (hc : c ≤ 40) (hR : so_R A c) (K : ∀ o' sp', so_P c o' → so_S (so_B A) o' 0 c → post (nI c, A, o', h, sp', rl, rh, st, ec, lc, pe, se, le)) :
    ∀ (n b : Nat) (o sp : Nat → Int32), 8 < n + b → b ≤ 8 → so_P c o → so_S (so_Rb (so_kf A) b) o 0 c → wX_orderByBits__firstOrder_2 post n (nI b) (nI c) A o h sp rl rh st ec lc pe se le := by
  intro n
  induction n with
  | zero => intro b o sp h1 h2; omega
  | succ n ih =>
    intro b o sp h1 h2 hP hS
    rw [wX_orderByBits__firstOrder_2]
    refine pk_le 8 b (fun e => K o sp hP (so_Rb_e (kf := so_kf A) (by omega) (fun i hi => ?_) hP ?_)) (fun e => ?_)
    · obtain ⟨k1, k2, k3⟩ := so_knk (hR i hi).1 (hR i hi).2
      rw [so_kfn (by omega)]; exact ⟨k3, by omega⟩
    · have : b = 8 := by omega
      rw [this] at hS; exact hS
    · have hN := so_cb_n (so_kf A) b o c
      refine xcb1 (b := b) (w := 0) (t := 0) hc hR hP e (by omega) (by omega) (fun s1 q1 => ?_)
      refine xcb1 (b := b) (w := 1) (t := 0 + so_cb (so_kf A) b 0 o c) hc hR hP e (by omega) (by omega) (fun s2 q2 => ?_)
      rw [Nat.zero_add] at q2
      obtain ⟨p1, p2⟩ := so_pass q1 q2 hP hS
      have hx : ∀ m, m < c → so_cp o s2 0 c m = s2 m := fun m hm => so_cp_i o s2 (by omega) hm
      exact xcp1 (a := 0) (b := c) (by omega) hc (nm_r (nI_1 b) (ih (b + 1) _ s2 (by omega) (by omega) (so_P_x hx p1) (so_S_x hx p2)))
theorem xbi1 {post : SX → Prop} {o : Nat → Int32} (hc : c ≤ 40) (hR : so_R A c) (hI : ∀ m, m < c → o m = nI m) (K : ∀ o' sp', so_P c o' → so_S (so_B A) o' 0 c → post (nI c, A, o', h, sp', rl, rh, st, ec, lc, pe, se, le)) : wpX_orderByBits__firstOrder post (nI c, A, o, h, sp, rl, rh, st, ec, lc, pe, se, le) :=
  ⟨9, xbi2_1 hc hR K 9 0 o sp (by omega) (by omega) (so_P_id hI) (so_Rb_0 (by omega) hI)⟩
theorem xwt10_1 {post : SX → Prop} {ρ lo hi : Nat → Nat} (hc : c ≤ 40) (hρ : so_pm c ρ) (hF : so_F c ρ ec lc lo hi) (K : ∀ o' pe', (∀ v, v < c → o' (ρ v) = nI v) → post (nI c, A, o', h, sp, rl, rh, st, ec, lc, pe', se, le)) :
    ∀ (n w d s : Nat) (nd : Int32) (o pe : Nat → Int32), 2 * c < n + s → s = 2 * d + w → s ≤ 2 * c → so_K c ρ lo hi pe nd w d o → wX_walkTree__firstOrder_10 post (nI c) n nd (nI w) (nI d) (nI s) A o h sp rl rh st ec lc pe se le := by
  intro n
  induction n with
  | zero => intro w d s nd o pe h1 h2 h3; omega
  | succ n ih =>
    intro w d s nd o pe h1 h2 h3 hK
    rw [wX_walkTree__firstOrder_10]
    refine pk_le (2 * c) s (fun e => K o pe (so_K_e hF hρ.1 hK (by omega))) (fun e => br_c (fun q => ?_) (fun q => ?_)) (pk_mul 2 c)
    · rw [q] at hK
      rcases so_K_lt hF hK with ⟨_, z1, z2⟩ | _
      · omega
      · cases w with
        | zero =>
          rcases so_K_lt hF hK with z | z
          · omega
          · obtain ⟨t, t1, t2, t3⟩ := hK
            rcases t2 with ⟨_, t4⟩ | ⟨v, _, t4, _⟩
            · have : d = c := t4
              omega
            · exact (so_m1 (by omega) t4.symm).elim
        | succ w =>
          obtain ⟨z1, z2, v, z3, z4, z5⟩ := so_K_pop hF hρ.2 hK (by omega)
          have cw : (nI w).toNatClampNeg = w := nI_clamp (by omega)
          have cd : (nI d).toNatClampNeg = d := nI_clamp (by omega)
          have cv : (nI v).toNatClampNeg = v := nI_clamp (by omega)
          refine nm_r (pk_m1 w) ⟨vp_in_nI (by omega) (by omega), vp_in_nI (by omega) (by omega), nm_r (e' := upd o d (nI v)) (by rw [cd, cw, z4]) ⟨vp_in_nI (by omega) (by omega), ?_, nm_r (e' := lc v) ?_ (nm_r (nI_1 d) (nm_r (nI_1 s) (ih w (d + 1) (s + 1) _ _ _ (by omega) (by omega) (by omega) z5)))⟩⟩
          · rw [cd, so_uS]; exact vp_in_nI (by omega) (by omega)
          · rw [cd, so_uS, cv]
    · have hv : ∃ v, v < c ∧ nd = nI v := by
        obtain ⟨t, t1, t2, t3⟩ := hK
        rcases t2 with ⟨t4, _⟩ | ⟨v, t5, t4, _⟩
        · exact (q t4).elim
        · exact ⟨v, t5, t4⟩
      obtain ⟨v, hv1, hv2⟩ := hv
      rw [hv2] at hK ⊢
      obtain ⟨z1, z2, z3⟩ := so_K_push hF (by omega) hK (by omega)
      have cw : (nI w).toNatClampNeg = w := nI_clamp (by omega)
      have cv : (nI v).toNatClampNeg = v := nI_clamp (by omega)
      exact ⟨vp_in_nI (by omega) (by omega), nm_r (e' := upd pe w (nI v)) (by rw [cw]) (nm_r (nI_1 w) ⟨vp_in_nI (by omega) (by omega), nm_r (e' := ec v) (by rw [cv]) (nm_r (nI_1 s) (ih (w + 1) d (s + 1) _ _ _ (by omega) (by omega) (by omega) z3))⟩)⟩
theorem xwt1 {post : SX → Prop} {o : Nat → Int32} {ρ lo hi : Nat → Nat} (hc : c ≤ 40) (h0 : 0 < c) (hρ : so_pm c ρ) (hF : so_F c ρ ec lc lo hi) (K : ∀ o' pe', (∀ v, v < c → o' (ρ v) = nI v) → post (nI c, A, o', h, sp, rl, rh, st, ec, lc, pe', se, le)) : wpX_walkTree__firstOrder post (nI c, A, o, h, sp, rl, rh, st, ec, lc, pe, se, le) :=
  ⟨2 * c + 1, xwt10_1 hc hρ hF K (2 * c + 1) 0 0 0 0 o pe (by omega) (by omega) (by omega) (so_K_0 hF h0)⟩
theorem xtr32_1 {post : SX → Prop} {o : Nat → Int32} {ρ : Nat → Nat} (hc : c ≤ 40) (hρ : so_pm c ρ) (hρ' : ∀ i, i < c → ρ i = so_rk (so_B A) c (nI i)) (K : ∀ o' ec' lc' pe', (∀ v, v < c → o' (ρ v) = nI v) → post (nI c, A, o', h, sp, rl, rh, st, ec', lc', pe', se, le)) :
    ∀ (n p : Nat) (ec lc : Nat → Int32) (lo hi : Nat → Nat), c < n + p → 0 < p → p ≤ c → so_T c p ρ ec lc lo hi → wX_orderByTree__firstOrder_32 post n (nI p) (nI c) A o h sp rl rh st ec lc pe se le := by
  intro n
  induction n with
  | zero => intro p ec lc lo hi h1 h2 h3; omega
  | succ n ih =>
    intro p ec lc lo hi h1 h2 h3 hT
    rw [wX_orderByTree__firstOrder_32]
    refine pk_le c p (fun e => ?_) (fun e => xht hc hρ' h2 e hT (fun ec' lc' lo' hi' hT' => nm_r (nI_1 p) (ih (p + 1) ec' lc' lo' hi' (by omega) (by omega) (by omega) hT')))
    have : p = c := by omega
    rw [this] at hT
    exact xwt1 hc (by omega) hρ (so_F_of hT (fun k hk => so_sur hρ.1 hρ.2 hk)) (fun o' pe' q => K o' ec lc pe' q)
theorem xtr2_1 {post : SX → Prop} {o : Nat → Int32} {ρ : Nat → Nat} (hc : c ≤ 40) (hρ : so_pm c ρ) (hρ' : ∀ i, i < c → ρ i = so_rk (so_B A) c (nI i)) (K : ∀ o' ec' lc' pe', (∀ v, v < c → o' (ρ v) = nI v) → post (nI c, A, o', h, sp, rl, rh, st, ec', lc', pe', se, le)) :
    ∀ (n k : Nat) (ec lc : Nat → Int32), c < n + k → k ≤ c → (∀ v, v < k → ec v = -1 ∧ lc v = -1) → wX_orderByTree__firstOrder_2 post (nI c) n (nI k) A o h sp rl rh st ec lc pe se le := by
  intro n
  induction n with
  | zero => intro k ec lc h1 h2; omega
  | succ n ih =>
    intro k ec lc h1 h2 hv
    rw [wX_orderByTree__firstOrder_2]
    have ck : (nI k).toNatClampNeg = k := nI_clamp (by omega)
    refine pk_le c k (fun e => ?_) (fun e => ⟨vp_in_nI (by omega) (by omega), nm_r (e' := upd ec k (-1)) (by rw [ck]) ⟨vp_in_nI (by omega) (by omega), nm_r (e' := upd lc k (-1)) (by rw [ck]) (nm_r (nI_1 k) (ih (k + 1) _ _ (by omega) (by omega) (fun v hv' => ?_)))⟩⟩)
    · by_cases z : c = 0
      · subst z
        exact ⟨1, br_t (by decide) ⟨1, br_t (by decide) (K o ec lc pe (fun v hv => by omega))⟩⟩
      · exact ⟨c + 1, xtr32_1 hc hρ hρ' K (c + 1) 1 ec lc _ _ (by omega) (by omega) (by omega) (so_T_1 (by omega) (hρ.1 0 (by omega)) (fun v hv' => hv v (by omega)))⟩
    · by_cases q : v = k
      · rw [q]; exact ⟨so_uS, so_uS⟩
      · rw [so_uN q, so_uN q]; exact hv v (by omega)
theorem xtr1 {post : SX → Prop} {o : Nat → Int32} (hc : c ≤ 40) (K : ∀ o' ec' lc' pe', so_D (so_B A) c o' → post (nI c, A, o', h, sp, rl, rh, st, ec', lc', pe', se, le)) : wpX_orderByTree__firstOrder post (nI c, A, o, h, sp, rl, rh, st, ec, lc, pe, se, le) :=
  ⟨c + 1, xtr2_1 (ρ := fun i => so_rk (so_B A) c (nI i)) hc ⟨fun i hi => so_rk_lt (so_BO A) hi, fun i j hi hj e => so_rk_inj (so_BO A) (by omega) hi hj e⟩ (fun i hi => rfl) (fun o' ec' lc' pe' q => K o' ec' lc' pe' q) (c + 1) 0 ec lc (by omega) (by omega) (fun v hv => by omega)⟩
end
end
section
section
variable {A h sp rl rh st ec lc pe se le : Nat → Int32} {fc : Int32} {c : Nat}
theorem xra2_2 {post : SX → Prop} (hc : c ≤ 40) (K : ∀ o', so_D (so_B A) c o' → post (nI c, A, h, o', sp, rl, rh, st, ec, lc, pe, se, le)) :
    ∀ (n p : Nat) (o : Nat → Int32), c < n + p → p ≤ c → so_fi (so_B A) c p o → wX_orderByRank__secondOrder_2 post (nI c) n (nI p) A h o sp rl rh st ec lc pe se le := by
  intro n
  induction n with
  | zero => intro p o h1 h2; omega
  | succ n ih =>
    intro p o h1 h2 hf
    rw [wX_orderByRank__secondOrder_2]
    refine pk_le c p (fun e => K o ?_) (fun e => xrk hc (by omega) ?_)
    · have : p = c := by omega
      rw [this] at hf; exact hf
    · have hr := so_rk_lt (so_BO A) e
      exact ⟨vp_in_nI (by omega) (by omega), nm_r (e' := upd o (so_rk (so_B A) c (nI p)) (nI p)) (by rw [nI_clamp (by omega)]) (nm_r (nI_1 p) (ih (p + 1) _ (by omega) (by omega) (so_fi_s (so_BO A) (by omega) e hf)))⟩
theorem xra2 {post : SX → Prop} {o : Nat → Int32} (hc : c ≤ 40) (K : ∀ o', so_D (so_B A) c o' → post (nI c, A, h, o', sp, rl, rh, st, ec, lc, pe, se, le)) : wpX_orderByRank__secondOrder post (nI c, A, h, o, sp, rl, rh, st, ec, lc, pe, se, le) :=
  ⟨c + 1, xra2_2 hc K (c + 1) 0 o (by omega) (by omega) (so_fi_0 c o)⟩
theorem xco90_2 {post : SX → Prop} (hc : c ≤ 40) (hR : so_R A c) (K : ∀ o' st', so_D (so_B A) c o' → post (nI c, A, h, o', sp, rl, rh, st', ec, lc, pe, se, le)) :
    ∀ (n p : Nat) (o st : Nat → Int32), c < n + p → p ≤ c → so_fi (so_B A) c p o → (∀ j, j < 199 → st j = nI (so_c (fun m => decide (so_kn (A m) < j)) c + so_c (fun m => decide (so_kn (A m) = j)) p)) →
    wX_orderByCounting__secondOrder_90 post (nI c) n (nI p) A h o sp rl rh st ec lc pe se le := by
  intro n
  induction n with
  | zero => intro p o st h1 h2; omega
  | succ n ih =>
    intro p o st h1 h2 hf hst
    rw [wX_orderByCounting__secondOrder_90]
    refine pk_le c p (fun e => K o st ?_) (fun e => xky (by omega) ?_)
    · have : p = c := by omega
      rw [this] at hf; exact hf
    · obtain ⟨k1, k2, k3⟩ := so_knk (hR p e).1 (hR p e).2
      have hr := so_rk_lt (so_BO A) e
      have hs := hst (so_kn (A p)) k1
      rw [so_ck (L := A) (ky := fun m => so_kn (A m)) (by omega) (fun i hi => (so_knk (hR i hi).1 (hR i hi).2).2.2) e] at hs
      rw [k2]
      have ck : (nI (so_kn (A p))).toNatClampNeg = so_kn (A p) := nI_clamp (by omega)
      have vk : vp_in (nI (so_kn (A p))) 200 := vp_in_nI (by omega) (by omega)
      refine ⟨vk, by rw [ck, hs]; exact vp_in_nI (by omega) (by omega), nm_r (e' := upd o (so_rk (so_B A) c (nI p)) (nI p)) (by rw [ck, hs, nI_clamp (by omega)]) ⟨vk, vk, nm_r (e' := upd st (so_kn (A p)) (nI (so_rk (so_B A) c (nI p) + 1))) (by rw [ck, hs, nI_1]) (nm_r (nI_1 p) (ih (p + 1) _ _ (by omega) (by omega) (so_fi_s (so_BO A) (by omega) e hf) (fun j hj => ?_)))⟩⟩
      rw [so_cs]
      by_cases q : j = so_kn (A p)
      · rw [q, so_uS, decide_eq_true rfl, so_t1, ← so_ck (L := A) (ky := fun m => so_kn (A m)) (by omega) (fun i hi => (so_knk (hR i hi).1 (hR i hi).2).2.2) e]
        rfl
      · rw [so_uN q, decide_eq_false (fun z => q z.symm), so_f0, hst j hj]
        rfl
theorem xco58_2 {post : SX → Prop} {o : Nat → Int32} (hc : c ≤ 40) (hR : so_R A c) (K : ∀ o' st', so_D (so_B A) c o' → post (nI c, A, h, o', sp, rl, rh, st', ec, lc, pe, se, le)) :
    ∀ (n k : Nat) (st : Nat → Int32), 200 < n + k + 1 → k + 1 ≤ 200 → (∀ j, j < 200 → st j = nI (so_c3 (fun m => so_kn (A m)) c (k + 1) j)) →
    wX_orderByCounting__secondOrder_58 post (nI c) n (nI (k + 1)) A h o sp rl rh st ec lc pe se le := by
  intro n
  induction n with
  | zero => intro k st h1 h2; omega
  | succ n ih =>
    intro k st h1 h2 hst
    rw [wX_orderByCounting__secondOrder_58]
    have ck : (nI (k + 1)).toNatClampNeg = k + 1 := nI_clamp (by omega)
    have ck' : (nI (k + 1) - 1).toNatClampNeg = k := by rw [nI_pred]; exact nI_clamp (by omega)
    refine pk_le 200 (k + 1) (fun e => ⟨c + 1, xco90_2 hc hR K (c + 1) 0 o st (by omega) (by omega) (so_fi_0 c o) (fun j hj => ?_)⟩)
      (fun e => ⟨vp_in_nI (by omega) (by omega), by rw [nI_pred]; exact vp_in_nI (by omega) (by omega), vp_in_nI (by omega) (by omega), nm_r (e' := upd st (k + 1) (nI (so_c3 (fun m => so_kn (A m)) c (k + 2) (k + 1)))) (by rw [ck, ck', hst (k + 1) (by omega), hst k (by omega), nI_add, so_c3_s]) (nm_r (nI_1 (k + 1)) (ih (k + 1) _ (by omega) (by omega) (fun j hj => ?_)))⟩)
    · have e2 : k + 1 = 200 := by omega
      rw [e2] at hst
      rw [hst j (by omega), so_c3_e _ _ _ (by omega)]
      rfl
    · by_cases q : j = k + 1
      · rw [q, so_uS]
      · rw [so_uN q, hst j hj, so_c3_o _ _ _ _ q]
theorem xco24_2 {post : SX → Prop} {o : Nat → Int32} (hc : c ≤ 40) (hR : so_R A c) (K : ∀ o' st', so_D (so_B A) c o' → post (nI c, A, h, o', sp, rl, rh, st', ec, lc, pe, se, le)) :
    ∀ (n p : Nat) (st : Nat → Int32), c < n + p → p ≤ c → (∀ j, j < 200 → st j = nI (so_c (fun m => decide (so_kn (A m) + 1 = j)) p)) →
    wX_orderByCounting__secondOrder_24 post (nI c) n (nI p) A h o sp rl rh st ec lc pe se le := by
  intro n
  induction n with
  | zero => intro p st h1 h2; omega
  | succ n ih =>
    intro p st h1 h2 hst
    rw [wX_orderByCounting__secondOrder_24]
    refine pk_le c p (fun e => ⟨200, xco58_2 hc hR K 200 0 st (by omega) (by omega) (fun j hj => ?_)⟩) (fun e => xky (by omega) ?_)
    · have : p = c := by omega
      rw [this] at hst
      rw [hst j hj, so_c3_1]
    · obtain ⟨k1, k2, k3⟩ := so_knk (hR p e).1 (hR p e).2
      rw [k2]
      have ck : (nI (so_kn (A p)) + 1).toNatClampNeg = so_kn (A p) + 1 := by rw [nI_1]; exact nI_clamp (by omega)
      have vk : vp_in (nI (so_kn (A p)) + 1) 200 := by rw [nI_1]; exact vp_in_nI (by omega) (by omega)
      refine ⟨vk, vk, nm_r (e' := upd st (so_kn (A p) + 1) (nI (so_c (fun m => decide (so_kn (A m) + 1 = so_kn (A p) + 1)) p + 1))) (by rw [ck, hst _ (by omega), nI_1]) (nm_r (nI_1 p) (ih (p + 1) _ (by omega) (by omega) (fun j hj => ?_)))⟩
      rw [so_cs]
      by_cases q : j = so_kn (A p) + 1
      · rw [q, so_uS, decide_eq_true rfl, so_t1]
      · rw [so_uN q, decide_eq_false (fun z => q z.symm), so_f0, hst j hj]
        rfl
theorem xco2_2 {post : SX → Prop} {o : Nat → Int32} (hc : c ≤ 40) (hR : so_R A c) (K : ∀ o' st', so_D (so_B A) c o' → post (nI c, A, h, o', sp, rl, rh, st', ec, lc, pe, se, le)) :
    ∀ (n k : Nat) (st : Nat → Int32), 200 < n + k → k ≤ 200 → (∀ j, j < k → st j = 0) → wX_orderByCounting__secondOrder_2 post (nI c) n (nI k) A h o sp rl rh st ec lc pe se le := by
  intro n
  induction n with
  | zero => intro k st h1 h2; omega
  | succ n ih =>
    intro k st h1 h2 hst
    rw [wX_orderByCounting__secondOrder_2]
    have ck : (nI k).toNatClampNeg = k := nI_clamp (by omega)
    refine pk_le 200 k (fun e => ⟨c + 1, xco24_2 hc hR K (c + 1) 0 st (by omega) (by omega) (fun j hj => ?_)⟩) (fun e => ⟨vp_in_nI (by omega) (by omega), nm_r (e' := upd st k 0) (by rw [ck]) (nm_r (nI_1 k) (ih (k + 1) _ (by omega) (by omega) (fun j hj => ?_)))⟩)
    · exact hst j (by omega)
    · by_cases q : j = k
      · rw [q]; exact so_uS
      · rw [so_uN q]; exact hst j (by omega)
theorem xco2 {post : SX → Prop} {o : Nat → Int32} (hc : c ≤ 40) (hR : so_R A c) (K : ∀ o' st', so_D (so_B A) c o' → post (nI c, A, h, o', sp, rl, rh, st', ec, lc, pe, se, le)) : wpX_orderByCounting__secondOrder post (nI c, A, h, o, sp, rl, rh, st, ec, lc, pe, se, le) :=
  ⟨201, xco2_2 hc hR K 201 0 st (by omega) (by omega) (fun j hj => by omega)⟩
theorem xcb7_2 {post : Int32 → SX → Prop} {o s0 : Nat → Int32} {b w t : Nat} (hc : c ≤ 40) (hR : so_R A c) (hP : so_P c o) (hb : b < 8) (hw : w < 2) (ht : t + so_cb (so_kf A) b w o c ≤ c)
    (K : ∀ s, so_co (so_kf A) b w t o c s0 s → post (nI (t + so_cb (so_kf A) b w o c)) (nI c, A, h, o, s, rl, rh, st, ec, lc, pe, se, le)) :
    ∀ (n k : Nat) (s : Nat → Int32), c < n + k → k ≤ c → so_co (so_kf A) b w t o k s0 s → wX_collectBit__secondOrder_7 post (nI b) (nI w) (nI c) n (nI (t + so_cb (so_kf A) b w o k)) (nI k) A h o s rl rh st ec lc pe se le := by
  intro n
  induction n with
  | zero => intro k s h1 h2; omega
  | succ n ih =>
    intro k s h1 h2 hs
    rw [wX_collectBit__secondOrder_7]
    have ck : (nI k).toNatClampNeg = k := nI_clamp (by omega)
    refine pk_le c k (fun e => ?_) (fun e => ⟨vp_in_nI (by omega) (by omega), ?_⟩)
    · have : k = c := by omega
      rw [this] at hs ⊢; exact K s hs
    · obtain ⟨i, hi, ei⟩ := so_P_in hP e
      obtain ⟨k1, k2, k3⟩ := so_knk (hR i hi).1 (hR i hi).2
      have ebt : so_bt (so_kf A) b (o k) = so_kn (A i) / 2 ^ b % 2 := by unfold so_bt; rw [ei, so_kfn (by omega)]
      rw [ck]
      have goal : ∀ x, x = o k → wpX_keyOf (fun r_3 => (((r_3 >>> (nI b &&& 31)) &&& 1) = nI w → vp_in (nI k) 40 ∧ (vp_in (nI (t + so_cb (so_kf A) b w o k)) 40 ∧ ∀ y, y = upd s (nI (t + so_cb (so_kf A) b w o k)).toNatClampNeg (o k) → ∀ x5, x5 = nI (t + so_cb (so_kf A) b w o k) + 1 → ∀ x6, x6 = nI k + 1 → wX_collectBit__secondOrder_7 post (nI b) (nI w) (nI c) n x5 x6 A h o y rl rh st ec lc pe se le)) ∧ (¬ ((r_3 >>> (nI b &&& 31)) &&& 1) = nI w → ∀ x6, x6 = nI k + 1 → wX_collectBit__secondOrder_7 post (nI b) (nI w) (nI c) n (nI (t + so_cb (so_kf A) b w o k)) x6 A h o s rl rh st ec lc pe se le)) (nI c, A, h, o, s, rl, rh, st, ec, lc, pe, se, le) x := by
        intro x ex
        rw [ex, ei]
        refine xky (by omega) ?_
        rw [k2, so_bit k1 hb, ← ei]
        have hlt : so_kn (A i) / 2 ^ b % 2 < 2 := Nat.mod_lt _ (by omega)
        refine pk_eq (so_kn (A i) / 2 ^ b % 2) w (fun q => ?_) (fun q => ?_)
        · rw [← ebt] at q
          have hl := so_cb_lt (n := c) e q
          have h3 := ih (k + 1) (upd s (t + so_cb (so_kf A) b w o k) (o k)) (by omega) (by omega) (so_co_t hs q)
          rw [so_cb_t q] at h3
          exact ⟨vp_in_nI (by omega) (by omega), vp_in_nI (by omega) (by omega), nm_r (e' := upd s (t + so_cb (so_kf A) b w o k) (o k)) (by rw [nI_clamp (by omega)]) (nm_r (nI_1 _) (nm_r (nI_1 k) h3))⟩
        · rw [← ebt] at q
          have h3 := ih (k + 1) s (by omega) (by omega) (so_co_f hs q)
          rw [so_cb_f q] at h3
          exact nm_r (nI_1 k) h3
      exact goal _ rfl
theorem xcb2 {post : Int32 → SX → Prop} {o : Nat → Int32} {b w t : Nat} (hc : c ≤ 40) (hR : so_R A c) (hP : so_P c o) (hb : b < 8) (hw : w < 2) (ht : t + so_cb (so_kf A) b w o c ≤ c)
    (K : ∀ s, so_co (so_kf A) b w t o c sp s → post (nI (t + so_cb (so_kf A) b w o c)) (nI c, A, h, o, s, rl, rh, st, ec, lc, pe, se, le)) : wpX_collectBit__secondOrder post (nI c, A, h, o, sp, rl, rh, st, ec, lc, pe, se, le) (nI b) (nI w) (nI t) :=
  ⟨c + 1, xcb7_2 hc hR hP hb hw ht K (c + 1) 0 sp (by omega) (by omega) (so_co_0 _ _ _ _ _ _)⟩
theorem xbi2_2 {post : SX → Prop} (hc : c ≤ 40) (hR : so_R A c) (K : ∀ o' sp', so_P c o' → so_S (so_B A) o' 0 c → post (nI c, A, h, o', sp', rl, rh, st, ec, lc, pe, se, le)) :
    ∀ (n b : Nat) (o sp : Nat → Int32), 8 < n + b → b ≤ 8 → so_P c o → so_S (so_Rb (so_kf A) b) o 0 c → wX_orderByBits__secondOrder_2 post n (nI b) (nI c) A h o sp rl rh st ec lc pe se le := by
  intro n
  induction n with
  | zero => intro b o sp h1 h2; omega
  | succ n ih =>
    intro b o sp h1 h2 hP hS
    rw [wX_orderByBits__secondOrder_2]
    refine pk_le 8 b (fun e => K o sp hP (so_Rb_e (kf := so_kf A) (by omega) (fun i hi => ?_) hP ?_)) (fun e => ?_)
    · obtain ⟨k1, k2, k3⟩ := so_knk (hR i hi).1 (hR i hi).2
      rw [so_kfn (by omega)]; exact ⟨k3, by omega⟩
    · have : b = 8 := by omega
      rw [this] at hS; exact hS
    · have hN := so_cb_n (so_kf A) b o c
      refine xcb2 (b := b) (w := 0) (t := 0) hc hR hP e (by omega) (by omega) (fun s1 q1 => ?_)
      refine xcb2 (b := b) (w := 1) (t := 0 + so_cb (so_kf A) b 0 o c) hc hR hP e (by omega) (by omega) (fun s2 q2 => ?_)
      rw [Nat.zero_add] at q2
      obtain ⟨p1, p2⟩ := so_pass q1 q2 hP hS
      have hx : ∀ m, m < c → so_cp o s2 0 c m = s2 m := fun m hm => so_cp_i o s2 (by omega) hm
      exact xcp2 (a := 0) (b := c) (by omega) hc (nm_r (nI_1 b) (ih (b + 1) _ s2 (by omega) (by omega) (so_P_x hx p1) (so_S_x hx p2)))
theorem xbi2 {post : SX → Prop} {o : Nat → Int32} (hc : c ≤ 40) (hR : so_R A c) (hI : ∀ m, m < c → o m = nI m) (K : ∀ o' sp', so_P c o' → so_S (so_B A) o' 0 c → post (nI c, A, h, o', sp', rl, rh, st, ec, lc, pe, se, le)) : wpX_orderByBits__secondOrder post (nI c, A, h, o, sp, rl, rh, st, ec, lc, pe, se, le) :=
  ⟨9, xbi2_2 hc hR K 9 0 o sp (by omega) (by omega) (so_P_id hI) (so_Rb_0 (by omega) hI)⟩
theorem xwt10_2 {post : SX → Prop} {ρ lo hi : Nat → Nat} (hc : c ≤ 40) (hρ : so_pm c ρ) (hF : so_F c ρ ec lc lo hi) (K : ∀ o' pe', (∀ v, v < c → o' (ρ v) = nI v) → post (nI c, A, h, o', sp, rl, rh, st, ec, lc, pe', se, le)) :
    ∀ (n w d s : Nat) (nd : Int32) (o pe : Nat → Int32), 2 * c < n + s → s = 2 * d + w → s ≤ 2 * c → so_K c ρ lo hi pe nd w d o → wX_walkTree__secondOrder_10 post (nI c) n nd (nI w) (nI d) (nI s) A h o sp rl rh st ec lc pe se le := by
  intro n
  induction n with
  | zero => intro w d s nd o pe h1 h2 h3; omega
  | succ n ih =>
    intro w d s nd o pe h1 h2 h3 hK
    rw [wX_walkTree__secondOrder_10]
    refine pk_le (2 * c) s (fun e => K o pe (so_K_e hF hρ.1 hK (by omega))) (fun e => br_c (fun q => ?_) (fun q => ?_)) (pk_mul 2 c)
    · rw [q] at hK
      rcases so_K_lt hF hK with ⟨_, z1, z2⟩ | _
      · omega
      · cases w with
        | zero =>
          rcases so_K_lt hF hK with z | z
          · omega
          · obtain ⟨t, t1, t2, t3⟩ := hK
            rcases t2 with ⟨_, t4⟩ | ⟨v, _, t4, _⟩
            · have : d = c := t4
              omega
            · exact (so_m1 (by omega) t4.symm).elim
        | succ w =>
          obtain ⟨z1, z2, v, z3, z4, z5⟩ := so_K_pop hF hρ.2 hK (by omega)
          have cw : (nI w).toNatClampNeg = w := nI_clamp (by omega)
          have cd : (nI d).toNatClampNeg = d := nI_clamp (by omega)
          have cv : (nI v).toNatClampNeg = v := nI_clamp (by omega)
          refine nm_r (pk_m1 w) ⟨vp_in_nI (by omega) (by omega), vp_in_nI (by omega) (by omega), nm_r (e' := upd o d (nI v)) (by rw [cd, cw, z4]) ⟨vp_in_nI (by omega) (by omega), ?_, nm_r (e' := lc v) ?_ (nm_r (nI_1 d) (nm_r (nI_1 s) (ih w (d + 1) (s + 1) _ _ _ (by omega) (by omega) (by omega) z5)))⟩⟩
          · rw [cd, so_uS]; exact vp_in_nI (by omega) (by omega)
          · rw [cd, so_uS, cv]
    · have hv : ∃ v, v < c ∧ nd = nI v := by
        obtain ⟨t, t1, t2, t3⟩ := hK
        rcases t2 with ⟨t4, _⟩ | ⟨v, t5, t4, _⟩
        · exact (q t4).elim
        · exact ⟨v, t5, t4⟩
      obtain ⟨v, hv1, hv2⟩ := hv
      rw [hv2] at hK ⊢
      obtain ⟨z1, z2, z3⟩ := so_K_push hF (by omega) hK (by omega)
      have cw : (nI w).toNatClampNeg = w := nI_clamp (by omega)
      have cv : (nI v).toNatClampNeg = v := nI_clamp (by omega)
      exact ⟨vp_in_nI (by omega) (by omega), nm_r (e' := upd pe w (nI v)) (by rw [cw]) (nm_r (nI_1 w) ⟨vp_in_nI (by omega) (by omega), nm_r (e' := ec v) (by rw [cv]) (nm_r (nI_1 s) (ih (w + 1) d (s + 1) _ _ _ (by omega) (by omega) (by omega) z3))⟩)⟩
theorem xwt2 {post : SX → Prop} {o : Nat → Int32} {ρ lo hi : Nat → Nat} (hc : c ≤ 40) (h0 : 0 < c) (hρ : so_pm c ρ) (hF : so_F c ρ ec lc lo hi) (K : ∀ o' pe', (∀ v, v < c → o' (ρ v) = nI v) → post (nI c, A, h, o', sp, rl, rh, st, ec, lc, pe', se, le)) : wpX_walkTree__secondOrder post (nI c, A, h, o, sp, rl, rh, st, ec, lc, pe, se, le) :=
  ⟨2 * c + 1, xwt10_2 hc hρ hF K (2 * c + 1) 0 0 0 0 o pe (by omega) (by omega) (by omega) (so_K_0 hF h0)⟩
theorem xtr32_2 {post : SX → Prop} {o : Nat → Int32} {ρ : Nat → Nat} (hc : c ≤ 40) (hρ : so_pm c ρ) (hρ' : ∀ i, i < c → ρ i = so_rk (so_B A) c (nI i)) (K : ∀ o' ec' lc' pe', (∀ v, v < c → o' (ρ v) = nI v) → post (nI c, A, h, o', sp, rl, rh, st, ec', lc', pe', se, le)) :
    ∀ (n p : Nat) (ec lc : Nat → Int32) (lo hi : Nat → Nat), c < n + p → 0 < p → p ≤ c → so_T c p ρ ec lc lo hi → wX_orderByTree__secondOrder_32 post n (nI p) (nI c) A h o sp rl rh st ec lc pe se le := by
  intro n
  induction n with
  | zero => intro p ec lc lo hi h1 h2 h3; omega
  | succ n ih =>
    intro p ec lc lo hi h1 h2 h3 hT
    rw [wX_orderByTree__secondOrder_32]
    refine pk_le c p (fun e => ?_) (fun e => xht hc hρ' h2 e hT (fun ec' lc' lo' hi' hT' => nm_r (nI_1 p) (ih (p + 1) ec' lc' lo' hi' (by omega) (by omega) (by omega) hT')))
    have : p = c := by omega
    rw [this] at hT
    exact xwt2 hc (by omega) hρ (so_F_of hT (fun k hk => so_sur hρ.1 hρ.2 hk)) (fun o' pe' q => K o' ec lc pe' q)
theorem xtr2_2 {post : SX → Prop} {o : Nat → Int32} {ρ : Nat → Nat} (hc : c ≤ 40) (hρ : so_pm c ρ) (hρ' : ∀ i, i < c → ρ i = so_rk (so_B A) c (nI i)) (K : ∀ o' ec' lc' pe', (∀ v, v < c → o' (ρ v) = nI v) → post (nI c, A, h, o', sp, rl, rh, st, ec', lc', pe', se, le)) :
    ∀ (n k : Nat) (ec lc : Nat → Int32), c < n + k → k ≤ c → (∀ v, v < k → ec v = -1 ∧ lc v = -1) → wX_orderByTree__secondOrder_2 post (nI c) n (nI k) A h o sp rl rh st ec lc pe se le := by
  intro n
  induction n with
  | zero => intro k ec lc h1 h2; omega
  | succ n ih =>
    intro k ec lc h1 h2 hv
    rw [wX_orderByTree__secondOrder_2]
    have ck : (nI k).toNatClampNeg = k := nI_clamp (by omega)
    refine pk_le c k (fun e => ?_) (fun e => ⟨vp_in_nI (by omega) (by omega), nm_r (e' := upd ec k (-1)) (by rw [ck]) ⟨vp_in_nI (by omega) (by omega), nm_r (e' := upd lc k (-1)) (by rw [ck]) (nm_r (nI_1 k) (ih (k + 1) _ _ (by omega) (by omega) (fun v hv' => ?_)))⟩⟩)
    · by_cases z : c = 0
      · subst z
        exact ⟨1, br_t (by decide) ⟨1, br_t (by decide) (K o ec lc pe (fun v hv => by omega))⟩⟩
      · exact ⟨c + 1, xtr32_2 hc hρ hρ' K (c + 1) 1 ec lc _ _ (by omega) (by omega) (by omega) (so_T_1 (by omega) (hρ.1 0 (by omega)) (fun v hv' => hv v (by omega)))⟩
    · by_cases q : v = k
      · rw [q]; exact ⟨so_uS, so_uS⟩
      · rw [so_uN q, so_uN q]; exact hv v (by omega)
theorem xtr2 {post : SX → Prop} {o : Nat → Int32} (hc : c ≤ 40) (K : ∀ o' ec' lc' pe', so_D (so_B A) c o' → post (nI c, A, h, o', sp, rl, rh, st, ec', lc', pe', se, le)) : wpX_orderByTree__secondOrder post (nI c, A, h, o, sp, rl, rh, st, ec, lc, pe, se, le) :=
  ⟨c + 1, xtr2_2 (ρ := fun i => so_rk (so_B A) c (nI i)) hc ⟨fun i hi => so_rk_lt (so_BO A) hi, fun i j hi hj e => so_rk_inj (so_BO A) (by omega) hi hj e⟩ (fun i hi => rfl) (fun o' ec' lc' pe' q => K o' ec' lc' pe' q) (c + 1) 0 ec lc (by omega) (by omega) (fun v hv => by omega)⟩
end
end
section
section
variable {A h sp rl rh st ec lc pe se le : Nat → Int32} {fc : Int32} {c : Nat}
theorem xfo2_1 {post : SX → Prop} {e : Nat} (hc : c ≤ 40) (hR : so_R A c) (he : e < 12)
    (K : ∀ o' sp' rl' rh' st' ec' lc' pe', so_D (so_B A) c o' → post (nI c, A, o', h, sp', rl', rh', st', ec', lc', pe', se, le)) :
    ∀ (n k : Nat) (o : Nat → Int32), c < n + k → k ≤ c → (∀ m, m < k → o m = nI m) → wX_findOrder__firstOrder_2 post (nI e) (nI c) n (nI k) A o h sp rl rh st ec lc pe se le := by
  intro n
  induction n with
  | zero => intro k o h1 h2; omega
  | succ n ih =>
    intro k o h1 h2 hI
    rw [wX_findOrder__firstOrder_2]
    have ck : (nI k).toNatClampNeg = k := nI_clamp (by omega)
    have hB := so_BO A
    refine pk_le c k (fun z => ?_) (fun z => ⟨vp_in_nI (by omega) (by omega), nm_r (e' := upd o k (nI k)) (by rw [ck]) (nm_r (nI_1 k) (ih (k + 1) _ (by omega) (by omega) (fun m hm => ?_)))⟩)
    · have hI' : ∀ m, m < c → o m = nI m := fun m hm => hI m (by omega)
      have hP : so_P c o := so_P_id hI'
      have hn : c < 2 ^ 31 := by omega
      refine br_f (nI_pos (by omega)) (br_f (nI_nlt (a := 11) (by omega) (by omega)) ?_)
      refine pk_eq e 0 (fun _ => xin1 hc hP (fun o' p1 p2 => K o' sp rl rh st ec lc pe (so_D_of hB hn p1 p2))) (fun _ => ?_)
      refine pk_eq e 1 (fun _ => xse1 hc hP (fun o' p1 p2 => K o' sp rl rh st ec lc pe (so_D_of hB hn p1 p2))) (fun _ => ?_)
      refine pk_eq e 2 (fun _ => xbu1 hc hP (fun o' p1 p2 => K o' sp rl rh st ec lc pe (so_D_of hB hn p1 p2))) (fun _ => ?_)
      refine pk_eq e 3 (fun _ => xmg1 hc hP (fun o' s' p1 p2 => K o' s' rl rh st ec lc pe (so_D_of hB hn p1 p2))) (fun _ => ?_)
      refine pk_eq e 4 (fun _ => xhe1 hc hP (fun o' p1 p2 => K o' sp rl rh st ec lc pe (so_D_of hB hn p1 p2))) (fun _ => ?_)
      refine pk_eq e 5 (fun _ => xqu1 hc hP (fun o' rl' rh' p1 p2 => K o' sp rl' rh' st ec lc pe (so_D_of hB hn p1 p2))) (fun _ => ?_)
      refine pk_eq e 6 (fun _ => xga1 hc hP (fun o' p1 p2 => K o' sp rl rh st ec lc pe (so_D_of hB hn p1 p2))) (fun _ => ?_)
      refine pk_eq e 7 (fun _ => xco1 hc hR (fun o' st' p1 => K o' sp rl rh st' ec lc pe p1)) (fun _ => ?_)
      refine pk_eq e 8 (fun _ => xbi1 hc hR hI' (fun o' s' p1 p2 => K o' s' rl rh st ec lc pe (so_D_of hB hn p1 p2))) (fun _ => ?_)
      refine pk_eq e 9 (fun _ => xra1 hc (fun o' p1 => K o' sp rl rh st ec lc pe p1)) (fun _ => ?_)
      refine pk_eq e 10 (fun _ => xtr1 hc (fun o' ec' lc' pe' p1 => K o' sp rl rh st ec' lc' pe' p1)) (fun _ => ?_)
      exact pk_eq e 11 (fun _ => xod1 hc hP (fun o' p1 p2 => K o' sp rl rh st ec lc pe (so_D_of hB hn p1 p2))) (fun _ => trivial)
    · by_cases q : m = k
      · rw [q]; exact so_uS
      · rw [so_uN q]; exact hI m (by omega)
theorem xfo1 {post : SX → Prop} {o : Nat → Int32} {e : Nat} (hc : c ≤ 40) (hR : so_R A c) (he : e < 12)
    (K : ∀ o' sp' rl' rh' st' ec' lc' pe', so_D (so_B A) c o' → post (nI c, A, o', h, sp', rl', rh', st', ec', lc', pe', se, le)) : wpX_findOrder__firstOrder post (nI c, A, o, h, sp, rl, rh, st, ec, lc, pe, se, le) (nI e) :=
  ⟨c + 1, xfo2_1 hc hR he K (c + 1) 0 o (by omega) (by omega) (fun m hm => by omega)⟩
end
end
section
section
variable {A h sp rl rh st ec lc pe se le : Nat → Int32} {fc : Int32} {c : Nat}
theorem xfo2_2 {post : SX → Prop} {e : Nat} (hc : c ≤ 40) (hR : so_R A c) (he : e < 12)
    (K : ∀ o' sp' rl' rh' st' ec' lc' pe', so_D (so_B A) c o' → post (nI c, A, h, o', sp', rl', rh', st', ec', lc', pe', se, le)) :
    ∀ (n k : Nat) (o : Nat → Int32), c < n + k → k ≤ c → (∀ m, m < k → o m = nI m) → wX_findOrder__secondOrder_2 post (nI e) (nI c) n (nI k) A h o sp rl rh st ec lc pe se le := by
  intro n
  induction n with
  | zero => intro k o h1 h2; omega
  | succ n ih =>
    intro k o h1 h2 hI
    rw [wX_findOrder__secondOrder_2]
    have ck : (nI k).toNatClampNeg = k := nI_clamp (by omega)
    have hB := so_BO A
    refine pk_le c k (fun z => ?_) (fun z => ⟨vp_in_nI (by omega) (by omega), nm_r (e' := upd o k (nI k)) (by rw [ck]) (nm_r (nI_1 k) (ih (k + 1) _ (by omega) (by omega) (fun m hm => ?_)))⟩)
    · have hI' : ∀ m, m < c → o m = nI m := fun m hm => hI m (by omega)
      have hP : so_P c o := so_P_id hI'
      have hn : c < 2 ^ 31 := by omega
      refine br_f (nI_pos (by omega)) (br_f (nI_nlt (a := 11) (by omega) (by omega)) ?_)
      refine pk_eq e 0 (fun _ => xin2 hc hP (fun o' p1 p2 => K o' sp rl rh st ec lc pe (so_D_of hB hn p1 p2))) (fun _ => ?_)
      refine pk_eq e 1 (fun _ => xse2 hc hP (fun o' p1 p2 => K o' sp rl rh st ec lc pe (so_D_of hB hn p1 p2))) (fun _ => ?_)
      refine pk_eq e 2 (fun _ => xbu2 hc hP (fun o' p1 p2 => K o' sp rl rh st ec lc pe (so_D_of hB hn p1 p2))) (fun _ => ?_)
      refine pk_eq e 3 (fun _ => xmg2 hc hP (fun o' s' p1 p2 => K o' s' rl rh st ec lc pe (so_D_of hB hn p1 p2))) (fun _ => ?_)
      refine pk_eq e 4 (fun _ => xhe2 hc hP (fun o' p1 p2 => K o' sp rl rh st ec lc pe (so_D_of hB hn p1 p2))) (fun _ => ?_)
      refine pk_eq e 5 (fun _ => xqu2 hc hP (fun o' rl' rh' p1 p2 => K o' sp rl' rh' st ec lc pe (so_D_of hB hn p1 p2))) (fun _ => ?_)
      refine pk_eq e 6 (fun _ => xga2 hc hP (fun o' p1 p2 => K o' sp rl rh st ec lc pe (so_D_of hB hn p1 p2))) (fun _ => ?_)
      refine pk_eq e 7 (fun _ => xco2 hc hR (fun o' st' p1 => K o' sp rl rh st' ec lc pe p1)) (fun _ => ?_)
      refine pk_eq e 8 (fun _ => xbi2 hc hR hI' (fun o' s' p1 p2 => K o' s' rl rh st ec lc pe (so_D_of hB hn p1 p2))) (fun _ => ?_)
      refine pk_eq e 9 (fun _ => xra2 hc (fun o' p1 => K o' sp rl rh st ec lc pe p1)) (fun _ => ?_)
      refine pk_eq e 10 (fun _ => xtr2 hc (fun o' ec' lc' pe' p1 => K o' sp rl rh st ec' lc' pe' p1)) (fun _ => ?_)
      exact pk_eq e 11 (fun _ => xod2 hc hP (fun o' p1 p2 => K o' sp rl rh st ec lc pe (so_D_of hB hn p1 p2))) (fun _ => trivial)
    · by_cases q : m = k
      · rw [q]; exact so_uS
      · rw [so_uN q]; exact hI m (by omega)
theorem xfo2 {post : SX → Prop} {o : Nat → Int32} {e : Nat} (hc : c ≤ 40) (hR : so_R A c) (he : e < 12)
    (K : ∀ o' sp' rl' rh' st' ec' lc' pe', so_D (so_B A) c o' → post (nI c, A, h, o', sp', rl', rh', st', ec', lc', pe', se, le)) : wpX_findOrder__secondOrder post (nI c, A, h, o, sp, rl, rh, st, ec, lc, pe, se, le) (nI e) :=
  ⟨c + 1, xfo2_2 hc hR he K (c + 1) 0 o (by omega) (by omega) (fun m hm => by omega)⟩
end
end
section
/-- one count, one list of numbers within their bounds -/
def i_Rel (_ : Nat) (u : SX) (v : SY) : Prop :=
  ∃ (c : Nat) (A F G sp rl rh st ec lc pe se le cp : Nat → Int32), u = (nI c, A, F, G, sp, rl, rh, st, ec, lc, pe, se, le) ∧ v = (nI c, A, cp) ∧ c ≤ 40 ∧ so_R A c
theorem i_up {k : Nat} {u : SX} {v : SY} (h : i_Rel k u v) : i_Rel (k + 4) u v := h
theorem i_vc0 : wpX_init (fun u => wpY_init (fun v => i_Rel 0 u v)) :=
  ⟨0, _, _, _, _, _, _, _, _, _, _, _, _, _, rfl, rfl, by omega, fun i hi => by omega⟩
section
variable {A F G sp rl rh st ec lc pe se le cp : Nat → Int32} {fc : Int32} {c : Nat}
theorem i_mk {k : Nat} (hc : c ≤ 40) (hR : so_R A c) : i_Rel k (nI c, A, F, G, sp, rl, rh, st, ec, lc, pe, se, le) (nI c, A, cp) :=
  ⟨c, A, F, G, sp, rl, rh, st, ec, lc, pe, se, le, cp, rfl, rfl, hc, hR⟩
/-- a number that the document lets in -/
def so_ok (x : Int32) : Prop := -99 ≤ x.toInt ∧ x.toInt ≤ 99
theorem xnu {post : Int32 → Prop} {x : Int32} (h1 : so_ok x → post 1) (h0 : ¬ so_ok x → post 0) : wpX_isNumber post (fc, A, F, G, sp, rl, rh, st, ec, lc, pe, se, le) x := by
  refine br_c (fun l => h0 fun z => ?_) (fun l => br_c (fun m => h0 fun z => ?_) (fun m => h1 ⟨?_, ?_⟩))
  · rw [Int32.lt_iff_toInt_lt, so_m99] at l; have := z.1; omega
  · rw [Int32.lt_iff_toInt_lt, so_99] at m; have := z.2; omega
  · rw [Int32.lt_iff_toInt_lt, so_m99] at l; omega
  · rw [Int32.lt_iff_toInt_lt, so_99] at m; omega
theorem ynu {post : Int32 → Prop} {x : Int32} (h1 : so_ok x → post 1) (h0 : ¬ so_ok x → post 0) : wpY_fits post (fc, A, cp) x := by
  refine br_c (fun l => h0 fun z => ?_) (fun l => br_c (fun m => h0 fun z => ?_) (fun m => h1 ⟨?_, ?_⟩))
  · rw [Int32.lt_iff_toInt_lt, so_m99] at l; have := z.1; omega
  · rw [Int32.lt_iff_toInt_lt, so_99] at m; have := z.2; omega
  · rw [Int32.lt_iff_toInt_lt, so_m99] at l; omega
  · rw [Int32.lt_iff_toInt_lt, so_99] at m; omega
theorem xpl {post : Int32 → Prop} {x : Int32} (hc : c ≤ 40) (h1 : ∀ j, j < c → x = nI j → post 1) (h0 : (∀ j, j < c → x ≠ nI j) → post 0) : wpX_isPlace post (nI c, A, F, G, sp, rl, rh, st, ec, lc, pe, se, le) x := by
  rcases pk_ix x (n := c) (by omega) with a | a | ⟨j, hj, a⟩
  · exact br_t a (h0 fun j hj e => by rw [e] at a; exact nI_pos (by omega) a)
  · refine br_f (fun z => ?_) (br_t a (h0 fun j hj e => by rw [e] at a; exact nI_ge hj (by omega) a))
    rw [Int32.le_iff_toInt_le, nI_toInt (by omega)] at a
    rw [Int32.lt_iff_toInt_lt, show (0 : Int32).toInt = 0 from by decide] at z
    omega
  · rw [a]
    exact br_f (nI_pos (by omega)) (br_f (nI_ge hj (by omega)) (h1 j hj a))
theorem ypl {post : Int32 → Prop} {x : Int32} (hc : c ≤ 40) (h1 : ∀ j, j < c → x = nI j → post 1) (h0 : (∀ j, j < c → x ≠ nI j) → post 0) : wpY_is post (nI c, A, cp) x := by
  rcases pk_ix x (n := c) (by omega) with a | a | ⟨j, hj, a⟩
  · exact br_t a (h0 fun j hj e => by rw [e] at a; exact nI_pos (by omega) a)
  · refine br_f (fun z => ?_) (br_t a (h0 fun j hj e => by rw [e] at a; exact nI_ge hj (by omega) a))
    rw [Int32.le_iff_toInt_le, nI_toInt (by omega)] at a
    rw [Int32.lt_iff_toInt_lt, show (0 : Int32).toInt = 0 from by decide] at z
    omega
  · rw [a]
    exact br_f (nI_pos (by omega)) (br_f (nI_ge hj (by omega)) (h1 j hj a))
theorem xen {post : Int32 → Prop} {x : Int32} (h1 : ∀ j, j < 12 → x = nI j → post 1) (h0 : (∀ j, j < 12 → x ≠ nI j) → post 0) : wpX_isEngine post (fc, A, F, G, sp, rl, rh, st, ec, lc, pe, se, le) x := by
  rcases pk_ix x (n := 12) (by omega) with a | a | ⟨j, hj, a⟩
  · exact br_t a (h0 fun j hj e => by rw [e] at a; exact nI_pos (by omega) a)
  · have h11 : (11 : Int32).toInt = 11 := by decide
    rw [Int32.le_iff_toInt_le, nI_toInt (by omega)] at a
    refine br_f (fun z => ?_) (br_t ?_ (h0 fun j hj e => by rw [e, nI_toInt (by omega)] at a; omega))
    · rw [Int32.lt_iff_toInt_lt, show (0 : Int32).toInt = 0 from by decide] at z
      omega
    · rw [Int32.lt_iff_toInt_lt, h11]; omega
  · rw [a]
    exact br_f (nI_pos (by omega)) (br_f (nI_nlt (a := 11) (by omega) (by omega)) (h1 j hj a))
theorem yen {post : Int32 → Prop} {x : Int32} (h1 : ∀ j, j < 12 → x = nI j → post 1) (h0 : (∀ j, j < 12 → x ≠ nI j) → post 0) : wpY_engine post (fc, A, cp) x := by
  rcases pk_ix x (n := 12) (by omega) with a | a | ⟨j, hj, a⟩
  · exact br_t a (h0 fun j hj e => by rw [e] at a; exact nI_pos (by omega) a)
  · have h11 : (11 : Int32).toInt = 11 := by decide
    rw [Int32.le_iff_toInt_le, nI_toInt (by omega)] at a
    refine br_f (fun z => ?_) (br_t ?_ (h0 fun j hj e => by rw [e, nI_toInt (by omega)] at a; omega))
    · rw [Int32.lt_iff_toInt_lt, show (0 : Int32).toInt = 0 from by decide] at z
      omega
    · rw [Int32.lt_iff_toInt_lt, h11]; omega
  · rw [a]
    exact br_f (nI_pos (by omega)) (br_f (nI_nlt (a := 11) (by omega) (by omega)) (h1 j hj a))
end
theorem i_vc_size {k : Nat} {u : SX} {v : SY} (I : i_Rel k u v) (hk : k + 4 ≤ 2048) : wpX_size (fun r => wpY_size (fun r' => r' = r ∧ i_Rel (k + 4) u v) v) u := by
  obtain ⟨c, A, F, G, sp, rl, rh, st, ec, lc, pe, se, le, cp, rfl, rfl, hc, hR⟩ := I
  exact ⟨rfl, i_mk hc hR⟩
theorem i_vc_at {k : Nat} {u : SX} {v : SY} (I : i_Rel k u v) (hk : k + 4 ≤ 2048) (v1 : Int32) : wpX_at (fun r => wpY_at (fun r' => r' = r ∧ i_Rel (k + 4) u v) v v1) u v1 := by
  obtain ⟨c, A, F, G, sp, rl, rh, st, ec, lc, pe, se, le, cp, rfl, rfl, hc, hR⟩ := I
  unfold wpX_at wpY_at
  dsimp only
  refine xpl hc (fun j hj e => br_f xe_n10 ⟨by rw [e]; exact vp_in_nI (by omega) (by omega), ?_⟩) (fun h => br_t rfl ?_)
  · refine ypl hc (fun _ _ _ => br_f xe_n10 ⟨by rw [e]; exact vp_in_nI (by omega) (by omega), rfl, i_mk hc hR⟩) (fun h => (h j hj e).elim)
  · exact ypl hc (fun j hj e => (h j hj e).elim) (fun _ => br_t rfl ⟨rfl, i_mk hc hR⟩)
theorem so_R_u {A : Nat → Int32} {c j : Nat} {x : Int32} (hR : so_R A c) (hx : so_ok x) : so_R (upd A j x) c := by
  intro i hi
  by_cases q : i = j
  · rw [q, so_uS]; exact hx
  · rw [so_uN q]; exact hR i hi
theorem i_vc_change {k : Nat} {u : SX} {v : SY} (I : i_Rel k u v) (hk : k + 4 ≤ 2048) (v1 : Int32) (v2 : Int32) : wpX_change (fun r u' => wpY_change (fun r' v' => r' = r ∧ i_Rel (k + 4) u' v') v v1 v2) u v1 v2 := by
  obtain ⟨c, A, F, G, sp, rl, rh, st, ec, lc, pe, se, le, cp, rfl, rfl, hc, hR⟩ := I
  unfold wpX_change wpY_change
  dsimp only
  refine xpl hc (fun j hj e => br_f xe_n10 (xnu (fun g => br_f xe_n10 ?_) (fun g => br_t rfl ?_))) (fun h => br_t rfl ?_)
  · have vj : vp_in v1 40 := by rw [e]; exact vp_in_nI (by omega) (by omega)
    refine ⟨vj, nm_e ⟨vj, nm_e ?_⟩⟩
    exact ypl hc (fun _ _ _ => br_f xe_n10 (ynu (fun _ => br_f xe_n10 ⟨vj, nm_e ⟨vj, nm_e ⟨rfl, i_mk hc (so_R_u hR g)⟩⟩⟩) (fun g' => (g' g).elim))) (fun h => (h j hj e).elim)
  · exact ypl hc (fun _ _ _ => br_f xe_n10 (ynu (fun g' => (g g').elim) (fun _ => br_t rfl ⟨rfl, i_mk hc hR⟩))) (fun h => (h j hj e).elim)
  · exact ypl hc (fun j hj e => (h j hj e).elim) (fun _ => br_t rfl ⟨rfl, i_mk hc hR⟩)
end
section
/-- n numbers in steps behind the first c -/
def so_ap (A : Nat → Int32) (v s : Int32) (c k : Nat) : Nat → Int32 := fun j => if c ≤ j ∧ j < c + k then v + nI (j - c) * s else A j
theorem so_ap_0 (A : Nat → Int32) (v s : Int32) (c : Nat) : so_ap A v s c 0 = A := funext fun j => if_neg (by omega)
theorem so_ap_s (A : Nat → Int32) (v s : Int32) (c k : Nat) : upd (so_ap A v s c k) (c + k) (v + nI k * s) = so_ap A v s c (k + 1) := by
  funext j
  show (if j = c + k then v + nI k * s else so_ap A v s c k j) = so_ap A v s c (k + 1) j
  unfold so_ap
  by_cases a : j = c + k
  · have e : j - c = k := by omega
    rw [if_pos a, if_pos (by omega), e]
  · rw [if_neg a]
    by_cases b : c ≤ j ∧ j < c + k
    · rw [if_pos b, if_pos (by omega)]
    · rw [if_neg b, if_neg (by omega)]
theorem so_ap_R {A : Nat → Int32} {v s : Int32} {c m : Nat} (hR : so_R A c) (hv : so_ok v) (hs : so_ok s) (hm : m + 1 ≤ 40) (hl : so_ok (v + nI m * s)) : so_R (so_ap A v s c (m + 1)) (c + (m + 1)) := by
  intro j hj
  unfold so_ap
  by_cases b : c ≤ j ∧ j < c + (m + 1)
  · rw [if_pos b, so_vks hv.1 hv.2 hs.1 hs.2 (by omega)]
    have h1 := hl
    unfold so_ok at h1
    rw [so_vks hv.1 hv.2 hs.1 hs.2 (by omega)] at h1
    exact so_cv (m := (m : Int)) (by omega) (by omega) hv.1 hv.2 h1.1 h1.2
  · rw [if_neg b]; exact hR j (by omega)
section
variable {A F G sp rl rh st ec lc pe se le cp : Nat → Int32} {fc : Int32} {c : Nat}
theorem xap71 {post : Int32 → SX → Prop} {v s : Int32} {m : Nat} (hm : c + m ≤ 40) (K : post (nI (c + m)) (nI (c + m), so_ap A v s c m, F, G, sp, rl, rh, st, ec, lc, pe, se, le)) :
    ∀ n k : Nat, m < n + k → k ≤ m → wX_append_71 post v s (nI m) (nI c) n (nI k) (so_ap A v s c k) F G sp rl rh st ec lc pe se le := by
  intro n
  induction n with
  | zero => intro k h1 h2; omega
  | succ n ih =>
    intro k h1 h2
    rw [wX_append_71]
    have e1 : nI c + nI k = nI (c + k) := nI_add c k
    refine pk_le m k (fun e => nm_r (nI_add c m) ?_) (fun e => ⟨by rw [e1]; exact vp_in_nI (by omega) (by omega), nm_r (e' := so_ap A v s c (k + 1)) (by rw [e1, nI_clamp (by omega), so_ap_s]) (nm_r (nI_1 k) (ih (k + 1) (by omega) (by omega)))⟩)
    have : k = m := by omega
    rw [this]; exact K
theorem yap63 {post : Int32 → SY → Prop} {v s : Int32} {m : Nat} (hm : c + m ≤ 40) (K : post (nI (c + m)) (nI (c + m), so_ap A v s c m, cp)) :
    ∀ n k : Nat, m < n + k → k ≤ m → wY_append_63 post v s (nI m) (nI c) n (nI k) (so_ap A v s c k) cp := by
  intro n
  induction n with
  | zero => intro k h1 h2; omega
  | succ n ih =>
    intro k h1 h2
    rw [wY_append_63]
    have e1 : nI c + nI k = nI (c + k) := nI_add c k
    refine pk_le m k (fun e => nm_r (nI_add c m) ?_) (fun e => ⟨by rw [e1]; exact vp_in_nI (by omega) (by omega), nm_r (e' := so_ap A v s c (k + 1)) (by rw [e1, nI_clamp (by omega), so_ap_s]) (nm_r (nI_1 k) (ih (k + 1) (by omega) (by omega)))⟩)
    have : k = m := by omega
    rw [this]; exact K
theorem so_ok_l {x : Int32} : ¬ so_ok x ↔ (x < -99 ∨ ¬ x ≤ 99) := by
  unfold so_ok
  rw [Int32.lt_iff_toInt_lt, so_le99, so_m99]
  omega
theorem xap_bad {post : Int32 → SX → Prop} {v s n : Int32} (hb : n < 1 ∨ 40 < n ∨ ¬ so_ok v ∨ ¬ so_ok s ∨ ¬ so_ok (v + (n - 1) * s)) (K : post (-1000) (fc, A, F, G, sp, rl, rh, st, ec, lc, pe, se, le)) :
    wpX_append post (fc, A, F, G, sp, rl, rh, st, ec, lc, pe, se, le) v s n := by
  by_cases a1 : n < 1
  · exact br_t a1 K
  by_cases a2 : 40 < n
  · exact br_f a1 (br_t a2 K)
  refine br_f a1 (br_f a2 (xnu (fun g => br_f xe_n10 ?_) (fun _ => br_t rfl K)))
  by_cases a3 : s < -99
  · exact br_t a3 K
  by_cases a4 : s ≤ 99
  · refine br_f a3 (br_t a4 (xnu (fun g2 => ?_) (fun _ => br_t rfl K)))
    have hs : so_ok s := Classical.byContradiction fun z => by
      rcases so_ok_l.1 z with y | y
      · exact a3 y
      · exact y a4
    rcases hb with z | z | z | z | z
    · exact (a1 z).elim
    · exact (a2 z).elim
    · exact (z g).elim
    · exact (z hs).elim
    · exact (z g2).elim
  · exact br_f a3 (br_f a4 K)
theorem yap_bad {post : Int32 → SY → Prop} {v s n : Int32} (hb : n < 1 ∨ 40 < n ∨ ¬ so_ok v ∨ ¬ so_ok s ∨ ¬ so_ok (v + (n - 1) * s)) (K : post (-1000) (fc, A, cp)) :
    wpY_append post (fc, A, cp) v s n := by
  by_cases a1 : n < 1
  · exact br_t a1 K
  by_cases a2 : 40 < n
  · exact br_f a1 (br_t a2 K)
  refine br_f a1 (br_f a2 (ynu (fun g => br_f xe_n10 (ynu (fun g1 => br_f xe_n10 (ynu (fun g2 => ?_) (fun _ => br_t rfl K))) (fun _ => br_t rfl K))) (fun _ => br_t rfl K)))
  rcases hb with z | z | z | z | z
  · exact (a1 z).elim
  · exact (a2 z).elim
  · exact (z g).elim
  · exact (z g1).elim
  · exact (z g2).elim
theorem xap_ok {post : Int32 → SX → Prop} {v s n : Int32} (a1 : ¬ n < 1) (a2 : ¬ 40 < n) (hv : so_ok v) (hs : so_ok s) (hl : so_ok (v + (n - 1) * s))
    (K : (n ≤ 40 - fc → ∃ n71 : Nat, wX_append_71 post v s n fc n71 0 A F G sp rl rh st ec lc pe se le) ∧ (¬ n ≤ 40 - fc → post (-2000) (fc, A, F, G, sp, rl, rh, st, ec, lc, pe, se, le))) :
    wpX_append post (fc, A, F, G, sp, rl, rh, st, ec, lc, pe, se, le) v s n := by
  have a3 : ¬ s < -99 := fun z => so_ok_l.2 (Or.inl z) hs
  have a4 : s ≤ 99 := Classical.byContradiction fun z => so_ok_l.2 (Or.inr z) hs
  exact br_f a1 (br_f a2 (xnu (fun _ => br_f xe_n10 (br_f a3 (br_t a4 (xnu (fun _ => br_f xe_n10 K) (fun z => (z hl).elim))))) (fun z => (z hv).elim)))
theorem yap_ok {post : Int32 → SY → Prop} {v s n : Int32} (a1 : ¬ n < 1) (a2 : ¬ 40 < n) (hv : so_ok v) (hs : so_ok s) (hl : so_ok (v + (n - 1) * s))
    (K : (fc + n ≤ 40 → ∃ n63 : Nat, wY_append_63 post v s n fc n63 0 A cp) ∧ (¬ fc + n ≤ 40 → post (-2000) (fc, A, cp))) :
    wpY_append post (fc, A, cp) v s n :=
  br_f a1 (br_f a2 (ynu (fun _ => br_f xe_n10 (ynu (fun _ => br_f xe_n10 (ynu (fun _ => br_f xe_n10 K) (fun z => (z hl).elim))) (fun z => (z hs).elim))) (fun z => (z hv).elim)))
end
theorem i_vc_append {k : Nat} {u : SX} {v : SY} (I : i_Rel k u v) (hk : k + 4 ≤ 2048) (v1 : Int32) (v2 : Int32) (v3 : Int32) : wpX_append (fun r u' => wpY_append (fun r' v' => r' = r ∧ i_Rel (k + 4) u' v') v v1 v2 v3) u v1 v2 v3 := by
  obtain ⟨c, A, F, G, sp, rl, rh, st, ec, lc, pe, se, le, cp, rfl, rfl, hc, hR⟩ := I
  by_cases hb : v3 < 1 ∨ 40 < v3 ∨ ¬ so_ok v1 ∨ ¬ so_ok v2 ∨ ¬ so_ok (v1 + (v3 - 1) * v2)
  · exact xap_bad hb (yap_bad hb ⟨rfl, i_mk hc hR⟩)
  · have a1 : ¬ v3 < 1 := fun z => hb (Or.inl z)
    have a2 : ¬ 40 < v3 := fun z => hb (Or.inr (Or.inl z))
    have hv : so_ok v1 := Classical.byContradiction fun z => hb (Or.inr (Or.inr (Or.inl z)))
    have hs : so_ok v2 := Classical.byContradiction fun z => hb (Or.inr (Or.inr (Or.inr (Or.inl z))))
    have hl : so_ok (v1 + (v3 - 1) * v2) := Classical.byContradiction fun z => hb (Or.inr (Or.inr (Or.inr (Or.inr z))))
    obtain ⟨m, hm, rfl⟩ : ∃ m, m < 40 ∧ v3 = nI (m + 1) := by
      have h1 : ¬ v3 < 0 := fun z => a1 (by
        rw [Int32.lt_iff_toInt_lt] at z ⊢
        rw [show (0 : Int32).toInt = 0 from by decide] at z
        rw [show (1 : Int32).toInt = 1 from by decide]
        omega)
      obtain ⟨j, hj, rfl⟩ := nI_of h1
      rw [Int32.lt_iff_toInt_lt, nI_toInt hj, show (1 : Int32).toInt = 1 from by decide] at a1
      rw [Int32.lt_iff_toInt_lt, nI_toInt hj, show (40 : Int32).toInt = 40 from by decide] at a2
      obtain ⟨m, rfl⟩ : ∃ m, j = m + 1 := ⟨j - 1, by omega⟩
      exact ⟨m, by omega, rfl⟩
    rw [nI_pred] at hl
    have hl' : so_ok (v1 + (nI (m + 1) - 1) * v2) := by rw [nI_pred]; exact hl
    have e40 : (40 : Int32) - nI c = nI (40 - c) := pk_sub (a := 40) hc
    have h0X := so_ap_0 A v1 v2 c
    refine xap_ok a1 a2 hv hs hl' (pk_le (m + 1) (40 - c) (fun e => ⟨m + 2, ?_⟩) (fun e => ?_) rfl e40)
    · have hx := xap71 (A := A) (F := F) (G := G) (sp := sp) (rl := rl) (rh := rh) (st := st) (ec := ec) (lc := lc) (pe := pe) (se := se) (le := le) (c := c) (v := v1) (s := v2) (m := m + 1)
        (post := fun r u' => wpY_append (fun r' v' => r' = r ∧ i_Rel (k + 4) u' v') (nI c, A, cp) v1 v2 (nI (m + 1))) (by omega) ?_ (m + 2) 0 (by omega) (by omega)
      · rw [h0X] at hx; exact hx
      · refine yap_ok a1 a2 hv hs hl' (pk_le (c + (m + 1)) 40 (fun e' => ⟨m + 2, ?_⟩) (fun e' => by omega) (nI_add c (m + 1)))
        have hy := yap63 (A := A) (cp := cp) (c := c) (v := v1) (s := v2) (m := m + 1)
          (post := fun r' v' => r' = nI (c + (m + 1)) ∧ i_Rel (k + 4) (nI (c + (m + 1)), so_ap A v1 v2 c (m + 1), F, G, sp, rl, rh, st, ec, lc, pe, se, le) v') (by omega) ⟨rfl, i_mk (by omega) (so_ap_R hR hv hs (by omega) hl)⟩ (m + 2) 0 (by omega) (by omega)
        rw [h0X] at hy; exact hy
    · exact yap_ok a1 a2 hv hs hl' (pk_le (c + (m + 1)) 40 (fun e' => by omega) (fun _ => ⟨rfl, i_mk hc hR⟩) (nI_add c (m + 1)))
/-- the first k once more behind the first c -/
def so_rp (A : Nat → Int32) (t : Int32) (c k : Nat) : Nat → Int32 := fun j => if c ≤ j ∧ j < c + k then (if t = 0 then A (j - c) else -(A (j - c))) else A j
theorem so_rp_0 (A : Nat → Int32) (t : Int32) (c : Nat) : so_rp A t c 0 = A := funext fun j => if_neg (by omega)
theorem so_rp_s (A : Nat → Int32) (t : Int32) (c k : Nat) : upd (so_rp A t c k) (c + k) (if t = 0 then A k else -(A k)) = so_rp A t c (k + 1) := by
  funext j
  show (if j = c + k then (if t = 0 then A k else -(A k)) else so_rp A t c k j) = so_rp A t c (k + 1) j
  unfold so_rp
  by_cases a : j = c + k
  · have e : j - c = k := by omega
    rw [if_pos a, if_pos (show c ≤ j ∧ j < c + (k + 1) by omega), e]
  · rw [if_neg a]
    by_cases b : c ≤ j ∧ j < c + k
    · rw [if_pos b, if_pos (show c ≤ j ∧ j < c + (k + 1) by omega)]
    · rw [if_neg b, if_neg (show ¬ (c ≤ j ∧ j < c + (k + 1)) by omega)]
theorem so_rp_l (A : Nat → Int32) (t : Int32) {c k j : Nat} (h : j < c) : so_rp A t c k j = A j := if_neg (by omega)
theorem so_rp_R {A : Nat → Int32} {t : Int32} {c m : Nat} (hR : so_R A c) (hm : m ≤ c) : so_R (so_rp A t c m) (c + m) := by
  intro j hj
  unfold so_rp
  by_cases b : c ≤ j ∧ j < c + m
  · rw [if_pos b]
    have h1 := hR (j - c) (by omega)
    by_cases d : t = 0
    · rw [if_pos d]; exact h1
    · rw [if_neg d, so_neg h1.1 h1.2]; omega
  · rw [if_neg b]; exact hR j (by omega)
section
variable {A F G sp rl rh st ec lc pe se le cp : Nat → Int32} {fc : Int32} {c : Nat}
theorem xrp33 {post : Int32 → SX → Prop} {t : Int32} {m : Nat} (hm : c + m ≤ 40) (hmc : m ≤ c) (K : post (nI (c + m)) (nI (c + m), so_rp A t c m, F, G, sp, rl, rh, st, ec, lc, pe, se, le)) :
    ∀ n k : Nat, m < n + k → k ≤ m → wX_repeat_33 post (nI m) t (nI c) n (nI k) (so_rp A t c k) F G sp rl rh st ec lc pe se le := by
  intro n
  induction n with
  | zero => intro k h1 h2; omega
  | succ n ih =>
    intro k h1 h2
    rw [wX_repeat_33]
    have e1 : nI c + nI k = nI (c + k) := nI_add c k
    have ck : (nI k).toNatClampNeg = k := nI_clamp (by omega)
    refine pk_le m k (fun e => nm_r (nI_add c m) ?_) (fun e => ?_)
    · have : k = m := by omega
      rw [this]; exact K
    · have vk : vp_in (nI k) 40 := vp_in_nI (by omega) (by omega)
      have vck : vp_in (nI c + nI k) 40 := by rw [e1]; exact vp_in_nI (by omega) (by omega)
      have hs := so_rp_s A t c k
      have ih' := ih (k + 1) (by omega) (by omega)
      refine br_c (fun z => ⟨vk, vck, nm_r (e' := so_rp A t c (k + 1)) ?_ (nm_r (nI_1 k) ih')⟩) (fun z => ⟨vk, vck, nm_r (e' := so_rp A t c (k + 1)) ?_ (nm_r (nI_1 k) ih')⟩)
      · rw [if_pos z] at hs
        rw [e1, nI_clamp (n := c + k) (by omega), ck, so_rp_l A t (by omega), hs]
      · rw [if_neg z] at hs
        rw [e1, nI_clamp (n := c + k) (by omega), ck, so_rp_l A t (by omega), hs]
theorem yrp33 {post : Int32 → SY → Prop} {t : Int32} {m : Nat} (hm : c + m ≤ 40) (hmc : m ≤ c) (K : post (nI (c + m)) (nI (c + m), so_rp A t c m, cp)) :
    ∀ n k : Nat, m < n + k → k ≤ m → wY_repeat_33 post (nI m) t (nI c) n (nI k) (so_rp A t c k) cp := by
  intro n
  induction n with
  | zero => intro k h1 h2; omega
  | succ n ih =>
    intro k h1 h2
    rw [wY_repeat_33]
    have e1 : nI c + nI k = nI (c + k) := nI_add c k
    have ck : (nI k).toNatClampNeg = k := nI_clamp (by omega)
    refine pk_le m k (fun e => nm_r (nI_add c m) ?_) (fun e => ?_)
    · have : k = m := by omega
      rw [this]; exact K
    · have vk : vp_in (nI k) 40 := vp_in_nI (by omega) (by omega)
      have vck : vp_in (nI c + nI k) 40 := by rw [e1]; exact vp_in_nI (by omega) (by omega)
      have hs := so_rp_s A t c k
      have ih' := ih (k + 1) (by omega) (by omega)
      refine br_c (fun z => ⟨vk, vck, nm_r (e' := so_rp A t c (k + 1)) ?_ (nm_r (nI_1 k) ih')⟩) (fun z => ⟨vk, vck, nm_r (e' := so_rp A t c (k + 1)) ?_ (nm_r (nI_1 k) ih')⟩)
      · rw [if_pos z] at hs
        rw [e1, nI_clamp (n := c + k) (by omega), ck, so_rp_l A t (by omega), hs]
      · rw [if_neg z] at hs
        rw [e1, nI_clamp (n := c + k) (by omega), ck, so_rp_l A t (by omega), hs]
end
theorem i_vc_repeat {k : Nat} {u : SX} {v : SY} (I : i_Rel k u v) (hk : k + 4 ≤ 2048) (v1 : Int32) (v2 : Int32) : wpX_repeat (fun r u' => wpY_repeat (fun r' v' => r' = r ∧ i_Rel (k + 4) u' v') v v1 (lw_bz v2)) u v1 (lw_bz v2) := by
  obtain ⟨c, A, F, G, sp, rl, rh, st, ec, lc, pe, se, le, cp, rfl, rfl, hc, hR⟩ := I
  by_cases a1 : v1 < 0
  · exact br_t a1 (br_t a1 ⟨rfl, i_mk hc hR⟩)
  obtain ⟨m, hm, rfl⟩ := nI_of a1
  by_cases a2 : m ≤ c
  · have b2 : nI m ≤ nI c := nI_le a2 (by omega)
    have e40 : (40 : Int32) - nI c = nI (40 - c) := pk_sub (a := 40) hc
    have h0X := so_rp_0 A (lw_bz v2) c
    refine br_f a1 (br_t b2 (pk_le m (40 - c) (fun e => ⟨m + 1, ?_⟩) (fun e => ?_) rfl e40))
    · have hx := xrp33 (A := A) (F := F) (G := G) (sp := sp) (rl := rl) (rh := rh) (st := st) (ec := ec) (lc := lc) (pe := pe) (se := se) (le := le) (c := c) (t := lw_bz v2) (m := m)
        (post := fun r u' => wpY_repeat (fun r' v' => r' = r ∧ i_Rel (k + 4) u' v') (nI c, A, cp) (nI m) (lw_bz v2)) (by omega) a2 ?_ (m + 1) 0 (by omega) (by omega)
      · rw [h0X] at hx; exact hx
      · refine br_f a1 (br_t b2 (pk_le (c + m) 40 (fun e' => ⟨m + 1, ?_⟩) (fun e' => by omega) (nI_add c m)))
        have hy := yrp33 (A := A) (cp := cp) (c := c) (t := lw_bz v2) (m := m)
          (post := fun r' v' => r' = nI (c + m) ∧ i_Rel (k + 4) (nI (c + m), so_rp A (lw_bz v2) c m, F, G, sp, rl, rh, st, ec, lc, pe, se, le) v') (by omega) a2 ⟨rfl, i_mk (by omega) (so_rp_R hR a2)⟩ (m + 1) 0 (by omega) (by omega)
        rw [h0X] at hy; exact hy
    · exact br_f a1 (br_t b2 (pk_le (c + m) 40 (fun e' => by omega) (fun _ => ⟨rfl, i_mk hc hR⟩) (nI_add c m)))
  · have b2 : ¬ nI m ≤ nI c := nI_ge (by omega) hm
    exact br_f a1 (br_f b2 (br_f a1 (br_f b2 ⟨rfl, i_mk hc hR⟩)))
end
section
/-- the places i .. j turned around -/
def so_tu (A : Nat → Int32) (i j : Nat) : Nat → Int32 := fun m => if i ≤ m ∧ m ≤ j then A (i + j - m) else A m
def so_tk (A : Nat → Int32) (i j k : Nat) : Nat → Int32 := fun m => if (i ≤ m ∧ m < i + k) ∨ (j < m + k ∧ m ≤ j) then A (i + j - m) else A m
theorem so_tk_0 (A : Nat → Int32) (i j : Nat) : so_tk A i j 0 = A := funext fun m => if_neg (by omega)
theorem so_tk_s (A : Nat → Int32) {i j k : Nat} (h : i + 2 * k + 1 ≤ j) : so_w (so_tk A i j k) (i + k) (j - k) = so_tk A i j (k + 1) := by
  have e1 : so_tk A i j k (i + k) = A (i + k) := if_neg (by omega)
  have e2 : so_tk A i j k (j - k) = A (j - k) := if_neg (by omega)
  funext m
  by_cases a : m = i + k
  · have e3 : i + j - m = j - k := by omega
    have e4 : so_tk A i j (k + 1) m = A (i + j - m) := if_pos (by omega)
    rw [e4, e3, a, so_wi, e2]
  · by_cases b : m = j - k
    · have e3 : i + j - m = i + k := by omega
      have e4 : so_tk A i j (k + 1) m = A (i + j - m) := if_pos (by omega)
      rw [e4, e3, b, so_wj, e1]
    · rw [so_wn _ a b]
      unfold so_tk
      by_cases d : (i ≤ m ∧ m < i + k) ∨ (j < m + k ∧ m ≤ j)
      · rw [if_pos d, if_pos (by omega)]
      · rw [if_neg d, if_neg (by omega)]
theorem so_tk_e (A : Nat → Int32) {i j : Nat} (h : i ≤ j) : so_tk A i j ((j - i + 1) / 2) = so_tu A i j := by
  funext m
  unfold so_tk so_tu
  by_cases d : (i ≤ m ∧ m < i + (j - i + 1) / 2) ∨ (j < m + (j - i + 1) / 2 ∧ m ≤ j)
  · rw [if_pos d, if_pos (by omega)]
  · rw [if_neg d]
    by_cases e : i ≤ m ∧ m ≤ j
    · rw [if_pos e]
      have : i + j - m = m := by omega
      rw [this]
    · rw [if_neg e]
theorem so_tu_R {A : Nat → Int32} {i j c : Nat} (hR : so_R A c) (hj : j < c) : so_R (so_tu A i j) c := by
  intro m hm
  unfold so_tu
  by_cases e : i ≤ m ∧ m ≤ j
  · rw [if_pos e]; exact hR _ (by omega)
  · rw [if_neg e]; exact hR m hm
section
variable {A F G sp rl rh st ec lc pe se le cp : Nat → Int32} {fc : Int32} {c : Nat}
theorem xtu34 {post : Int32 → SX → Prop} {i j : Nat} (hij : i ≤ j) (hj : j < 40) (K : post 1 (fc, so_tu A i j, F, G, sp, rl, rh, st, ec, lc, pe, se, le)) :
    ∀ n k : Nat, (j - i + 1) / 2 < n + k → k ≤ (j - i + 1) / 2 → wX_turn_34 post (nI i) (nI j) (nI ((j - i + 1) / 2)) n (nI k) fc (so_tk A i j k) F G sp rl rh st ec lc pe se le := by
  intro n
  induction n with
  | zero => intro k h1 h2; omega
  | succ n ih =>
    intro k h1 h2
    rw [wX_turn_34]
    refine pk_le ((j - i + 1) / 2) k (fun e => ?_) (fun e => ?_)
    · have : k = (j - i + 1) / 2 := by omega
      rw [this, so_tk_e A hij]; exact K
    · rw [nI_add, pk_sub (a := j) (b := k) (by omega)]
      refine xswn (by omega) (by omega) ?_
      rw [so_tk_s A (by omega)]
      exact nm_r (nI_1 k) (ih (k + 1) (by omega) (by omega))
theorem ytu54 {post : Int32 → SY → Prop} {i j : Nat} (hj : j < 40) (K : post 1 (fc, so_cp A cp i (j + 1), cp)) :
    ∀ n k : Nat, j + 1 < n + k → i ≤ k → k ≤ j + 1 → wY_turn_54 post (nI j) fc n (nI k) (so_cp A cp i k) cp := by
  intro n
  induction n with
  | zero => intro k h1 h2; omega
  | succ n ih =>
    intro k h1 h2 h3
    rw [wY_turn_54]
    have ck : (nI k).toNatClampNeg = k := nI_clamp (by omega)
    refine pk_lt j k (fun e => ?_) (fun e => ⟨vp_in_nI (by omega) (by omega), vp_in_nI (by omega) (by omega), nm_r (e' := so_cp A cp i (k + 1)) (by rw [ck, so_cp_s A cp h2]) (nm_r (nI_1 k) (ih (k + 1) (by omega) (by omega) (by omega)))⟩)
    have : k = j + 1 := by omega
    rw [this]; exact K
theorem ytu25 {post : Int32 → SY → Prop} {i j : Nat} (hij : i ≤ j) (hj : j < 40) (K : ∀ cp', post 1 (fc, so_tu A i j, cp')) :
    ∀ (n k : Nat) (cp : Nat → Int32), j + 1 < n + k → i ≤ k → k ≤ j + 1 → (∀ m, i ≤ m → m < k → cp m = A (i + j - m)) → wY_turn_25 post (nI i) (nI j) fc n (nI k) A cp := by
  intro n
  induction n with
  | zero => intro k cp h1 h2 h3; omega
  | succ n ih =>
    intro k cp h1 h2 h3 hq
    rw [wY_turn_25]
    have ck : (nI k).toNatClampNeg = k := nI_clamp (by omega)
    refine pk_lt j k (fun e => ⟨j + 2, ?_⟩) (fun e => ?_)
    · have hfin : so_cp A cp i (j + 1) = so_tu A i j := by
        funext m
        unfold so_tu
        by_cases z : i ≤ m ∧ m ≤ j
        · rw [if_pos z, so_cp_i A cp z.1 (by omega)]; exact hq m z.1 (by omega)
        · rw [if_neg z, so_cp_o A cp (by omega)]
      have hy := ytu54 (A := A) (cp := cp) (fc := fc) (post := post) (i := i) hj (by rw [hfin]; exact K cp) (j + 2) i (by omega) (by omega) (by omega)
      rw [so_cp_0] at hy; exact hy
    · have e1 : nI i + nI j - nI k = nI (i + j - k) := by rw [nI_add, pk_sub (by omega)]
      refine ⟨by rw [e1]; exact vp_in_nI (by omega) (by omega), vp_in_nI (by omega) (by omega), nm_r (e' := upd cp k (A (i + j - k))) (by rw [e1, nI_clamp (n := i + j - k) (by omega), ck]) (nm_r (nI_1 k) (ih (k + 1) _ (by omega) (by omega) (by omega) (fun m a b => ?_)))⟩
      by_cases q : m = k
      · rw [q, so_uS]
      · rw [so_uN q]; exact hq m a (by omega)
end
theorem i_vc_turn {k : Nat} {u : SX} {v : SY} (I : i_Rel k u v) (hk : k + 4 ≤ 2048) (v1 : Int32) (v2 : Int32) : wpX_turn (fun r u' => wpY_turn (fun r' v' => r' = r ∧ i_Rel (k + 4) u' v') v v1 v2) u v1 v2 := by
  obtain ⟨c, A, F, G, sp, rl, rh, st, ec, lc, pe, se, le, cp, rfl, rfl, hc, hR⟩ := I
  unfold wpX_turn wpY_turn
  dsimp only
  refine xpl hc (fun i hi ei => br_f xe_n10 (xpl hc (fun j hj ej => br_f xe_n10 ?_) (fun h => br_t rfl ?_))) (fun h => br_t rfl ?_)
  · subst ei ej
    refine pk_le i j (fun e => ⟨xe_n20, nm_r (e' := nI ((j - i + 1) / 2)) ?_ ⟨j + 2, ?_⟩⟩) (fun e => ?_)
    · rw [pk_sub e, nI_1]
      exact pk_div (d := 2) (by omega) (by omega) (by omega)
    · have hx := xtu34 (A := A) (F := F) (G := G) (sp := sp) (rl := rl) (rh := rh) (st := st) (ec := ec) (lc := lc) (pe := pe) (se := se) (le := le) (fc := nI c) (i := i) (j := j)
        (post := fun r u' => wpY_is (fun r_1 => (((r_1 = 0 → ((0 : Int32) = r ∧ i_Rel (k + 4) u' (nI c, A, cp))) ∧ (¬ r_1 = 0 → (wpY_is (fun r_6 => (((r_6 = 0 → ((0 : Int32) = r ∧ i_Rel (k + 4) u' (nI c, A, cp))) ∧ (¬ r_6 = 0 → (((nI i ≤ nI j → (∃ n25 : Nat, wY_turn_25 (fun r' v' => r' = r ∧ i_Rel (k + 4) u' v') (nI i) (nI j) (nI c) n25 (nI i) A cp)) ∧ (¬ nI i ≤ nI j → ((0 : Int32) = r ∧ i_Rel (k + 4) u' (nI c, A, cp))))))))) (nI c, A, cp) (nI j)))))) (nI c, A, cp) (nI i)) e (by omega) ?_ (j + 2) 0 (by omega) (by omega)
      · rw [so_tk_0] at hx; exact hx
      · exact ypl hc (fun _ _ _ => br_f xe_n10 (ypl hc (fun _ _ _ => br_f xe_n10 (br_t (nI_le e (by omega)) ⟨j + 2, ytu25 e (by omega) (fun cp' => ⟨rfl, i_mk hc (so_tu_R hR hj)⟩) (j + 2) i cp (by omega) (by omega) (by omega) (fun m a b => by omega)⟩)) (fun h => (h j hj rfl).elim))) (fun h => (h i hi rfl).elim)
    · exact ypl hc (fun _ _ _ => br_f xe_n10 (ypl hc (fun _ _ _ => br_f xe_n10 (br_f (nI_ge e (by omega)) ⟨rfl, i_mk hc hR⟩)) (fun h => (h j hj rfl).elim))) (fun h => (h i hi rfl).elim)
  · exact ypl hc (fun _ _ _ => br_f xe_n10 (ypl hc (fun j hj e => (h j hj e).elim) (fun _ => br_t rfl ⟨rfl, i_mk hc hR⟩))) (fun h => (h i hi ei).elim)
  · exact ypl hc (fun j hj e => (h j hj e).elim) (fun _ => br_t rfl ⟨rfl, i_mk hc hR⟩)
/-- the place i taken out, as far as k -/
def so_rm (A : Nat → Int32) (i k : Nat) : Nat → Int32 := fun m => if i ≤ m ∧ m + 1 < k then A (m + 1) else A m
theorem so_rm_0 (A : Nat → Int32) (i : Nat) : so_rm A i (i + 1) = A := funext fun m => if_neg (by omega)
theorem so_rm_s (A : Nat → Int32) {i k : Nat} (h : i ≤ k) : upd (so_rm A i (k + 1)) k (A (k + 1)) = so_rm A i (k + 2) := by
  funext m
  show (if m = k then A (k + 1) else so_rm A i (k + 1) m) = so_rm A i (k + 2) m
  unfold so_rm
  by_cases a : m = k
  · rw [if_pos a, if_pos (show i ≤ m ∧ m + 1 < k + 2 by omega), a]
  · rw [if_neg a]
    by_cases b : i ≤ m ∧ m + 1 < k + 1
    · rw [if_pos b, if_pos (show i ≤ m ∧ m + 1 < k + 2 by omega)]
    · rw [if_neg b, if_neg (show ¬ (i ≤ m ∧ m + 1 < k + 2) by omega)]
theorem so_rm_n (A : Nat → Int32) (i k : Nat) : so_rm A i (k + 1) (k + 1) = A (k + 1) := if_neg (by omega)
theorem so_rm_R {A : Nat → Int32} {i c : Nat} (hR : so_R A (c + 1)) : so_R (so_rm A i (c + 1)) c := by
  intro m hm
  unfold so_rm
  by_cases b : i ≤ m ∧ m + 1 < c + 1
  · rw [if_pos b]; exact hR _ (by omega)
  · rw [if_neg b]; exact hR m (by omega)
section
variable {A F G sp rl rh st ec lc pe se le cp : Nat → Int32} {fc : Int32} {c : Nat}
theorem xrm23 {post : Int32 → SX → Prop} {x : Int32} {i : Nat} (hc : c + 1 ≤ 40) (K : post x (nI c, so_rm A i (c + 1), F, G, sp, rl, rh, st, ec, lc, pe, se, le)) :
    ∀ n k : Nat, c < n + k → i ≤ k → k ≤ c → wX_remove_23 post x (nI (c + 1)) n (nI (k + 1)) (so_rm A i (k + 1)) F G sp rl rh st ec lc pe se le := by
  intro n
  induction n with
  | zero => intro k h1 h2; omega
  | succ n ih =>
    intro k h1 h2 h3
    rw [wX_remove_23]
    have ck : (nI (k + 1)).toNatClampNeg = k + 1 := nI_clamp (by omega)
    have e1 : nI (k + 1) - 1 = nI k := nI_pred k
    refine pk_le (c + 1) (k + 1) (fun e => nm_r (nI_pred c) ?_) (fun e => ⟨vp_in_nI (by omega) (by omega), by rw [e1]; exact vp_in_nI (by omega) (by omega), nm_r (e' := so_rm A i (k + 2)) (by rw [e1, nI_clamp (n := k) (by omega), ck, so_rm_n, so_rm_s A h2]) (nm_r (nI_1 (k + 1)) (ih (k + 1) (by omega) (by omega) (by omega)))⟩)
    have : k = c := by omega
    rw [this]; exact K
theorem yrm31 {post : Int32 → SY → Prop} {x : Int32} {i : Nat} (hc : c + 1 ≤ 40) (K : post x (nI c, so_rm A i (c + 1), cp)) :
    ∀ n k : Nat, c < n + k → i ≤ k → k ≤ c → wY_remove_31 post x (nI c) n (nI k) (so_rm A i (k + 1)) cp := by
  intro n
  induction n with
  | zero => intro k h1 h2; omega
  | succ n ih =>
    intro k h1 h2 h3
    rw [wY_remove_31]
    have ck : (nI k).toNatClampNeg = k := nI_clamp (by omega)
    have e1 : nI k + 1 = nI (k + 1) := nI_1 k
    refine pk_le c k (fun e => ?_) (fun e => ⟨by rw [e1]; exact vp_in_nI (by omega) (by omega), vp_in_nI (by omega) (by omega), nm_r (e' := so_rm A i (k + 2)) (by rw [e1, nI_clamp (n := k + 1) (by omega), ck, so_rm_n, so_rm_s A h2]) (nm_r e1 (ih (k + 1) (by omega) (by omega) (by omega)))⟩)
    have : k = c := by omega
    rw [this]; exact K
end
theorem i_vc_remove {k : Nat} {u : SX} {v : SY} (I : i_Rel k u v) (hk : k + 4 ≤ 2048) (v1 : Int32) : wpX_remove (fun r u' => wpY_remove (fun r' v' => r' = r ∧ i_Rel (k + 4) u' v') v v1) u v1 := by
  obtain ⟨c, A, F, G, sp, rl, rh, st, ec, lc, pe, se, le, cp, rfl, rfl, hc, hR⟩ := I
  unfold wpX_remove
  dsimp only
  refine xpl hc (fun i hi ei => br_f xe_n10 ?_) (fun h => br_t rfl ?_)
  · subst ei
    obtain ⟨c, rfl⟩ : ∃ d, c = d + 1 := ⟨c - 1, by omega⟩
    have ci : (nI i).toNatClampNeg = i := nI_clamp (by omega)
    have vi : vp_in (nI i) 40 := vp_in_nI (by omega) (by omega)
    refine ⟨vi, nm_r (e' := A i) (by rw [ci]) (nm_r (nI_1 i) ⟨c + 1, ?_⟩)⟩
    have hx := xrm23 (A := A) (F := F) (G := G) (sp := sp) (rl := rl) (rh := rh) (st := st) (ec := ec) (lc := lc) (pe := pe) (se := se) (le := le) (c := c) (i := i) (x := A i)
      (post := fun r u' => wpY_remove (fun r' v' => r' = r ∧ i_Rel (k + 4) u' v') (nI (c + 1), A, cp) (nI i)) hc ?_ (c + 1) i (by omega) (by omega) (by omega)
    · rw [so_rm_0] at hx; exact hx
    · unfold wpY_remove
      dsimp only
      refine ypl hc (fun _ _ _ => br_f xe_n10 ⟨vi, nm_r (e' := A i) (by rw [ci]) (nm_r (nI_pred c) ⟨c + 1, ?_⟩)⟩) (fun h => (h i hi rfl).elim)
      have hy := yrm31 (A := A) (cp := cp) (c := c) (i := i) (x := A i)
        (post := fun r' v' => r' = A i ∧ i_Rel (k + 4) (nI c, so_rm A i (c + 1), F, G, sp, rl, rh, st, ec, lc, pe, se, le) v') hc ⟨rfl, i_mk (by omega) (so_rm_R hR)⟩ (c + 1) i (by omega) (by omega) (by omega)
      rw [so_rm_0] at hy; exact hy
  · unfold wpY_remove
    dsimp only
    exact ypl hc (fun j hj e => (h j hj e).elim) (fun _ => br_t rfl ⟨rfl, i_mk hc hR⟩)
end
section
section
variable {A F G sp rl rh st ec lc pe se le cp : Nat → Int32} {fc : Int32} {c : Nat}
theorem xfi4 {post : Int32 → Prop} {v : Int32} (hc : c ≤ 40) (K : post (nI (so_c (fun m => decide (¬ v ≤ A m)) c))) : ∀ n k r : Nat, c < n + k → k ≤ c → r = so_c (fun m => decide (¬ v ≤ A m)) k →
    wX_find_4 post v (nI c) A F G sp rl rh st ec lc pe se le n (nI r) (nI k) := by
  intro n
  induction n with
  | zero => intro k r h1 h2; omega
  | succ n ih =>
    intro k r h1 h2 hr
    rw [wX_find_4]
    have ck : (nI k).toNatClampNeg = k := nI_clamp (by omega)
    refine pk_le c k (fun e => ?_) (fun e => ⟨vp_in_nI (by omega) (by omega), br_c (fun z => nm_r (nI_1 k) (ih (k + 1) r (by omega) (by omega) ?_)) (fun z => nm_r (nI_1 r) (nm_r (nI_1 k) (ih (k + 1) (r + 1) (by omega) (by omega) ?_)))⟩)
    · have : k = c := by omega
      rw [hr, this]; exact K
    · rw [ck] at z
      rw [so_cs, decide_eq_false (fun y => y z), so_f0, hr]; rfl
    · rw [ck] at z
      rw [so_cs, decide_eq_true z, so_t1, hr]
theorem yfi4 {post : Int32 → Prop} {v : Int32} (hc : c ≤ 40) (K : post (nI (so_c (fun m => decide (¬ v ≤ A m)) c))) : ∀ n k r : Nat, c < n + k → k ≤ c → r = so_c (fun m => decide (¬ v ≤ A m)) k →
    wY_find_4 post v (nI c) A cp n (nI r) (nI k) := by
  intro n
  induction n with
  | zero => intro k r h1 h2; omega
  | succ n ih =>
    intro k r h1 h2 hr
    rw [wY_find_4]
    have ck : (nI k).toNatClampNeg = k := nI_clamp (by omega)
    refine pk_le c k (fun e => ?_) (fun e => ⟨vp_in_nI (by omega) (by omega), br_c (fun z => nm_r (nI_1 k) (ih (k + 1) r (by omega) (by omega) ?_)) (fun z => nm_r (nI_1 r) (nm_r (nI_1 k) (ih (k + 1) (r + 1) (by omega) (by omega) ?_)))⟩)
    · have : k = c := by omega
      rw [hr, this]; exact K
    · rw [ck] at z
      rw [so_cs, decide_eq_false (fun y => y z), so_f0, hr]; rfl
    · rw [ck] at z
      rw [so_cs, decide_eq_true z, so_t1, hr]
end
theorem i_vc_find {k : Nat} {u : SX} {v : SY} (I : i_Rel k u v) (hk : k + 4 ≤ 2048) (v1 : Int32) : wpX_find (fun r => wpY_find (fun r' => r' = r ∧ i_Rel (k + 4) u v) v v1) u v1 := by
  obtain ⟨c, A, F, G, sp, rl, rh, st, ec, lc, pe, se, le, cp, rfl, rfl, hc, hR⟩ := I
  exact ⟨c + 1, xfi4 hc ⟨c + 1, yfi4 hc ⟨rfl, i_mk hc hR⟩ (c + 1) 0 0 (by omega) (by omega) rfl⟩ (c + 1) 0 0 (by omega) (by omega) rfl⟩
/-- the pairs of i with j, j + 1 .. (d of them) -/
def so_v1 (A : Nat → Int32) (i : Nat) : Nat → Nat → Nat
  | 0, _ => 0
  | d + 1, j => (if A i ≤ A j then 0 else 1) + so_v1 A i d (j + 1)
def so_v2 (A : Nat → Int32) (c : Nat) : Nat → Nat → Nat
  | 0, _ => 0
  | d + 1, i => so_v1 A i (c - (i + 1)) (i + 1) + so_v2 A c d (i + 1)
section
variable {A F G sp rl rh st ec lc pe se le cp : Nat → Int32} {fc : Int32} {c : Nat}
theorem xiv16 {post : Int32 → Prop} {J : Int32 → Int32 → Prop} {i : Nat} (hc : c ≤ 40) (hi : i < c) : ∀ d j r : Nat, j + d = c → J (nI (r + so_v1 A i d j)) (nI (i + 1)) →
    wX_inversions_16 post J (nI i) (nI c) A F G sp rl rh st ec lc pe se le (d + 1) (nI r) (nI j) := by
  intro d
  induction d with
  | zero =>
    intro j r h1 K
    rw [wX_inversions_16]
    exact br_t (nI_le (by omega) (by omega)) (nm_r (nI_1 i) K)
  | succ d ih =>
    intro j r h1 K
    rw [wX_inversions_16]
    have cj : (nI j).toNatClampNeg = j := nI_clamp (by omega)
    have ci : (nI i).toNatClampNeg = i := nI_clamp (by omega)
    refine br_f (nI_ge (by omega) (by omega)) ⟨vp_in_nI (by omega) (by omega), vp_in_nI (by omega) (by omega), ?_⟩
    rw [ci, cj]
    have e : r + so_v1 A i (d + 1) j = r + ((if A i ≤ A j then 0 else 1) + so_v1 A i d (j + 1)) := rfl
    rw [e] at K
    refine br_c (fun z => nm_r (nI_1 j) (ih (j + 1) r (by omega) ?_)) (fun z => nm_r (nI_1 r) (nm_r (nI_1 j) (ih (j + 1) (r + 1) (by omega) ?_)))
    · rw [if_pos z, Nat.zero_add] at K; exact K
    · rw [if_neg z, ← Nat.add_assoc] at K; exact K
theorem yiv16 {post : Int32 → Prop} {J : Int32 → Int32 → Prop} {i : Nat} (hc : c ≤ 40) (hi : i < c) : ∀ d j r : Nat, j + d = c → J (nI (r + so_v1 A i d j)) (nI (i + 1)) →
    wY_inversions_16 post J (nI i) (nI c) A cp (d + 1) (nI r) (nI j) := by
  intro d
  induction d with
  | zero =>
    intro j r h1 K
    rw [wY_inversions_16]
    exact br_t (nI_le (by omega) (by omega)) (nm_r (nI_1 i) K)
  | succ d ih =>
    intro j r h1 K
    rw [wY_inversions_16]
    have cj : (nI j).toNatClampNeg = j := nI_clamp (by omega)
    have ci : (nI i).toNatClampNeg = i := nI_clamp (by omega)
    refine br_f (nI_ge (by omega) (by omega)) ⟨vp_in_nI (by omega) (by omega), vp_in_nI (by omega) (by omega), ?_⟩
    rw [ci, cj]
    have e : r + so_v1 A i (d + 1) j = r + ((if A i ≤ A j then 0 else 1) + so_v1 A i d (j + 1)) := rfl
    rw [e] at K
    refine br_c (fun z => nm_r (nI_1 j) (ih (j + 1) r (by omega) ?_)) (fun z => nm_r (nI_1 r) (nm_r (nI_1 j) (ih (j + 1) (r + 1) (by omega) ?_)))
    · rw [if_pos z, Nat.zero_add] at K; exact K
    · rw [if_neg z, ← Nat.add_assoc] at K; exact K
theorem xiv4 {post : Int32 → Prop} (hc : c ≤ 40) : ∀ d i r : Nat, i + d = c → post (nI (r + so_v2 A c d i)) →
    wX_inversions_4 post (nI c) A F G sp rl rh st ec lc pe se le (d + 1) (nI r) (nI i) := by
  intro d
  induction d with
  | zero =>
    intro i r h1 K
    rw [wX_inversions_4]
    exact br_t (nI_le (by omega) (by omega)) K
  | succ d ih =>
    intro i r h1 K
    rw [wX_inversions_4]
    have e : r + so_v2 A c (d + 1) i = r + (so_v1 A i (c - (i + 1)) (i + 1) + so_v2 A c d (i + 1)) := rfl
    rw [e, ← Nat.add_assoc] at K
    exact br_f (nI_ge (by omega) (by omega)) (nm_r (nI_1 i) ⟨c - (i + 1) + 1, xiv16 hc (by omega) (c - (i + 1)) (i + 1) r (by omega) (ih (i + 1) _ (by omega) K)⟩)
theorem yiv4 {post : Int32 → Prop} (hc : c ≤ 40) : ∀ d i r : Nat, i + d = c → post (nI (r + so_v2 A c d i)) →
    wY_inversions_4 post (nI c) A cp (d + 1) (nI r) (nI i) := by
  intro d
  induction d with
  | zero =>
    intro i r h1 K
    rw [wY_inversions_4]
    exact br_t (nI_le (by omega) (by omega)) K
  | succ d ih =>
    intro i r h1 K
    rw [wY_inversions_4]
    have e : r + so_v2 A c (d + 1) i = r + (so_v1 A i (c - (i + 1)) (i + 1) + so_v2 A c d (i + 1)) := rfl
    rw [e, ← Nat.add_assoc] at K
    exact br_f (nI_ge (by omega) (by omega)) (nm_r (nI_1 i) ⟨c - (i + 1) + 1, yiv16 hc (by omega) (c - (i + 1)) (i + 1) r (by omega) (ih (i + 1) _ (by omega) K)⟩)
end
theorem i_vc_inversions {k : Nat} {u : SX} {v : SY} (I : i_Rel k u v) (hk : k + 4 ≤ 2048) : wpX_inversions (fun r => wpY_inversions (fun r' => r' = r ∧ i_Rel (k + 4) u v) v) u := by
  obtain ⟨c, A, F, G, sp, rl, rh, st, ec, lc, pe, se, le, cp, rfl, rfl, hc, hR⟩ := I
  exact ⟨c + 1, xiv4 hc c 0 0 (by omega) ⟨c + 1, yiv4 hc c 0 0 (by omega) ⟨rfl, i_mk hc hR⟩⟩⟩
/-- growing: the length that ends at i, when the first j have been looked at -/
def so_g1 (A : Nat → Int32) (g : Nat → Nat) (i : Nat) : Nat → Nat
  | 0 => 1
  | j + 1 => if A i ≤ A j then so_g1 A g i j else if g j < so_g1 A g i j then so_g1 A g i j else g j + 1
def so_gt (A : Nat → Int32) : Nat → Nat → Nat
  | 0 => fun _ => 0
  | i + 1 => so_pu (so_gt A i) i (so_g1 A (so_gt A i) i i)
def so_gm (A : Nat → Int32) : Nat → Nat
  | 0 => 0
  | i + 1 => if so_g1 A (so_gt A i) i i ≤ so_gm A i then so_gm A i else so_g1 A (so_gt A i) i i
theorem so_g1_b {A : Nat → Int32} {g : Nat → Nat} {i : Nat} (hg : ∀ m, g m ≤ m + 1) : ∀ j, so_g1 A g i j ≤ j + 1 := by
  intro j
  induction j with
  | zero => exact Nat.le_refl _
  | succ j ih =>
    show (if A i ≤ A j then so_g1 A g i j else if g j < so_g1 A g i j then so_g1 A g i j else g j + 1) ≤ j + 1 + 1
    have := hg j
    split
    · omega
    · split <;> omega
theorem so_gt_b (A : Nat → Int32) : ∀ i m, so_gt A i m ≤ m + 1 := by
  intro i
  induction i with
  | zero => intro m; exact Nat.zero_le _
  | succ i ih =>
    intro m
    show so_pu (so_gt A i) i (so_g1 A (so_gt A i) i i) m ≤ m + 1
    by_cases q : m = i
    · rw [q, so_pu_r]; exact so_g1_b ih i
    · rw [so_pu_n _ _ q]; exact ih m
theorem so_gm_b (A : Nat → Int32) : ∀ i, so_gm A i ≤ i := by
  intro i
  induction i with
  | zero => exact Nat.le_refl _
  | succ i ih =>
    show (if so_g1 A (so_gt A i) i i ≤ so_gm A i then so_gm A i else so_g1 A (so_gt A i) i i) ≤ i + 1
    have := so_g1_b (A := A) (i := i) (so_gt_b A i) i
    split <;> omega
section
variable {A F G sp rl rh st ec lc pe se le cp : Nat → Int32} {fc : Int32} {c : Nat}
theorem xgr21 {post : Int32 → SX → Prop} {J : Int32 → Int32 → (Nat → Int32) → (Nat → Int32) → (Nat → Int32) → (Nat → Int32) → (Nat → Int32) → (Nat → Int32) → (Nat → Int32) → (Nat → Int32) → (Nat → Int32) → (Nat → Int32) → (Nat → Int32) → (Nat → Int32) → Prop} {i : Nat}
    (hi : i < 40) (K : ∀ le', (∀ j, j < i + 1 → le' j = nI (so_gt A (i + 1) j)) → J (nI (so_gm A (i + 1))) (nI (i + 1)) A F G sp rl rh st ec lc pe se le') :
    ∀ (n j : Nat) (le : Nat → Int32), i < n + j → j ≤ i → (∀ m, m < i → le m = nI (so_gt A i m)) → le i = nI (so_g1 A (so_gt A i) i j) →
    wX_growing_21 post J (nI (so_gm A i)) (nI i) (nI c) n (nI j) A F G sp rl rh st ec lc pe se le := by
  intro n
  induction n with
  | zero => intro j le h1 h2; omega
  | succ n ih =>
    intro j le h1 h2 h3 h4
    rw [wX_growing_21]
    have cj : (nI j).toNatClampNeg = j := nI_clamp (by omega)
    have ci : (nI i).toNatClampNeg = i := nI_clamp (by omega)
    have vi : vp_in (nI i) 40 := vp_in_nI hi (by omega)
    have b1 := so_g1_b (A := A) (i := i) (so_gt_b A i) j
    have b2 := so_gm_b A i
    refine pk_le i j (fun e => ⟨vi, ?_⟩) (fun e => ⟨vp_in_nI (by omega) (by omega), vi, ?_⟩)
    · have ej : j = i := by omega
      rw [ej] at h4
      rw [ci, h4]
      have hle : ∀ m, m < i + 1 → le m = nI (so_gt A (i + 1) m) := fun m hm => by
        show le m = nI (so_pu (so_gt A i) i (so_g1 A (so_gt A i) i i) m)
        by_cases q : m = i
        · rw [q, so_pu_r, h4]
        · rw [so_pu_n _ _ q]; exact h3 m (by omega)
      have b3 := so_g1_b (A := A) (i := i) (so_gt_b A i) i
      have hm : so_gm A (i + 1) = if so_g1 A (so_gt A i) i i ≤ so_gm A i then so_gm A i else so_g1 A (so_gt A i) i i := rfl
      refine pk_le (so_g1 A (so_gt A i) i i) (so_gm A i) (fun z => nm_r (nI_1 i) ?_) (fun z => ⟨vi, nm_e (nm_r (nI_1 i) ?_)⟩)
      · have := K le hle
        rw [hm, if_pos z] at this; exact this
      · have := K le hle
        rw [hm, if_neg (by omega)] at this; exact this
    · rw [ci, cj]
      have hs : so_g1 A (so_gt A i) i (j + 1) = if A i ≤ A j then so_g1 A (so_gt A i) i j else if so_gt A i j < so_g1 A (so_gt A i) i j then so_g1 A (so_gt A i) i j else so_gt A i j + 1 := rfl
      have b4 := so_gt_b A i j
      refine br_c (fun z => nm_r (nI_1 j) (ih (j + 1) le (by omega) (by omega) h3 ?_)) (fun z => ⟨vp_in_nI (by omega) (by omega), vi, ?_⟩)
      · rw [hs, if_pos z]; exact h4
      · rw [h3 j e, h4]
        refine pk_lt (so_gt A i j) (so_g1 A (so_gt A i) i j) (fun y => nm_r (nI_1 j) (ih (j + 1) le (by omega) (by omega) h3 ?_)) (fun y => ⟨vp_in_nI (by omega) (by omega), vi, nm_r (e' := upd le i (nI (so_gt A i j + 1))) (by rw [nI_1]) (nm_r (nI_1 j) (ih (j + 1) _ (by omega) (by omega) (fun m hm => ?_) ?_))⟩)
        · rw [hs, if_neg z, if_pos y]; exact h4
        · rw [so_uN (by omega)]; exact h3 m hm
        · rw [so_uS, hs, if_neg z, if_neg (by omega)]
theorem xgr4 {post : Int32 → SX → Prop} (hc : c ≤ 40) (K : ∀ le', post (nI (so_gm A c)) (nI c, A, F, G, sp, rl, rh, st, ec, lc, pe, se, le')) :
    ∀ (n i : Nat) (le : Nat → Int32), c < n + i → i ≤ c → (∀ m, m < i → le m = nI (so_gt A i m)) → wX_growing_4 post (nI c) n (nI (so_gm A i)) (nI i) A F G sp rl rh st ec lc pe se le := by
  intro n
  induction n with
  | zero => intro i le h1 h2; omega
  | succ n ih =>
    intro i le h1 h2 h3
    rw [wX_growing_4]
    have ci : (nI i).toNatClampNeg = i := nI_clamp (by omega)
    refine pk_le c i (fun e => ?_) (fun e => ⟨vp_in_nI (by omega) (by omega), nm_r (e' := upd le i 1) (by rw [ci]) ⟨i + 1, xgr21 (by omega) (fun le' q => ih (i + 1) le' (by omega) (by omega) q) (i + 1) 0 (upd le i 1) (by omega) (by omega) (fun m hm => ?_) ?_⟩⟩)
    · have : i = c := by omega
      rw [this]; exact K le
    · rw [so_uN (by omega)]; exact h3 m hm
    · rw [so_uS]; rfl
theorem ygr17 {post : Int32 → SY → Prop} {J : Int32 → Int32 → (Nat → Int32) → (Nat → Int32) → Prop} {i : Nat}
    (hi : i < 40) (h3 : ∀ m, m < i → cp m = nI (so_gt A i m)) (K : ∀ cp', (∀ j, j < i + 1 → cp' j = nI (so_gt A (i + 1) j)) → J (nI (so_gm A (i + 1))) (nI (i + 1)) A cp') :
    ∀ (n j : Nat), i < n + j → j ≤ i → wY_growing_17 post J (nI (so_gm A i)) (nI i) (nI c) A cp n (nI (so_g1 A (so_gt A i) i j)) (nI j) := by
  intro n
  induction n with
  | zero => intro j h1 h2; omega
  | succ n ih =>
    intro j h1 h2
    rw [wY_growing_17]
    have cj : (nI j).toNatClampNeg = j := nI_clamp (by omega)
    have ci : (nI i).toNatClampNeg = i := nI_clamp (by omega)
    have vi : vp_in (nI i) 40 := vp_in_nI hi (by omega)
    have b1 := so_g1_b (A := A) (i := i) (so_gt_b A i) j
    have b2 := so_gm_b A i
    refine pk_le i j (fun e => ⟨vi, nm_r (e' := upd cp i (nI (so_g1 A (so_gt A i) i i))) ?_ ?_⟩) (fun e => ⟨vp_in_nI (by omega) (by omega), vi, ?_⟩)
    · have ej : j = i := by omega
      rw [ci, ej]
    · have ej : j = i := by omega
      rw [ej]
      have hle : ∀ m, m < i + 1 → upd cp i (nI (so_g1 A (so_gt A i) i i)) m = nI (so_gt A (i + 1) m) := fun m hm => by
        show upd cp i (nI (so_g1 A (so_gt A i) i i)) m = nI (so_pu (so_gt A i) i (so_g1 A (so_gt A i) i i) m)
        by_cases q : m = i
        · rw [q, so_pu_r, so_uS]
        · rw [so_pu_n _ _ q, so_uN q]; exact h3 m (by omega)
      have b3 := so_g1_b (A := A) (i := i) (so_gt_b A i) i
      have hm : so_gm A (i + 1) = if so_g1 A (so_gt A i) i i ≤ so_gm A i then so_gm A i else so_g1 A (so_gt A i) i i := rfl
      refine pk_le (so_g1 A (so_gt A i) i i) (so_gm A i) (fun z => nm_r (nI_1 i) ?_) (fun z => nm_r (nI_1 i) ?_)
      · have := K _ hle
        rw [hm, if_pos z] at this; exact this
      · have := K _ hle
        rw [hm, if_neg (by omega)] at this; exact this
    · rw [ci, cj]
      have hs : so_g1 A (so_gt A i) i (j + 1) = if A i ≤ A j then so_g1 A (so_gt A i) i j else if so_gt A i j < so_g1 A (so_gt A i) i j then so_g1 A (so_gt A i) i j else so_gt A i j + 1 := rfl
      have b4 := so_gt_b A i j
      have ih' := ih (j + 1) (by omega) (by omega)
      rw [hs] at ih'
      refine br_c (fun z => nm_r (nI_1 j) ?_) (fun z => ⟨vp_in_nI (by omega) (by omega), ?_⟩)
      · rw [if_pos z] at ih'; exact ih'
      · rw [if_neg z] at ih'
        rw [h3 j e, nI_1]
        refine pk_le (so_gt A i j + 1) (so_g1 A (so_gt A i) i j) (fun y => nm_r (nI_1 j) ?_) (fun y => ⟨vp_in_nI (by omega) (by omega), nm_e (nm_r (nI_1 j) ?_)⟩)
        · rw [if_pos (by omega)] at ih'; exact ih'
        · rw [if_neg (by omega)] at ih'; exact ih'
theorem ygr4 {post : Int32 → SY → Prop} (hc : c ≤ 40) (K : ∀ cp', post (nI (so_gm A c)) (nI c, A, cp')) :
    ∀ (n i : Nat) (cp : Nat → Int32), c < n + i → i ≤ c → (∀ m, m < i → cp m = nI (so_gt A i m)) → wY_growing_4 post (nI c) n (nI (so_gm A i)) (nI i) A cp := by
  intro n
  induction n with
  | zero => intro i cp h1 h2; omega
  | succ n ih =>
    intro i cp h1 h2 h3
    rw [wY_growing_4]
    refine pk_le c i (fun e => ?_) (fun e => ⟨i + 1, ygr17 (by omega) h3 (fun cp' q => ih (i + 1) cp' (by omega) (by omega) q) (i + 1) 0 (by omega) (by omega)⟩)
    have : i = c := by omega
    rw [this]; exact K cp
end
theorem i_vc_growing {k : Nat} {u : SX} {v : SY} (I : i_Rel k u v) (hk : k + 4 ≤ 2048) : wpX_growing (fun r u' => wpY_growing (fun r' v' => r' = r ∧ i_Rel (k + 4) u' v') v) u := by
  obtain ⟨c, A, F, G, sp, rl, rh, st, ec, lc, pe, se, le, cp, rfl, rfl, hc, hR⟩ := I
  exact ⟨c + 1, xgr4 hc (fun le' => ⟨c + 1, ygr4 hc (fun cp' => ⟨rfl, i_mk hc hR⟩) (c + 1) 0 cp (by omega) (by omega) (fun m hm => by omega)⟩) (c + 1) 0 le (by omega) (by omega) (fun m hm => by omega)⟩
end
section
section
variable {A F G sp rl rh st ec lc pe se le cp : Nat → Int32} {fc : Int32} {c : Nat}
theorem yrk4 {post : Int32 → Prop} {i : Nat} (hc : c ≤ 40) (hi : i < 40) (K : post (nI (so_rk (so_B A) c (nI i)))) : ∀ n k r : Nat, c < n + k → k ≤ c → r = so_c (fun m => so_B A (nI m) (nI i)) k →
    wY_rank_4 post (nI i) (nI c) A cp n (nI r) (nI k) := by
  intro n
  induction n with
  | zero => intro k r h1 h2; omega
  | succ n ih =>
    intro k r h1 h2 hr
    rw [wY_rank_4]
    have ck : (nI k).toNatClampNeg = k := nI_clamp (by omega)
    have ci : (nI i).toNatClampNeg = i := nI_clamp (by omega)
    have hb := so_Bi A (nI k) (nI i)
    rw [ck, ci, nI_toInt (by omega), nI_toInt (by omega)] at hb
    have vk : k < 40 → vp_in (nI k) 40 := fun z => vp_in_nI z (by omega)
    have vi : vp_in (nI i) 40 := vp_in_nI hi (by omega)
    have up : so_B A (nI k) (nI i) = true → k < c → wY_rank_4 post (nI i) (nI c) A cp n (nI (r + 1)) (nI (k + 1)) := fun t e =>
      ih (k + 1) (r + 1) (by omega) (by omega) (by rw [so_cs, t, so_t1, hr])
    have no : so_B A (nI k) (nI i) = false → k < c → wY_rank_4 post (nI i) (nI c) A cp n (nI r) (nI (k + 1)) := fun t e =>
      ih (k + 1) r (by omega) (by omega) (by rw [so_cs, t, so_f0, hr]; rfl)
    refine pk_le c k (fun e => ?_) (fun e => ⟨vk (by omega), vi, ?_⟩)
    · have : k = c := by omega
      rw [hr, this]; exact K
    · rw [ck, ci]
      refine br_c (fun z => nm_r (nI_1 r) (nm_r (nI_1 k) (up ?_ e))) (fun z => ⟨vk (by omega), vi, br_c (fun y => pk_le i k (fun x => nm_r (nI_1 k) (no (so_nt fun q => ?_) e)) (fun x => nm_r (nI_1 r) (nm_r (nI_1 k) (up ?_ e)))) (fun y => nm_r (nI_1 k) (no (so_nt fun q => ?_) e))⟩)
      · rw [Int32.lt_iff_toInt_lt] at z
        rw [hb]; exact Or.inl z
      · rw [hb, y] at q; omega
      · rw [hb, y]; omega
      · rw [Int32.lt_iff_toInt_lt] at z
        have y' : (A k).toInt ≠ (A i).toInt := fun w => y (Int32.toInt_inj.1 w)
        rw [hb] at q; omega
theorem yrk {post : Int32 → Prop} {i : Nat} (hc : c ≤ 40) (hi : i < 40) (K : post (nI (so_rk (so_B A) c (nI i)))) : wpY_rank post (nI c, A, cp) (nI i) :=
  ⟨c + 1, yrk4 hc hi K (c + 1) 0 0 (by omega) (by omega) rfl⟩
theorem yp2b {post : Int32 → Prop} {x1 x2 : Int32} (hc : c ≤ 40) (hb : ∀ e, e < 12 → x1 = nI e → ∀ i, i < c → ¬ nI (so_rk (so_B A) c (nI i)) = x2) (K : post (-1000)) : ∀ n i : Nat, c < n + i → i ≤ c →
    wY_place_2 post x1 x2 (nI c) A cp n (nI i) := by
  intro n
  induction n with
  | zero => intro i h1 h2; omega
  | succ n ih =>
    intro i h1 h2
    rw [wY_place_2]
    exact pk_le c i (fun e => K) (fun e => yen (fun j hj ej => br_f xe_n10 (yrk hc (by omega) (br_f (hb j hj ej i e) (nm_r (nI_1 i) (ih (i + 1) (by omega) (by omega)))))) (fun _ => br_t rfl K))
theorem ypb {post : Int32 → Prop} {x1 x2 : Int32} (hc : c ≤ 40) (hb : ∀ e, e < 12 → x1 = nI e → ∀ i, i < c → ¬ nI (so_rk (so_B A) c (nI i)) = x2) (K : post (-1000)) : wpY_place post (nI c, A, cp) x1 x2 :=
  ⟨c + 1, yp2b hc hb K (c + 1) 0 (by omega) (by omega)⟩
theorem yp2o {post : Int32 → Prop} {e i0 : Nat} (hc : c ≤ 40) (he : e < 12) (hi : i0 < c) (K : post (nI i0)) : ∀ n i : Nat, c < n + i → i ≤ i0 →
    wY_place_2 post (nI e) (nI (so_rk (so_B A) c (nI i0))) (nI c) A cp n (nI i) := by
  intro n
  induction n with
  | zero => intro i h1 h2; omega
  | succ n ih =>
    intro i h1 h2
    rw [wY_place_2]
    have hB := so_BO A
    have r1 := so_rk_lt hB (n := c) (i := i) (by omega)
    have r2 := so_rk_lt hB hi
    refine br_f (nI_ge (by omega) (by omega)) (yen (fun _ _ _ => br_f xe_n10 (yrk hc (by omega) (pk_eq (so_rk (so_B A) c (nI i)) (so_rk (so_B A) c (nI i0)) (fun q => ?_) (fun q => nm_r (nI_1 i) (ih (i + 1) (by omega) ?_))))) (fun z => (z e he rfl).elim))
    · have : i = i0 := so_rk_inj hB (by omega) (by omega) hi q
      rw [this]; exact K
    · have : i ≠ i0 := fun z => q (by rw [z])
      omega
theorem ypo {post : Int32 → Prop} {e i0 : Nat} (hc : c ≤ 40) (he : e < 12) (hi : i0 < c) (K : post (nI i0)) : wpY_place post (nI c, A, cp) (nI e) (nI (so_rk (so_B A) c (nI i0))) :=
  ⟨c + 1, yp2o hc he hi K (c + 1) 0 (by omega) (by omega)⟩
theorem xsl14 {post : Int32 → Prop} {i0 : Nat} (hc : c ≤ 40) (hi : i0 < c) (K : post (A i0)) : ∀ n i : Nat, c < n + i → i ≤ i0 →
    wX_select_14 post (nI (so_rk (so_B A) c (nI i0))) (nI c) A F G sp rl rh st ec lc pe se le n (nI i) := by
  intro n
  induction n with
  | zero => intro i h1 h2; omega
  | succ n ih =>
    intro i h1 h2
    rw [wX_select_14]
    have hB := so_BO A
    have r1 := so_rk_lt hB (n := c) (i := i) (by omega)
    have r2 := so_rk_lt hB hi
    refine br_f (nI_ge (by omega) (by omega)) (xrk hc (by omega) (pk_eq (so_rk (so_B A) c (nI i)) (so_rk (so_B A) c (nI i0)) (fun q => ⟨vp_in_nI (by omega) (by omega), ?_⟩) (fun q => nm_r (nI_1 i) (ih (i + 1) (by omega) ?_))))
    · have : i = i0 := so_rk_inj hB (by omega) (by omega) hi q
      rw [nI_clamp (by omega), this]; exact K
    · have : i ≠ i0 := fun z => q (by rw [z])
      omega
theorem xag38 {post : Int32 → SX → Prop} (hc : c ≤ 40) (hE : ∀ k, k < c → F k = G k) (K : post 1 (nI c, A, F, G, sp, rl, rh, st, ec, lc, pe, se, le)) : ∀ n k : Nat, c < n + k → k ≤ c →
    wX_agree_38 post (nI c) A F G sp rl rh st ec lc pe se le n (nI k) := by
  intro n
  induction n with
  | zero => intro k h1 h2; omega
  | succ n ih =>
    intro k h1 h2
    rw [wX_agree_38]
    have ck : (nI k).toNatClampNeg = k := nI_clamp (by omega)
    refine pk_le c k (fun e => K) (fun e => ⟨vp_in_nI (by omega) (by omega), vp_in_nI (by omega) (by omega), br_t ?_ (nm_r (nI_1 k) (ih (k + 1) (by omega) (by omega)))⟩)
    rw [ck]; exact hE k e
end
theorem so_D_at {A : Nat → Int32} {c k : Nat} {o : Nat → Int32} (hc : c ≤ 40) (hD : so_D (so_B A) c o) (hk : k < c) : ∃ i, i < c ∧ so_rk (so_B A) c (nI i) = k ∧ o k = nI i := by
  obtain ⟨i, hi, e⟩ := so_rk_sur (so_BO A) (show c < 2 ^ 31 by omega) hk
  exact ⟨i, hi, e, by rw [← e]; exact hD i hi⟩
theorem so_rk_ne {A : Nat → Int32} {c : Nat} {x : Int32} (hc : c ≤ 40) (h : ∀ j, j < c → x ≠ nI j) : ∀ i, i < c → ¬ nI (so_rk (so_B A) c (nI i)) = x :=
  fun i hi e => h _ (so_rk_lt (so_BO A) hi) e.symm
theorem i_vc_place {k : Nat} {u : SX} {v : SY} (I : i_Rel k u v) (hk : k + 4 ≤ 2048) (v1 : Int32) (v2 : Int32) : wpX_place (fun r u' => wpY_place (fun r' => r' = r ∧ i_Rel (k + 4) u' v) v v1 v2) u v1 v2 := by
  obtain ⟨c, A, F, G, sp, rl, rh, st, ec, lc, pe, se, le, cp, rfl, rfl, hc, hR⟩ := I
  unfold wpX_place
  dsimp only
  refine xpl hc (fun j hj ej => br_f xe_n10 (xen (fun e he ee => br_f xe_n10 ?_) (fun h => br_t rfl ?_))) (fun h => br_t rfl ?_)
  · subst ej ee
    refine xfo1 hc hR he (fun o' sp' rl' rh' st' ec' lc' pe' hD => ⟨vp_in_nI (by omega) (by omega), ?_⟩)
    obtain ⟨i, hi, er, eo⟩ := so_D_at hc hD hj
    try dsimp only
    rw [nI_clamp (n := j) (by omega), eo, ← er]
    exact ypo hc he hi ⟨rfl, i_mk hc hR⟩
  · exact ypb hc (fun e he ee => (h e he ee).elim) ⟨rfl, i_mk hc hR⟩
  · exact ypb hc (fun _ _ _ => so_rk_ne hc h) ⟨rfl, i_mk hc hR⟩
theorem xe_m1000 : ¬ (0 : Int32) ≤ -1000 := by decide
theorem i_vc_sorted {k : Nat} {u : SX} {v : SY} (I : i_Rel k u v) (hk : k + 4 ≤ 2048) (v1 : Int32) (v2 : Int32) : wpX_sorted (fun r u' => wpY_sorted (fun r' => r' = r ∧ i_Rel (k + 4) u' v) v v1 v2) u v1 v2 := by
  obtain ⟨c, A, F, G, sp, rl, rh, st, ec, lc, pe, se, le, cp, rfl, rfl, hc, hR⟩ := I
  unfold wpX_sorted wpY_sorted
  dsimp only
  refine xpl hc (fun j hj ej => br_f xe_n10 (xen (fun e he ee => br_f xe_n10 ?_) (fun h => br_t rfl ?_))) (fun h => br_t rfl ?_)
  · subst ej ee
    refine xfo1 hc hR he (fun o' sp' rl' rh' st' ec' lc' pe' hD => ⟨vp_in_nI (by omega) (by omega), ?_⟩)
    obtain ⟨i, hi, er, eo⟩ := so_D_at hc hD hj
    try dsimp only
    rw [nI_clamp (n := j) (by omega), eo, ← er]
    exact ⟨vp_in_nI (by omega) (by omega), ypo hc he hi (br_t (nI_pos' (by omega)) ⟨vp_in_nI (by omega) (by omega), rfl, i_mk hc hR⟩)⟩
  · exact ypb hc (fun e he ee => (h e he ee).elim) (br_f xe_m1000 ⟨rfl, i_mk hc hR⟩)
  · exact ypb hc (fun _ _ _ => so_rk_ne hc h) (br_f xe_m1000 ⟨rfl, i_mk hc hR⟩)
theorem i_vc_select {k : Nat} {u : SX} {v : SY} (I : i_Rel k u v) (hk : k + 4 ≤ 2048) (v1 : Int32) : wpX_select (fun r => wpY_select (fun r' => r' = r ∧ i_Rel (k + 4) u v) v v1) u v1 := by
  obtain ⟨c, A, F, G, sp, rl, rh, st, ec, lc, pe, se, le, cp, rfl, rfl, hc, hR⟩ := I
  unfold wpX_select wpY_select
  dsimp only
  unfold wpY_sorted
  dsimp only
  refine xpl hc (fun j hj ej => br_f xe_n10 ?_) (fun h => br_t rfl ?_)
  · obtain ⟨i, hi, er⟩ := so_rk_sur (so_BO A) (show c < 2 ^ 31 by omega) hj
    rw [ej, ← er]
    have ci : (nI i).toNatClampNeg = i := nI_clamp (by omega)
    refine ⟨c + 1, xsl14 hc hi (ypo (e := 0) hc (by omega) hi (br_t (nI_pos' (by omega)) ⟨vp_in_nI (by omega) (by omega), ?_, i_mk hc hR⟩)) (c + 1) 0 (by omega) (by omega)⟩
    rw [ci]
  · exact ypb hc (fun _ _ _ => so_rk_ne hc h) (br_f xe_m1000 ⟨rfl, i_mk hc hR⟩)
theorem i_vc_agree {k : Nat} {u : SX} {v : SY} (I : i_Rel k u v) (hk : k + 4 ≤ 2048) (v1 : Int32) (v2 : Int32) : wpX_agree (fun r u' => wpY_agree (fun r' => r' = r ∧ i_Rel (k + 4) u' v) v v1 v2) u v1 v2 := by
  obtain ⟨c, A, F, G, sp, rl, rh, st, ec, lc, pe, se, le, cp, rfl, rfl, hc, hR⟩ := I
  unfold wpX_agree wpY_agree
  dsimp only
  refine xen (fun e he ee => br_f xe_n10 (xen (fun e2 he2 ee2 => br_f xe_n10 ?_) (fun h => br_t rfl ?_))) (fun h => br_t rfl ?_)
  · subst ee ee2
    refine xfo1 hc hR he (fun o1 sp1 rl1 rh1 st1 ec1 lc1 pe1 hD1 => ?_)
    refine xfo2 hc hR he2 (fun o2 sp2 rl2 rh2 st2 ec2 lc2 pe2 hD2 => ⟨c + 1, xag38 hc (fun m hm => ?_) ?_ (c + 1) 0 (by omega) (by omega)⟩)
    · obtain ⟨i, hi, er, eo⟩ := so_D_at hc hD1 hm
      have := hD2 i hi
      rw [er] at this
      show o1 m = o2 m
      rw [eo, this]
    · exact yen (fun _ _ _ => br_f xe_n10 (yen (fun _ _ _ => br_f xe_n10 ⟨rfl, i_mk hc hR⟩) (fun z => (z e2 he2 rfl).elim))) (fun z => (z e he rfl).elim)
  · exact yen (fun _ _ _ => br_f xe_n10 (yen (fun j hj ej => (h j hj ej).elim) (fun _ => br_t rfl ⟨rfl, i_mk hc hR⟩))) (fun z => (z e he ee).elim)
  · exact yen (fun j hj ej => (h j hj ej).elim) (fun _ => br_t rfl ⟨rfl, i_mk hc hR⟩)
section
variable {A F G sp rl rh st ec lc pe se le cp : Nat → Int32} {fc : Int32} {c : Nat}
theorem xso25 {post : Int32 → SX → Prop} (hc : c ≤ 40) (hF : ∀ k, k < c → ∃ i, i < c ∧ F k = nI i)
    (K : ∀ sp', (∀ m, m < c → sp' m = A (F m).toNatClampNeg) → post (nI (so_c (fun m => decide (¬ F m = nI m)) c)) (nI c, so_cp A sp' 0 c, F, G, sp', rl, rh, st, ec, lc, pe, se, le)) :
    ∀ (n k r : Nat) (sp : Nat → Int32), c < n + k → k ≤ c → (∀ m, m < k → sp m = A (F m).toNatClampNeg) → r = so_c (fun m => decide (¬ F m = nI m)) k →
    wX_sort_25 post (nI c) n (nI r) (nI k) A F G sp rl rh st ec lc pe se le := by
  intro n
  induction n with
  | zero => intro k r sp h1 h2; omega
  | succ n ih =>
    intro k r sp h1 h2 h3 hr
    rw [wX_sort_25]
    have ck : (nI k).toNatClampNeg = k := nI_clamp (by omega)
    refine pk_le c k (fun e => ?_) (fun e => ?_)
    · have ek : k = c := by omega
      rw [ek] at hr h3
      rw [hr]
      exact xcpn (a := 0) (b := c) (by omega) hc (K sp h3)
    · obtain ⟨i, hi, ei⟩ := hF k e
      have vk : vp_in (nI k) 40 := vp_in_nI (by omega) (by omega)
      have vo : vp_in (F (nI k).toNatClampNeg) 40 := by rw [ck, ei]; exact vp_in_nI (by omega) (by omega)
      have hsp : ∀ m, m < k + 1 → upd sp k (A (F k).toNatClampNeg) m = A (F m).toNatClampNeg := fun m hm => by
        by_cases q : m = k
        · rw [q, so_uS]
        · rw [so_uN q]; exact h3 m (by omega)
      refine ⟨vk, vo, vk, nm_r (e' := upd sp k (A (F k).toNatClampNeg)) (by rw [ck]) ⟨vk, br_c (fun z => nm_r (nI_1 k) (ih (k + 1) r _ (by omega) (by omega) hsp ?_)) (fun z => nm_r (nI_1 r) (nm_r (nI_1 k) (ih (k + 1) (r + 1) _ (by omega) (by omega) hsp ?_)))⟩⟩
      · rw [ck] at z
        rw [so_cs, decide_eq_false (fun y => y z), so_f0, hr]; rfl
      · rw [ck] at z
        rw [so_cs, decide_eq_true z, so_t1, hr]
theorem yso66 {post : Int32 → SY → Prop} {x : Int32} (hc : c ≤ 40) (K : post x (nI c, so_cp A cp 0 c, cp)) :
    ∀ n k : Nat, c < n + k → k ≤ c → wY_sort_66 post x (nI c) n (nI k) (so_cp A cp 0 k) cp := by
  intro n
  induction n with
  | zero => intro k h1 h2; omega
  | succ n ih =>
    intro k h1 h2
    rw [wY_sort_66]
    have ck : (nI k).toNatClampNeg = k := nI_clamp (by omega)
    refine pk_le c k (fun e => ?_) (fun e => ⟨vp_in_nI (by omega) (by omega), vp_in_nI (by omega) (by omega), nm_r (e' := so_cp A cp 0 (k + 1)) (by rw [ck, so_cp_s A cp (by omega)]) (nm_r (nI_1 k) (ih (k + 1) (by omega) (by omega)))⟩)
    have : k = c := by omega
    rw [this]; exact K
theorem yso16 {post : Int32 → SY → Prop} (hc : c ≤ 40)
    (K : ∀ cp', (∀ i, i < c → cp' (so_rk (so_B A) c (nI i)) = A i) → post (nI (so_c (fun m => decide (¬ so_rk (so_B A) c (nI m) = m)) c)) (nI c, so_cp A cp' 0 c, cp')) :
    ∀ (n k r : Nat) (cp : Nat → Int32), c < n + k → k ≤ c → (∀ i, i < k → cp (so_rk (so_B A) c (nI i)) = A i) → r = so_c (fun m => decide (¬ so_rk (so_B A) c (nI m) = m)) k →
    wY_sort_16 post (nI c) n (nI r) (nI k) A cp := by
  intro n
  induction n with
  | zero => intro k r cp h1 h2; omega
  | succ n ih =>
    intro k r cp h1 h2 h3 hr
    rw [wY_sort_16]
    have ck : (nI k).toNatClampNeg = k := nI_clamp (by omega)
    have hB := so_BO A
    refine pk_le c k (fun e => ⟨c + 1, ?_⟩) (fun e => yrk hc (by omega) ?_)
    · have ek : k = c := by omega
      rw [ek] at hr h3
      rw [hr]
      have hy := yso66 (A := A) (cp := cp) (post := post) hc (K cp h3) (c + 1) 0 (by omega) (by omega)
      rw [so_cp_0] at hy; exact hy
    · have hl := so_rk_lt hB e
      have hcp : ∀ i, i < k + 1 → upd cp (so_rk (so_B A) c (nI k)) (A k) (so_rk (so_B A) c (nI i)) = A i := fun i hi => by
        by_cases q : i = k
        · rw [q, so_uS]
        · rw [so_uN]
          · exact h3 i (by omega)
          · exact fun z => q (so_rk_inj hB (by omega) (by omega) e z)
      refine ⟨vp_in_nI (by omega) (by omega), vp_in_nI (by omega) (by omega), nm_r (e' := upd cp (so_rk (so_B A) c (nI k)) (A k)) (by rw [nI_clamp (n := so_rk (so_B A) c (nI k)) (by omega), ck]) ?_⟩
      refine pk_eq (so_rk (so_B A) c (nI k)) k (fun z => nm_r (nI_1 k) (ih (k + 1) r _ (by omega) (by omega) hcp ?_)) (fun z => nm_r (nI_1 r) (nm_r (nI_1 k) (ih (k + 1) (r + 1) _ (by omega) (by omega) hcp ?_)))
      · rw [so_cs, decide_eq_false (fun y => y z), so_f0, hr]; rfl
      · rw [so_cs, decide_eq_true z, so_t1, hr]
end
theorem i_vc_sort {k : Nat} {u : SX} {v : SY} (I : i_Rel k u v) (hk : k + 4 ≤ 2048) (v1 : Int32) : wpX_sort (fun r u' => wpY_sort (fun r' v' => r' = r ∧ i_Rel (k + 4) u' v') v v1) u v1 := by
  obtain ⟨c, A, F, G, sp, rl, rh, st, ec, lc, pe, se, le, cp, rfl, rfl, hc, hR⟩ := I
  unfold wpX_sort wpY_sort
  dsimp only
  refine xen (fun e he ee => br_f xe_n10 ?_) (fun h => br_t rfl ?_)
  · subst ee
    refine xfo1 hc hR he (fun o sp1 rl1 rh1 st1 ec1 lc1 pe1 hD => ⟨c + 1, xso25 hc (fun m hm => ?_) (fun sp' hsp => ?_) (c + 1) 0 0 sp1 (by omega) (by omega) (fun m hm => by omega) rfl⟩)
    · obtain ⟨i, hi, er, eo⟩ := so_D_at hc hD hm
      exact ⟨i, hi, eo⟩
    · refine yen (fun _ _ _ => br_f xe_n10 ⟨c + 1, yso16 hc (fun cp' hcp => ?_) (c + 1) 0 0 cp (by omega) (by omega) (fun m hm => by omega) rfl⟩) (fun z => (z e he rfl).elim)
      have hsp2 : ∀ m, m < c → sp' m = A (o m).toNatClampNeg := hsp
      have hB := so_BO A
      have eqA : so_cp A sp' 0 c = so_cp A cp' 0 c := by
        funext m
        by_cases q : m < c
        · obtain ⟨i, hi, er, eo⟩ := so_D_at hc hD q
          rw [so_cp_i A sp' (by omega) q, so_cp_i A cp' (by omega) q, hsp2 m q, eo, nI_clamp (by omega), ← er, hcp i hi]
        · rw [so_cp_o A sp' (by omega), so_cp_o A cp' (by omega)]
      have eqN : so_c (fun m => decide (¬ so_rk (so_B A) c (nI m) = m)) c = so_c (fun m => decide (¬ o m = nI m)) c := by
        rw [← so_re c (fun i => so_rk (so_B A) c (nI i)) (fun m => decide (¬ o m = nI m)) (fun i hi => so_rk_lt hB hi) (fun i j hi hj q => so_rk_inj hB (by omega) hi hj q)]
        refine so_c_ext (fun m hm => ?_)
        have hl := so_rk_lt hB hm
        rw [hD m hm]
        refine decide_eq_decide.2 ?_
        rw [nI_eq (by omega) (by omega)]
        omega
      refine ⟨congrArg nI eqN, ?_⟩
      try dsimp only
      rw [eqA]
      refine i_mk hc (fun i hi => ?_)
      obtain ⟨j, hj, er⟩ := so_rk_sur hB (show c < 2 ^ 31 by omega) hi
      rw [so_cp_i A cp' (by omega) hi, ← er, hcp j hj]
      exact hR j hj
  · exact yen (fun j hj ej => (h j hj ej).elim) (fun _ => br_t rfl ⟨rfl, i_mk hc hR⟩)
end
section
theorem xe_vb0 : vp_nar .boolean 0 = 0 := by decide
theorem xe_vb1 : vp_nar .boolean 1 = 1 := by decide
/-- the marks as truths -/
def so_mb (se : Nat → Int32) : Nat → Bool := fun m => decide (¬ se m = 0)
theorem so_mb_u (se : Nat → Int32) (x : Nat) : so_mb (upd se x 1) = fun m => if m = x then true else so_mb se m := by
  funext m
  unfold so_mb
  by_cases q : m = x
  · rw [q, so_uS, if_pos rfl]; decide
  · rw [so_uN q, if_neg q]
theorem so_mb_f {se : Nat → Int32} {x : Nat} (h : se x = 0) : so_mb se x = false := decide_eq_false (fun z => z h)
theorem so_mb_t {se : Nat → Int32} {x : Nat} (h : ¬ se x = 0) : so_mb se x = true := decide_eq_true h
section
variable {A F G sp rl rh st ec lc pe se le cp : Nat → Int32} {fc : Int32} {c : Nat} {ρ τ : Nat → Nat}
theorem xmk5 {post : SX → Prop} {p : Nat} (hc : c ≤ 40) (hρ : so_pm c ρ) (hτ : ∀ k, k < c → τ k < c ∧ ρ (τ k) = k) (hF : ∀ k, k < c → F k = nI (τ k)) (hp : p < c) (hn : ¬ so_ea ρ p p)
    (K : ∀ se', (∀ j, j < c → (so_mb se' j = true ↔ so_ea ρ (p + 1) j)) → post (nI c, A, F, G, sp, rl, rh, st, ec, lc, pe, se', le)) :
    ∀ (n x s : Nat) (se : Nat → Int32), c < n + s → s ≤ c → so_mk c ρ τ p x s (so_mb se) → wX_markCycle__firstOrder_5 post (nI c) n (nI x) (nI s) A F G sp rl rh st ec lc pe se le := by
  intro n
  induction n with
  | zero => intro x s se h1 h2; omega
  | succ n ih =>
    intro x s se h1 h2 hm
    rw [wX_markCycle__firstOrder_5]
    have hx := hm.1
    have cx : (nI x).toNatClampNeg = x := nI_clamp (by omega)
    have vx : vp_in (nI x) 40 := vp_in_nI (by omega) (by omega)
    refine pk_le c s (fun e => K se (so_mk_e hρ hτ hp hn hm (Or.inr e))) (fun e => ⟨vx, ?_⟩)
    rw [cx]
    refine br_c (fun z => ⟨vx, nm_r (e' := upd se x 1) (by rw [xe_vb1]) ⟨vx, nm_r (e' := nI (τ x)) (by rw [hF x hx]) (nm_r (nI_1 s) (ih (τ x) (s + 1) _ (by omega) (by omega) ?_))⟩⟩) (fun z => K se (so_mk_e hρ hτ hp hn hm (Or.inl (so_mb_t z))))
    rw [so_mb_u]
    exact so_mk_s hρ hτ hp hm (so_mb_f z)
theorem xex36 {post : Int32 → SX → Prop} (hc : c ≤ 40) (hρ : so_pm c ρ) (hτ : ∀ k, k < c → τ k < c ∧ ρ (τ k) = k) (hF : ∀ k, k < c → F k = nI (τ k))
    (K : ∀ se', post (nI (c - so_c (fun m => so_b (¬ so_ea ρ m m)) c)) (nI c, A, F, G, sp, rl, rh, st, ec, lc, pe, se', le)) :
    ∀ (n p r : Nat) (se : Nat → Int32), c < n + p → p ≤ c → (∀ j, j < c → (so_mb se j = true ↔ so_ea ρ p j)) → r = so_c (fun m => so_b (¬ so_ea ρ m m)) p →
    wX_exchanges_36 post n (nI r) (nI p) (nI c) A F G sp rl rh st ec lc pe se le := by
  intro n
  induction n with
  | zero => intro p r se h1 h2; omega
  | succ n ih =>
    intro p r se h1 h2 h3 hr
    rw [wX_exchanges_36]
    have cx : (nI p).toNatClampNeg = p := nI_clamp (by omega)
    refine pk_le c p (fun e => ?_) (fun e => ⟨vp_in_nI (by omega) (by omega), ?_⟩)
    · have ep : p = c := by omega
      rw [ep] at hr
      have hl := so_c_le (fun m => so_b (¬ so_ea ρ m m)) c
      rw [hr, pk_sub hl]; exact K se
    · rw [cx]
      refine br_c (fun z => nm_r (nI_1 r) ?_) (fun z => nm_r (nI_1 p) (ih (p + 1) r se (by omega) (by omega) (fun j hj => ?_) ?_))
      · have hn : ¬ so_ea ρ p p := fun y => so_tf ((h3 p e).2 y) (so_mb_f z)
        refine ⟨c + 1, xmk5 hc hρ hτ hF e hn (fun se' q => nm_r (nI_1 p) (ih (p + 1) (r + 1) se' (by omega) (by omega) q ?_)) (c + 1) p 0 se (by omega) (by omega) (so_mk_0 e h3)⟩
        rw [so_cs, so_bi.2 hn, so_t1, hr]
      · have hy : so_ea ρ p p := (h3 p e).1 (so_mb_t z)
        rw [h3 j hj, so_ea_s]
        exact ⟨Or.inl, fun w => w.elim id (so_ea_y hy)⟩
      · have hy : so_ea ρ p p := (h3 p e).1 (so_mb_t z)
        rw [so_cs, so_bf.2 (fun w => w hy), so_f0, hr]; rfl
theorem xex11 {post : Int32 → SX → Prop} (hc : c ≤ 40) (hρ : so_pm c ρ) (hτ : ∀ k, k < c → τ k < c ∧ ρ (τ k) = k) (hF : ∀ k, k < c → F k = nI (τ k))
    (K : ∀ se', post (nI (c - so_c (fun m => so_b (¬ so_ea ρ m m)) c)) (nI c, A, F, G, sp, rl, rh, st, ec, lc, pe, se', le)) :
    ∀ (n k : Nat) (se : Nat → Int32), c < n + k → k ≤ c → (∀ j, j < k → se j = 0) → wX_exchanges_11 post (nI c) n (nI k) A F G sp rl rh st ec lc pe se le := by
  intro n
  induction n with
  | zero => intro k se h1 h2; omega
  | succ n ih =>
    intro k se h1 h2 h3
    rw [wX_exchanges_11]
    have ck : (nI k).toNatClampNeg = k := nI_clamp (by omega)
    refine pk_le c k (fun e => ⟨c + 1, xex36 hc hρ hτ hF K (c + 1) 0 0 se (by omega) (by omega) (fun j hj => ?_) rfl⟩) (fun e => ⟨vp_in_nI (by omega) (by omega), nm_r (e' := upd se k 0) (by rw [ck, xe_vb0]) (nm_r (nI_1 k) (ih (k + 1) _ (by omega) (by omega) (fun j hj => ?_)))⟩)
    · constructor
      · intro z; exact (so_tf z (so_mb_f (h3 j (by omega)))).elim
      · rintro ⟨m, hm, _⟩; omega
    · by_cases q : j = k
      · rw [q, so_uS]
      · rw [so_uN q]; exact h3 j (by omega)
/-- the reference's walk around one cycle -/
theorem yex24 {post : Int32 → Prop} {J : Int32 → Int32 → Prop} {i r : Nat} (hc : c ≤ 40) (hρ : so_pm c ρ) (hρ' : ∀ i, i < c → ρ i = so_rk (so_B A) c (nI i)) (hi : i < c)
    (K1 : so_ea ρ i i → J (nI (r + 1)) (nI (i + 1))) (K0 : ¬ so_ea ρ i i → J (nI r) (nI (i + 1))) :
    ∀ (n t : Nat) (f : Int32), 40 < n + t → t ≤ 40 → (∀ s, 0 < s → s ≤ t → so_it ρ s i ≠ i) → (f = 1 ∧ (∀ s, 0 < s → s ≤ t → i < so_it ρ s i) ∨ f = 0 ∧ so_ea ρ i i) →
    wY_exchanges_24 post J (nI r) (nI i) (nI c) A cp n f (nI (so_it ρ (t + 1) i)) (nI t) := by
  intro n
  induction n with
  | zero => intro t f h1 h2; omega
  | succ n ih =>
    intro t f h1 h2 h3 h4
    rw [wY_exchanges_24]
    have hl := so_it_l hρ (t + 1) hi
    have fin : (f = 1 → ¬ so_ea ρ i i) → wY_exchanges_67 post J (nI r) (nI i) f (nI c) A cp := fun w => by
      rcases h4 with ⟨a, b⟩ | ⟨a, b⟩
      · rw [a]
        exact br_f xe_n10 (nm_r (nI_1 i) (K0 (w a)))
      · rw [a]
        exact br_t rfl (nm_r (nI_1 r) (nm_r (nI_1 i) (K1 b)))
    refine pk_le 40 t (fun e => ?_) (fun e => pk_eq (so_it ρ (t + 1) i) i (fun q => ?_) (fun q => ?_))
    · obtain ⟨T, t1, t2, t3⟩ := so_per hρ hi
      exact (h3 T t1 (by omega) t3).elim
    · refine fin (fun a => ?_)
      rcases h4 with ⟨_, b⟩ | ⟨a', b⟩
      · rw [so_ea_i hρ hi]
        exact so_ea_T (T := t + 1) (by omega) q (fun s s1 s2 => b s s1 (by omega))
      · rw [a'] at a; exact absurd a (by decide)
    · have hne : ∀ s, 0 < s → s ≤ t + 1 → so_it ρ s i ≠ i := fun s s1 s2 => by
        by_cases z : s = t + 1
        · rw [z]; exact q
        · exact h3 s s1 (by omega)
      have go : ∀ f' : Int32, (f' = 1 ∧ (∀ s, 0 < s → s ≤ t + 1 → i < so_it ρ s i) ∨ f' = 0 ∧ so_ea ρ i i) →
          wY_exchanges_52 post J (wY_exchanges_24 post J (nI r) (nI i) (nI c) A cp n) (nI r) (nI i) (nI (so_it ρ (t + 1) i)) (nI t) f' (nI c) A cp := fun f' w => by
        refine yrk hc (by omega) (nm_r (nI_1 t) ?_)
        rw [← hρ' _ hl]
        exact ih (t + 1) f' (by omega) (by omega) hne w
      rcases h4 with ⟨a, b⟩ | ⟨a, b⟩
      · rw [a]
        refine br_f xe_n10 (pk_le (so_it ρ (t + 1) i) i (fun w => go 0 (Or.inr ⟨rfl, ?_⟩)) (fun w => go 1 (Or.inl ⟨rfl, fun s s1 s2 => ?_⟩)))
        · rw [so_ea_i hρ hi]
          exact ⟨t + 1, by omega⟩
        · by_cases z : s = t + 1
          · rw [z]; exact w
          · exact b s s1 (by omega)
      · rw [a]
        exact br_t rfl (go 0 (Or.inr ⟨rfl, b⟩))
theorem yex4 {post : Int32 → Prop} (hc : c ≤ 40) (hρ : so_pm c ρ) (hρ' : ∀ i, i < c → ρ i = so_rk (so_B A) c (nI i)) (K : post (nI (so_c (fun m => so_b (so_ea ρ m m)) c))) :
    ∀ n i r : Nat, c < n + i → i ≤ c → r = so_c (fun m => so_b (so_ea ρ m m)) i → wY_exchanges_4 post (nI c) A cp n (nI r) (nI i) := by
  intro n
  induction n with
  | zero => intro i r h1 h2; omega
  | succ n ih =>
    intro i r h1 h2 hr
    rw [wY_exchanges_4]
    refine pk_le c i (fun e => ?_) (fun e => yrk hc (by omega) ⟨41, ?_⟩)
    · have : i = c := by omega
      rw [hr, this]; exact K
    · rw [← hρ' i e]
      exact yex24 hc hρ hρ' e (fun q => ih (i + 1) (r + 1) (by omega) (by omega) (by rw [so_cs, so_bi.2 q, so_t1, hr])) (fun q => ih (i + 1) r (by omega) (by omega) (by rw [so_cs, so_bf.2 q, so_f0, hr]; rfl))
        41 0 1 (by omega) (by omega) (fun s s1 s2 => by omega) (Or.inl ⟨rfl, fun s s1 s2 => by omega⟩)
end
theorem i_vc_exchanges {k : Nat} {u : SX} {v : SY} (I : i_Rel k u v) (hk : k + 4 ≤ 2048) : wpX_exchanges (fun r u' => wpY_exchanges (fun r' => r' = r ∧ i_Rel (k + 4) u' v) v) u := by
  obtain ⟨c, A, F, G, sp, rl, rh, st, ec, lc, pe, se, le, cp, rfl, rfl, hc, hR⟩ := I
  unfold wpX_exchanges
  dsimp only
  refine xfo1 (e := 3) hc hR (by omega) (fun o sp1 rl1 rh1 st1 ec1 lc1 pe1 hD => ?_)
  have hB := so_BO A
  have hρ : so_pm c (fun i => so_rk (so_B A) c (nI i)) := ⟨fun i hi => so_rk_lt hB hi, fun i j hi hj q => so_rk_inj hB (by omega) hi hj q⟩
  have hτ : ∀ m, m < c → o m = nI (o m).toNatClampNeg ∧ (o m).toNatClampNeg < c ∧ so_rk (so_B A) c (nI (o m).toNatClampNeg) = m := fun m hm => by
    obtain ⟨i, hi, er, eo⟩ := so_D_at hc hD hm
    have : (o m).toNatClampNeg = i := by rw [eo]; exact nI_clamp (by omega)
    rw [this]; exact ⟨eo, hi, er⟩
  refine ⟨c + 1, xex11 (ρ := fun i => so_rk (so_B A) c (nI i)) (τ := fun m => (o m).toNatClampNeg) hc hρ (fun m hm => (hτ m hm).2) (fun m hm => (hτ m hm).1) (fun se' => ?_) (c + 1) 0 se (by omega) (by omega) (fun j hj => by omega)⟩
  refine ⟨c + 1, yex4 (ρ := fun i => so_rk (so_B A) c (nI i)) hc hρ (fun i _ => rfl) ⟨congrArg nI ?_, i_mk hc hR⟩ (c + 1) 0 0 (by omega) (by omega) rfl⟩
  have hsum : so_c (fun _ => true) c = so_c (fun m => so_b (so_ea (fun i => so_rk (so_B A) c (nI i)) m m)) c + so_c (fun m => so_b (¬ so_ea (fun i => so_rk (so_B A) c (nI i)) m m)) c := so_c_or (fun m _ => by
    by_cases q : so_ea (fun i => so_rk (so_B A) c (nI i)) m m
    · rw [so_bi.2 q, so_bf.2 (fun w => w q)]; rfl
    · rw [so_bf.2 q, so_bi.2 q]; rfl)
  rw [so_c_tt] at hsum
  omega
end
