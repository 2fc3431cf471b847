/-- how many m below n have p -/
def so_c (p : Nat → Bool) : Nat → Nat
  | 0 => 0
  | n + 1 => so_c p n + (p n).toNat

theorem so_cs (p : Nat → Bool) (n : Nat) : so_c p (n + 1) = so_c p n + (p n).toNat := rfl
theorem so_t1 : true.toNat = 1 := rfl
theorem so_f0 : false.toNat = 0 := rfl
theorem so_tb (b : Bool) : b.toNat ≤ 1 := by cases b <;> decide
theorem so_c_ext {p q : Nat → Bool} {n : Nat} (h : ∀ m, m < n → p m = q m) : so_c p n = so_c q n := by
  induction n with
  | zero => rfl
  | succ n ih => rw [so_cs, so_cs, ih (fun m hm => h m (Nat.lt_succ_of_lt hm)), h n (Nat.lt_succ_self n)]
theorem so_c_le (p : Nat → Bool) (n : Nat) : so_c p n ≤ n := by
  induction n with
  | zero => exact Nat.le_refl _
  | succ n ih => rw [so_cs]; have := so_tb (p n); omega
theorem so_c_mono (p : Nat → Bool) {a b : Nat} (h : a ≤ b) : so_c p a ≤ so_c p b := by
  obtain ⟨d, rfl⟩ := Nat.le.dest h
  clear h
  induction d with
  | zero => exact Nat.le_refl _
  | succ d ih =>
    have e : so_c p (a + (d + 1)) = so_c p (a + d) + (p (a + d)).toNat := rfl
    omega
theorem so_c_z {p : Nat → Bool} {n : Nat} (h : ∀ m, m < n → p m = false) : so_c p n = 0 := by
  induction n with
  | zero => rfl
  | succ n ih => rw [so_cs, ih (fun m hm => h m (by omega)), h n (by omega)]; rfl
theorem so_c_nz {p : Nat → Bool} {n m : Nat} (hm : m < n) (h : p m = true) : 0 < so_c p n := by
  have h1 : so_c p (m + 1) ≤ so_c p n := so_c_mono p hm
  rw [so_cs, h, so_t1] at h1
  omega
theorem so_c_ex {p : Nat → Bool} {n : Nat} (h : 0 < so_c p n) : ∃ m, m < n ∧ p m = true := by
  induction n with
  | zero => exact absurd h (Nat.lt_irrefl 0)
  | succ n ih =>
    cases e : p n with
    | true => exact ⟨n, by omega, e⟩
    | false =>
      rw [so_cs, e, so_f0] at h
      obtain ⟨m, hm, hp⟩ := ih (by omega)
      exact ⟨m, by omega, hp⟩
theorem so_c_one {p : Nat → Bool} {n : Nat} (h : ∀ a b, a < n → b < n → p a = true → p b = true → a = b) : so_c p n ≤ 1 := by
  induction n with
  | zero => exact Nat.zero_le _
  | succ n ih =>
    rw [so_cs]
    cases e : p n with
    | false =>
      rw [so_f0]
      exact ih (fun a b ha hb => h a b (by omega) (by omega))
    | true =>
      have : so_c p n = 0 := so_c_z (fun m hm => by
        cases c : p m with
        | false => rfl
        | true => have := h m n (by omega) (by omega) c e; omega)
      rw [this, so_t1]; omega
theorem so_c_upd (p : Nat → Bool) (b : Bool) {i n : Nat} (hi : i < n) :
    so_c (fun m => if m = i then b else p m) n + (p i).toNat = so_c p n + b.toNat := by
  induction n with
  | zero => omega
  | succ n ih =>
    rw [so_cs, so_cs]
    by_cases h : n = i
    · subst h
      have e : so_c (fun m => if m = n then b else p m) n = so_c p n := so_c_ext (fun m hm => if_neg (by omega))
      rw [e, if_pos rfl]; omega
    · have := ih (by omega)
      rw [if_neg h]; omega
theorem so_c_lt (k n : Nat) : so_c (fun m => decide (m < k)) n = min k n := by
  induction n with
  | zero => show 0 = min k 0; omega
  | succ n ih =>
    rw [so_cs, ih]
    by_cases h : n < k
    · rw [decide_eq_true h, so_t1]; omega
    · rw [decide_eq_false h, so_f0]; omega
theorem so_c_imp {p q : Nat → Bool} {n : Nat} (h : ∀ m, m < n → p m = true → q m = true) : so_c p n ≤ so_c q n := by
  induction n with
  | zero => exact Nat.le_refl _
  | succ n ih =>
    have h1 := ih (fun m hm => h m (by omega))
    rw [so_cs, so_cs]
    cases e : p n with
    | false => rw [so_f0]; omega
    | true => rw [h n (by omega) e]; omega
theorem so_c_str {p q : Nat → Bool} {n i : Nat} (h : ∀ m, m < n → p m = true → q m = true) (hi : i < n) (h1 : p i = false) (h2 : q i = true) :
    so_c p n < so_c q n := by
  induction n with
  | zero => omega
  | succ n ih =>
    rw [so_cs, so_cs]
    by_cases c : i = n
    · subst c
      have h3 := so_c_imp (p := p) (q := q) (n := i) (fun m hm => h m (by omega))
      rw [h1, h2, so_t1, so_f0]; omega
    · have h3 := ih (fun m hm => h m (by omega)) (by omega)
      cases e : p n with
      | false => rw [so_f0]; omega
      | true => rw [h n (by omega) e]; omega
theorem so_c_tt (n : Nat) : so_c (fun _ => true) n = n := by
  induction n with
  | zero => rfl
  | succ n ih => rw [so_cs, ih, so_t1]
theorem so_re : ∀ (n : Nat) (q : Nat → Nat) (g : Nat → Bool), (∀ i, i < n → q i < n) → (∀ i j, i < n → j < n → q i = q j → i = j) →
    so_c (fun i => g (q i)) n = so_c g n := by
  intro n
  induction n with
  | zero => intros; rfl
  | succ n ih =>
    intro q g hq hi
    have ht : q n < n + 1 := hq n (by omega)
    have hn : ∀ i, i < n → q i ≠ q n := fun i h e => by
      have := hi i n (by omega) (by omega) e
      omega
    have h1 := ih (fun i => if q i = n then q n else q i) (fun a => if a = q n then g n else g a)
      (fun i h => by
        have a1 := hn i h
        have a2 := hq i (by omega)
        show (if q i = n then q n else q i) < n
        split <;> omega)
      (fun i j h h' e => by
        have a1 := hn i h
        have a2 := hn j h'
        have e' : (if q i = n then q n else q i) = (if q j = n then q n else q j) := e
        apply hi i j (by omega) (by omega)
        split at e' <;> split at e' <;> omega)
    have h2 : so_c (fun i => g (q i)) n = so_c (fun i => (fun a => if a = q n then g n else g a) ((fun i => if q i = n then q n else q i) i)) n :=
      so_c_ext (fun i h => by
        have a1 := hn i h
        show g (q i) = if (if q i = n then q n else q i) = q n then g n else g (if q i = n then q n else q i)
        by_cases c : q i = n
        · rw [if_pos c, if_pos rfl, c]
        · rw [if_neg c, if_neg a1])
    rw [so_cs, so_cs, h2, h1]
    by_cases c : q n = n
    · have e : so_c (fun a => if a = q n then g n else g a) n = so_c g n := so_c_ext (fun m hm => if_neg (by omega))
      rw [e, c]
    · have := so_c_upd g (g n) (i := q n) (n := n) (by omega)
      omega
noncomputable def so_b (P : Prop) : Bool := @decide P (Classical.propDecidable P)
theorem so_bi {P : Prop} : so_b P = true ↔ P := @decide_eq_true_iff P (Classical.propDecidable P)
theorem so_bf {P : Prop} : so_b P = false ↔ ¬ P := @decide_eq_false_iff_not P (Classical.propDecidable P)
theorem so_sur {n : Nat} {q : Nat → Nat} (hq : ∀ i, i < n → q i < n) (hi : ∀ i j, i < n → j < n → q i = q j → i = j) {k : Nat} (hk : k < n) : ∃ i, i < n ∧ q i = k := by
  have h1 := so_c_nz (p := fun a => so_b (a = k)) hk (so_bi.2 rfl)
  have h2 := so_re n q (fun a => so_b (a = k)) hq hi
  try dsimp only at h2
  rw [← h2] at h1
  obtain ⟨m, hm, e⟩ := so_c_ex h1
  exact ⟨m, hm, so_bi.1 e⟩

/-- the row holds each of 0 .. n - 1 as often as the row 0 .. n - 1 itself -/
def so_P (n : Nat) (o : Nat → Int32) : Prop := ∀ p : Int32 → Bool, so_c (fun m => p (o m)) n = so_c (fun m => p (nI m)) n
theorem so_P_id {n : Nat} {o : Nat → Int32} (h : ∀ m, m < n → o m = nI m) : so_P n o :=
  fun p => so_c_ext (fun m hm => by rw [h m hm])
/-- two places exchanged -/
def so_w (o : Nat → Int32) (i j : Nat) : Nat → Int32 := upd (upd o i (o j)) j (o i)
theorem so_wi (o : Nat → Int32) (i j : Nat) : so_w o i j i = o j := by
  show (if i = j then o i else if i = i then o j else o i) = o j
  by_cases c : i = j
  · rw [if_pos c, c]
  · rw [if_neg c, if_pos rfl]
theorem so_wj (o : Nat → Int32) (i j : Nat) : so_w o i j j = o i := by
  show (if j = j then o i else if j = i then o j else o j) = o i
  rw [if_pos rfl]
theorem so_wn (o : Nat → Int32) {i j m : Nat} (hi : m ≠ i) (hj : m ≠ j) : so_w o i j m = o m := by
  show (if m = j then o i else if m = i then o j else o m) = o m
  rw [if_neg hj, if_neg hi]
theorem so_P_w {n i j : Nat} {o : Nat → Int32} (h : so_P n o) (hi : i < n) (hj : j < n) : so_P n (so_w o i j) := by
  intro p
  rw [← h p]
  have h1 := so_c_upd (fun m => p (o m)) (p (o j)) hi
  have h2 := so_c_upd (fun m => if m = i then p (o j) else p (o m)) (p (o i)) hj
  have e : so_c (fun m => p (so_w o i j m)) n = so_c (fun m => if m = j then p (o i) else if m = i then p (o j) else p (o m)) n :=
    so_c_ext (fun m _ => by
      show p (if m = j then o i else if m = i then o j else o m) = _
      split
      · rfl
      · split <;> rfl)
  have e2 : (if j = i then p (o j) else p (o j)) = p (o j) := by split <;> rfl
  try dsimp only at h1 h2
  rw [e2] at h2
  rw [e]
  omega
theorem so_P_all {n : Nat} {o : Nat → Int32} (h : so_P n o) (p : Int32 → Bool) (hp : ∀ m, m < n → p (nI m) = true) {m : Nat} (hm : m < n) : p (o m) = true := by
  cases e : p (o m) with
  | true => rfl
  | false =>
    have h1 := h (fun x => !p x)
    have h2 : so_c (fun m => !p (nI m)) n = 0 := so_c_z (fun m hm => by rw [hp m hm]; rfl)
    have h3 := so_c_nz (p := fun m => !p (o m)) hm (by show (!p (o m)) = true; rw [e]; rfl)
    try dsimp only at h1
    omega
theorem so_P_in {n : Nat} {o : Nat → Int32} (h : so_P n o) {m : Nat} (hm : m < n) : ∃ i, i < n ∧ o m = nI i :=
  so_bi.1 (so_P_all h (fun x => so_b (∃ i, i < n ∧ x = nI i)) (fun m hm => so_bi.2 ⟨m, hm, rfl⟩) hm)
theorem so_P_sur {n : Nat} {o : Nat → Int32} (h : so_P n o) {i : Nat} (hi : i < n) : ∃ m, m < n ∧ o m = nI i := by
  have h1 := so_c_nz (p := fun m => so_b (nI m = nI i)) hi (so_bi.2 rfl)
  have h2 := h (fun x => so_b (x = nI i))
  try dsimp only at h2
  rw [← h2] at h1
  obtain ⟨m, hm, e⟩ := so_c_ex h1
  exact ⟨m, hm, so_bi.1 e⟩
theorem so_P_inj {n : Nat} (hn : n < 2 ^ 31) {o : Nat → Int32} (h : so_P n o) {a b : Nat} (ha : a < n) (hb : b < n) (e : o a = o b) : a = b := by
  have key : ∀ a b : Nat, a < b → b < n → o a = o b → False := by
    intro a b hab hb e
    have h2 := h (fun x => so_b (x = o a))
    try dsimp only at h2
    have h3 : so_c (fun m => so_b (nI m = o a)) n ≤ 1 := so_c_one (fun c d hc hd e1 e2 => by
      have e3 : nI c = nI d := (so_bi.1 e1).trans (so_bi.1 e2).symm
      exact (nI_eq (by omega) (by omega)).1 e3)
    have h4 := so_c_nz (p := fun m => so_b (o m = o a)) hab (so_bi.2 rfl)
    have h5 := so_c_mono (fun m => so_b (o m = o a)) (a := b + 1) (b := n) hb
    rw [so_cs] at h5
    have h6 : so_b (o b = o a) = true := so_bi.2 e.symm
    rw [h6, so_t1] at h5
    omega
  rcases Nat.lt_trichotomy a b with c | c | c
  · exact (key a b c hb e).elim
  · exact c
  · exact (key b a c ha e.symm).elim

/-- a strict order in which no two tie -/
def so_O (B : Int32 → Int32 → Bool) : Prop :=
  (∀ x, B x x = false) ∧ (∀ x y z, B x y = true → B y z = true → B x z = true) ∧ (∀ x y, x ≠ y → B x y = true ∨ B y x = true)
theorem so_tf {b : Bool} (h : b = true) (h' : b = false) : False := by rw [h] at h'; cases h'
theorem so_nt {b : Bool} (h : ¬ b = true) : b = false := by cases b <;> simp_all
theorem so_as {B : Int32 → Int32 → Bool} (h : so_O B) {x y : Int32} (h1 : B x y = true) : B y x = false := by
  cases e : B y x with
  | false => rfl
  | true => exact (so_tf (h.2.1 x y x h1 e) (h.1 x)).elim
/-- not after, twice -/
theorem so_tr {B : Int32 → Int32 → Bool} (h : so_O B) {x y z : Int32} (h1 : B y x = false) (h2 : B z y = false) : B z x = false := by
  cases e : B z x with
  | false => rfl
  | true =>
    by_cases c : x = y
    · subst c; exact (so_tf e h2).elim
    · rcases h.2.2 x y c with a | a
      · exact (so_tf (h.2.1 z x y e a) h2).elim
      · exact (so_tf a h1).elim
def so_S (B : Int32 → Int32 → Bool) (o : Nat → Int32) (a b : Nat) : Prop := ∀ i j, a ≤ i → i < j → j < b → B (o j) (o i) = false
def so_rk (B : Int32 → Int32 → Bool) (n : Nat) (x : Int32) : Nat := so_c (fun m => B (nI m) x) n
theorem so_rk_at {B : Int32 → Int32 → Bool} (hB : so_O B) {n : Nat} {o : Nat → Int32} (hn : n < 2 ^ 31) (hP : so_P n o) (hS : so_S B o 0 n) {k : Nat} (hk : k < n) :
    so_rk B n (o k) = k := by
  have h1 := hP (fun x => B x (o k))
  have h2 : so_c (fun m => B (o m) (o k)) n = so_c (fun m => decide (m < k)) n := so_c_ext (fun m hm => by
    by_cases c : m < k
    · rw [decide_eq_true c]
      have e : o m ≠ o k := fun e => by
        have := so_P_inj hn hP hm hk e
        omega
      rcases hB.2.2 _ _ e with a | a
      · exact a
      · exact (so_tf a (hS m k (by omega) c hk)).elim
    · rw [decide_eq_false c]
      by_cases d : m = k
      · rw [d]; exact hB.1 _
      · exact hS k m (by omega) (by omega) hm)
  have h3 := so_c_lt k n
  unfold so_rk
  try dsimp only at h1
  omega
/-- the row is THE sorted order -/
def so_D (B : Int32 → Int32 → Bool) (n : Nat) (o : Nat → Int32) : Prop := ∀ i, i < n → o (so_rk B n (nI i)) = nI i
theorem so_D_of {B : Int32 → Int32 → Bool} (hB : so_O B) {n : Nat} {o : Nat → Int32} (hn : n < 2 ^ 31) (hP : so_P n o) (hS : so_S B o 0 n) : so_D B n o := by
  intro i hi
  obtain ⟨m, hm, e⟩ := so_P_sur hP hi
  rw [← e, so_rk_at hB hn hP hS hm]
theorem so_rk_lt {B : Int32 → Int32 → Bool} (hB : so_O B) {n i : Nat} (hi : i < n) : so_rk B n (nI i) < n := by
  have h := so_c_str (p := fun m => B (nI m) (nI i)) (q := fun _ => true) (n := n) (fun _ _ _ => rfl) hi (hB.1 _) rfl
  rw [so_c_tt] at h
  exact h
theorem so_rk_up {B : Int32 → Int32 → Bool} (hB : so_O B) {n i : Nat} (hi : i < n) {y : Int32} (h : B (nI i) y = true) : so_rk B n (nI i) < so_rk B n y :=
  so_c_str (fun m _ h1 => hB.2.1 _ _ _ h1 h) hi (hB.1 _) h
theorem so_rk_iff {B : Int32 → Int32 → Bool} (hB : so_O B) {n i j : Nat} (hi : i < n) (hj : j < n) : B (nI i) (nI j) = true ↔ so_rk B n (nI i) < so_rk B n (nI j) := by
  refine ⟨so_rk_up hB hi, fun h => ?_⟩
  cases e : B (nI i) (nI j) with
  | true => rfl
  | false =>
    by_cases c : nI i = nI j
    · rw [c] at h; omega
    · rcases hB.2.2 _ _ c with a | a
      · exact (so_tf a e).elim
      · have := so_rk_up hB hj a; omega
theorem so_rk_inj {B : Int32 → Int32 → Bool} (hB : so_O B) {n i j : Nat} (hn : n < 2 ^ 31) (hi : i < n) (hj : j < n) (h : so_rk B n (nI i) = so_rk B n (nI j)) : i = j := by
  by_cases c : nI i = nI j
  · exact (nI_eq (by omega) (by omega)).1 c
  · rcases hB.2.2 _ _ c with a | a
    · have := so_rk_up hB hi a; omega
    · have := so_rk_up hB hj a; omega
theorem so_rk_sur {B : Int32 → Int32 → Bool} (hB : so_O B) {n k : Nat} (hn : n < 2 ^ 31) (hk : k < n) : ∃ i, i < n ∧ so_rk B n (nI i) = k :=
  so_sur (q := fun i => so_rk B n (nI i)) (fun _ hi => so_rk_lt hB hi) (fun _ _ hi hj h => so_rk_inj hB hn hi hj h) hk

/-- first by g, then by the places themselves -/
def so_L (g : Int32 → Int) (x y : Int32) : Bool := decide (g x < g y) || (decide (g x = g y) && decide (x < y))
theorem so_Li (g : Int32 → Int) (x y : Int32) : so_L g x y = true ↔ g x < g y ∨ (g x = g y ∧ x.toInt < y.toInt) := by
  simp [so_L, Int32.lt_iff_toInt_lt]
theorem so_LO (g : Int32 → Int) : so_O (so_L g) := by
  refine ⟨fun x => so_nt fun h => ?_, fun x y z h1 h2 => ?_, fun x y h => ?_⟩
  · rw [so_Li] at h; omega
  · rw [so_Li] at h1 h2 ⊢; omega
  · rw [so_Li, so_Li]
    have : x.toInt ≠ y.toInt := fun e => h (Int32.toInt_inj.1 e)
    omega
def so_B (L : Nat → Int32) : Int32 → Int32 → Bool := so_L (fun x => (L x.toNatClampNeg).toInt)
theorem so_BO (L : Nat → Int32) : so_O (so_B L) := so_LO _
