section
variable {B : Int32 → Int32 → Bool} {o : Nat → Int32}
/-- filling by rank -/
def so_fi (B : Int32 → Int32 → Bool) (n p : Nat) (o : Nat → Int32) : Prop := ∀ i, i < p → o (so_rk B n (nI i)) = nI i
theorem so_fi_0 (n : Nat) (o : Nat → Int32) : so_fi B n 0 o := fun i hi => by omega
theorem so_fi_s (hB : so_O B) {n p : Nat} (hn : n < 2 ^ 31) (hp : p < n) (h : so_fi B n p o) : so_fi B n (p + 1) (upd o (so_rk B n (nI p)) (nI p)) := by
  intro i hi
  by_cases c : i = p
  · subst c; exact so_uS
  · rw [so_uN]
    · exact h i (by omega)
    · exact fun e => c (so_rk_inj hB hn (by omega) hp e)
theorem so_c_or {p q r : Nat → Bool} {n : Nat} (h : ∀ m, m < n → (r m).toNat = (p m).toNat + (q m).toNat) : so_c r n = so_c p n + so_c q n := by
  induction n with
  | zero => rfl
  | succ n ih =>
    have h1 := ih (fun m hm => h m (by omega))
    have h2 := h n (by omega)
    rw [so_cs, so_cs, so_cs]; omega
theorem so_c_res {q r : Nat → Bool} {k n : Nat} (hk : k ≤ n) (h1 : ∀ m, m < k → r m = q m) (h2 : ∀ m, k ≤ m → r m = false) : so_c r n = so_c q k := by
  obtain ⟨d, rfl⟩ := Nat.le.dest hk
  clear hk
  induction d with
  | zero => exact so_c_ext h1
  | succ d ih =>
    show so_c r (k + d) + (r (k + d)).toNat = so_c q k
    rw [ih, h2 (k + d) (by omega)]; rfl
theorem so_Bk {L : Nat → Int32} {ky : Nat → Nat} {n m p : Nat} (hn : n < 2 ^ 31) (hk : ∀ i, i < n → (L i).toInt = (ky i : Int) - 99) (hm : m < n) (hp : p < n) :
    so_B L (nI m) (nI p) = true ↔ ky m < ky p ∨ (ky m = ky p ∧ m < p) := by
  unfold so_B
  rw [so_Li, nI_clamp (by omega), nI_clamp (by omega), hk m hm, hk p hp, nI_toInt (by omega), nI_toInt (by omega)]
  omega
theorem so_ck {L : Nat → Int32} {ky : Nat → Nat} {n p : Nat} (hn : n < 2 ^ 31) (hk : ∀ i, i < n → (L i).toInt = (ky i : Int) - 99) (hp : p < n) :
    so_c (fun m => decide (ky m < ky p)) n + so_c (fun m => decide (ky m = ky p)) p = so_rk (so_B L) n (nI p) := by
  have e1 : so_c (fun m => decide (ky m = ky p ∧ m < p)) n = so_c (fun m => decide (ky m = ky p)) p :=
    so_c_res (by omega) (fun m hm => by simp [hm]) (fun m hm => by
      have : ¬ m < p := by omega
      simp [this])
  rw [← e1]
  symm
  unfold so_rk
  refine so_c_or (fun m hm => ?_)
  have e2 := so_Bk hn hk hm hp
  by_cases c : ky m < ky p
  · have c2 : ¬ (ky m = ky p ∧ m < p) := by omega
    rw [e2.2 (Or.inl c), decide_eq_true c, decide_eq_false c2]; rfl
  · rw [decide_eq_false c]
    by_cases d : ky m = ky p ∧ m < p
    · rw [e2.2 (Or.inr d), decide_eq_true d]; rfl
    · have : so_B L (nI m) (nI p) = false := so_nt (fun x => by rcases e2.1 x with a | a; exact c a; exact d a)
      rw [this, decide_eq_false d]; rfl

/-- radix: the order by the lowest b bits of the key, then by place -/
def so_Rb (kf : Int32 → Nat) (b : Nat) : Int32 → Int32 → Bool := so_L (fun x => ((kf x % 2 ^ b : Nat) : Int))
theorem so_Rb_O (kf : Int32 → Nat) (b : Nat) : so_O (so_Rb kf b) := so_LO _
theorem so_Rb_i (kf : Int32 → Nat) (b : Nat) (x y : Int32) : so_Rb kf b x y = false ↔ ¬ (kf x % 2 ^ b < kf y % 2 ^ b ∨ (kf x % 2 ^ b = kf y % 2 ^ b ∧ x.toInt < y.toInt)) := by
  unfold so_Rb
  rw [← Bool.not_eq_true, so_Li]
  omega
theorem so_Rb_0 {kf : Int32 → Nat} {n : Nat} (hn : n < 2 ^ 31) (h : ∀ m, m < n → o m = nI m) : so_S (so_Rb kf 0) o 0 n := by
  intro i j _ h1 h2
  rw [so_Rb_i, h i (by omega), h j h2, nI_toInt (by omega), nI_toInt (by omega)]
  simp only [Nat.pow_zero, Nat.mod_one]
  omega
def so_bt (kf : Int32 → Nat) (b : Nat) (x : Int32) : Nat := kf x / 2 ^ b % 2
theorem so_Rb_s (kf : Int32 → Nat) (b : Nat) (x : Int32) : kf x % 2 ^ (b + 1) = kf x % 2 ^ b + 2 ^ b * so_bt kf b x := by
  rw [Nat.pow_succ, Nat.mod_mul]; rfl
/-- how many of the first k have this bit -/
def so_cb (kf : Int32 → Nat) (b w : Nat) (o : Nat → Int32) (k : Nat) : Nat := so_c (fun m => decide (so_bt kf b (o m) = w)) k
theorem so_cb_n (kf : Int32 → Nat) (b : Nat) (o : Nat → Int32) (k : Nat) : so_cb kf b 0 o k + so_cb kf b 1 o k = k := by
  have h : so_c (fun _ => true) k = so_cb kf b 0 o k + so_cb kf b 1 o k := so_c_or (fun m _ => by
    have : so_bt kf b (o m) < 2 := Nat.mod_lt _ (by omega)
    by_cases c : so_bt kf b (o m) = 0
    · have d : ¬ so_bt kf b (o m) = 1 := by omega
      rw [decide_eq_true c, decide_eq_false d]; rfl
    · have d : so_bt kf b (o m) = 1 := by omega
      rw [decide_eq_false c, decide_eq_true d]; rfl)
  rw [so_c_tt] at h
  exact h.symm
theorem so_cb_lt {kf : Int32 → Nat} {b w : Nat} {k n : Nat} (hk : k < n) (h : so_bt kf b (o k) = w) : so_cb kf b w o k < so_cb kf b w o n := by
  have h1 : so_cb kf b w o (k + 1) ≤ so_cb kf b w o n := so_c_mono _ hk
  have h2 : so_cb kf b w o (k + 1) = so_cb kf b w o k + (decide (so_bt kf b (o k) = w)).toNat := rfl
  rw [decide_eq_true h, so_t1] at h2
  omega
/-- collecting: what the spare row holds when k places have been looked at -/
def so_co (kf : Int32 → Nat) (b w st : Nat) (o : Nat → Int32) (k : Nat) (s0 s : Nat → Int32) : Prop :=
  (∀ m, m < st → s m = s0 m) ∧ (∀ m, m < k → so_bt kf b (o m) = w → s (st + so_cb kf b w o m) = o m)
theorem so_co_0 (kf : Int32 → Nat) (b w st : Nat) (o s : Nat → Int32) : so_co kf b w st o 0 s s := ⟨fun _ _ => rfl, fun m hm => by omega⟩
theorem so_co_t {kf : Int32 → Nat} {b w st k : Nat} {s0 s : Nat → Int32} (h : so_co kf b w st o k s0 s) (hb : so_bt kf b (o k) = w) :
    so_co kf b w st o (k + 1) s0 (upd s (st + so_cb kf b w o k) (o k)) := by
  refine ⟨fun m hm => by rw [so_uN (by omega)]; exact h.1 m hm, fun m hm e => ?_⟩
  by_cases c : m = k
  · rw [c]; exact so_uS
  · have := so_cb_lt (n := k) (show m < k by omega) e
    rw [so_uN (by omega)]; exact h.2 m (by omega) e
theorem so_co_f {kf : Int32 → Nat} {b w st k : Nat} {s0 s : Nat → Int32} (h : so_co kf b w st o k s0 s) (hb : ¬ so_bt kf b (o k) = w) : so_co kf b w st o (k + 1) s0 s :=
  ⟨h.1, fun m hm e => by
    by_cases c : m = k
    · rw [c] at e; exact (hb e).elim
    · exact h.2 m (by omega) e⟩
theorem so_cb_t {kf : Int32 → Nat} {b w k : Nat} (hb : so_bt kf b (o k) = w) : so_cb kf b w o (k + 1) = so_cb kf b w o k + 1 := by
  show so_cb kf b w o k + (decide (so_bt kf b (o k) = w)).toNat = _
  rw [decide_eq_true hb]; rfl
theorem so_cb_f {kf : Int32 → Nat} {b w k : Nat} (hb : ¬ so_bt kf b (o k) = w) : so_cb kf b w o (k + 1) = so_cb kf b w o k := by
  show so_cb kf b w o k + (decide (so_bt kf b (o k) = w)).toNat = _
  rw [decide_eq_false hb]; rfl
theorem so_pass {kf : Int32 → Nat} {b n : Nat} {s0 s1 s : Nat → Int32} (h0 : so_co kf b 0 0 o n s0 s1) (h1 : so_co kf b 1 (so_cb kf b 0 o n) o n s1 s) (hP : so_P n o) (hS : so_S (so_Rb kf b) o 0 n) :
    so_P n s ∧ so_S (so_Rb kf (b + 1)) s 0 n := by
  have hbit : ∀ x, so_bt kf b x = 0 ∨ so_bt kf b x = 1 := fun x => by
    have : so_bt kf b x < 2 := Nat.mod_lt _ (by omega)
    omega
  have hN := so_cb_n kf b o n
  obtain ⟨q, hq0, hq1⟩ : ∃ q : Nat → Nat, (∀ k, so_bt kf b (o k) = 0 → q k = so_cb kf b 0 o k) ∧ (∀ k, so_bt kf b (o k) = 1 → q k = so_cb kf b 0 o n + so_cb kf b 1 o k) :=
    ⟨fun k => if so_bt kf b (o k) = 0 then so_cb kf b 0 o k else so_cb kf b 0 o n + so_cb kf b 1 o k, fun k e => if_pos e, fun k e => if_neg (by omega)⟩
  have hs : ∀ k, k < n → s (q k) = o k := fun k hk => by
    rcases hbit (o k) with e | e
    · rw [hq0 k e, h1.1 _ (so_cb_lt hk e)]
      have := h0.2 k hk e
      rw [Nat.zero_add] at this
      exact this
    · rw [hq1 k e]; exact h1.2 k hk e
  have hr : ∀ k, k < n → q k < n := fun k hk => by
    rcases hbit (o k) with e | e
    · rw [hq0 k e]; have := so_cb_lt hk e; omega
    · rw [hq1 k e]; have := so_cb_lt hk e; omega
  have hm : ∀ k m, k < m → m < n → so_bt kf b (o k) = so_bt kf b (o m) → q k < q m := fun k m h2 h3 e => by
    rcases hbit (o k) with e1 | e1
    · rw [hq0 k e1, hq0 m (e.symm.trans e1)]; exact so_cb_lt h2 e1
    · rw [hq1 k e1, hq1 m (e.symm.trans e1)]; have := so_cb_lt h2 e1; omega
  have hz : ∀ k m, k < n → so_bt kf b (o k) = 0 → so_bt kf b (o m) = 1 → q k < q m := fun k m h2 e1 e2 => by
    rw [hq0 k e1, hq1 m e2]; have := so_cb_lt h2 e1; omega
  have hi : ∀ i j, i < n → j < n → q i = q j → i = j := fun i j a1 a2 e => by
    rcases hbit (o i) with e1 | e1 <;> rcases hbit (o j) with e2 | e2
    · rcases Nat.lt_trichotomy i j with c | c | c
      · have := hm i j c a2 (by omega); omega
      · exact c
      · have := hm j i c a1 (by omega); omega
    · have := hz i j a1 e1 e2; omega
    · have := hz j i a2 e2 e1; omega
    · rcases Nat.lt_trichotomy i j with c | c | c
      · have := hm i j c a2 (by omega); omega
      · exact c
      · have := hm j i c a1 (by omega); omega
  refine ⟨fun p => ?_, fun i j _ h2 h3 => ?_⟩
  · rw [← hP p, ← so_re n q (fun a => p (s a)) hr hi]
    exact so_c_ext (fun m hm => by show p (s (q m)) = p (o m); rw [hs m hm])
  · obtain ⟨k, hk, e1⟩ := so_sur hr hi (show i < n by omega)
    obtain ⟨m, hm', e2⟩ := so_sur hr hi h3
    subst e1 e2
    rw [hs k hk, hs m hm', so_Rb_i, so_Rb_s, so_Rb_s]
    have l1 : kf (o k) % 2 ^ b < 2 ^ b := Nat.mod_lt _ (Nat.two_pow_pos b)
    have l2 : kf (o m) % 2 ^ b < 2 ^ b := Nat.mod_lt _ (Nat.two_pow_pos b)
    have key : so_bt kf b (o k) = so_bt kf b (o m) → ¬ (kf (o m) % 2 ^ b < kf (o k) % 2 ^ b ∨ (kf (o m) % 2 ^ b = kf (o k) % 2 ^ b ∧ (o m).toInt < (o k).toInt)) := fun e => by
      have c : k < m := by
        rcases Nat.lt_trichotomy k m with c | c | c
        · exact c
        · rw [c] at h2; omega
        · have := hm m k c hk e.symm; omega
      have := hS k m (by omega) c hm'
      rw [so_Rb_i] at this
      exact this
    rcases hbit (o k) with e1 | e1 <;> rcases hbit (o m) with e2 | e2
    · have := key (by omega)
      rw [e1, e2]; omega
    · rw [e1, e2]; omega
    · have := hz m k hm' e2 e1; omega
    · have := key (by omega)
      rw [e1, e2]; omega
theorem so_Rb_e {L : Nat → Int32} {kf : Int32 → Nat} {n : Nat} (hn : n < 2 ^ 31) (hk : ∀ i, i < n → (L i).toInt = (kf (nI i) : Int) - 99 ∧ kf (nI i) < 256) (hP : so_P n o) (hS : so_S (so_Rb kf 8) o 0 n) : so_S (so_B L) o 0 n := by
  intro i j h0 h1 h2
  have := hS i j h0 h1 h2
  obtain ⟨a, ha, ea⟩ := so_P_in hP (show i < n by omega)
  obtain ⟨c, hc, ec⟩ := so_P_in hP h2
  rw [so_Rb_i, ea, ec, nI_toInt (by omega), nI_toInt (by omega)] at this
  have k1 := hk a ha
  have k2 := hk c hc
  rw [Nat.mod_eq_of_lt (show kf (nI a) < 2 ^ 8 from k1.2), Nat.mod_eq_of_lt (show kf (nI c) < 2 ^ 8 from k2.2)] at this
  rw [ea, ec]
  refine so_nt fun x => this ?_
  have := (so_Bk (ky := fun i => kf (nI i)) hn (fun i hi => (hk i hi).1) hc ha).1 x
  try dsimp only at this
  omega
end
