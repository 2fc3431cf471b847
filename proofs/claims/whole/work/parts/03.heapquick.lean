section
variable {B : Int32 → Int32 → Bool} {o : Nat → Int32}
/-- within the window lo .. hi - 1 only places of the window have moved -/
def so_W (lo hi : Nat) (o0 o : Nat → Int32) : Prop :=
  (∀ m, m < lo ∨ hi ≤ m → o m = o0 m) ∧ (∀ j, lo ≤ j → j < hi → ∃ j', lo ≤ j' ∧ j' < hi ∧ o j = o0 j')
theorem so_W_r (lo hi : Nat) (o : Nat → Int32) : so_W lo hi o o := ⟨fun _ _ => rfl, fun j h1 h2 => ⟨j, h1, h2, rfl⟩⟩
theorem so_W_w {lo hi a b : Nat} {o0 : Nat → Int32} (h : so_W lo hi o0 o) (ha : lo ≤ a) (ha' : a < hi) (hb : lo ≤ b) (hb' : b < hi) : so_W lo hi o0 (so_w o a b) := by
  refine ⟨fun m hm => ?_, fun j h1 h2 => ?_⟩
  · rw [so_wn o (by omega) (by omega)]; exact h.1 m hm
  · by_cases c : j = a
    · subst c; rw [so_wi]; exact h.2 b hb hb'
    · by_cases d : j = b
      · subst d; rw [so_wj]; exact h.2 a ha ha'
      · rw [so_wn o c d]; exact h.2 j h1 h2
theorem so_Bu_W {lo hi last n : Nat} {o0 : Nat → Int32} (h : so_Bu B o0 last n) (hw : so_W lo hi o0 o) (hh : hi ≤ last + 1) : so_Bu B o last n := by
  intro i j h1 h2 h3
  rw [hw.1 j (by omega)]
  by_cases c : lo ≤ i ∧ i < hi
  · obtain ⟨i', a1, a2, e⟩ := hw.2 i c.1 c.2
    rw [e]; exact h i' j h1 h2 (by omega)
  · rw [hw.1 i (by omega)]; exact h i j h1 h2 h3

/-- a heap from lo on, within hi -/
def so_Hf (B : Int32 → Int32 → Bool) (o : Nat → Int32) (lo hi : Nat) : Prop := ∀ c, 0 < c → c < hi → lo ≤ (c - 1) / 2 → B (o ((c - 1) / 2)) (o c) = false
/-- the same, but for what hangs below x -/
def so_Hx (B : Int32 → Int32 → Bool) (o : Nat → Int32) (lo hi x : Nat) : Prop :=
  (∀ c, 0 < c → c < hi → lo ≤ (c - 1) / 2 → (c - 1) / 2 ≠ x → B (o ((c - 1) / 2)) (o c) = false) ∧
  (∀ c, 0 < x → lo ≤ (x - 1) / 2 → 0 < c → c < hi → (c - 1) / 2 = x → B (o ((x - 1) / 2)) (o c) = false)
theorem so_Hx_0 {x hi : Nat} (h : so_Hf B o (x + 1) hi) : so_Hx B o x hi x :=
  ⟨fun c h1 h2 h3 h4 => h c h1 h2 (by omega), fun c h1 h2 => by omega⟩
theorem so_Hx_e {lo hi x : Nat} (h : so_Hx B o lo hi x) (hc : ∀ c, 0 < c → c < hi → (c - 1) / 2 = x → B (o x) (o c) = false) : so_Hf B o lo hi := by
  intro c h1 h2 h3
  by_cases e : (c - 1) / 2 = x
  · rw [e]; exact hc c h1 h2 e
  · exact h.1 c h1 h2 h3 e
theorem so_Hx_s (hB : so_O B) {lo hi x y : Nat} (h : so_Hx B o lo hi x) (hx : lo ≤ x) (hy : (y - 1) / 2 = x) (hy0 : 0 < y) (hyh : y < hi) (hb : B (o x) (o y) = true)
    (hg : ∀ c, 0 < c → c < hi → (c - 1) / 2 = x → B (o y) (o c) = false) : so_Hx B (so_w o x y) lo hi y := by
  refine ⟨fun c h1 h2 h3 h4 => ?_, fun c h1 h2 h3 h4 h5 => ?_⟩
  · by_cases c1 : c = x
    · have e1 : (c - 1) / 2 ≠ x := by omega
      have e2 : (c - 1) / 2 ≠ y := by omega
      rw [so_wn o e1 e2, c1, so_wi]
      rw [c1] at h1 h3
      exact h.2 y h1 h3 hy0 hyh hy
    · by_cases c2 : c = y
      · rw [c2, hy, so_wi, so_wj]
        exact so_as hB hb
      · rw [so_wn o c1 c2]
        by_cases e : (c - 1) / 2 = x
        · rw [e, so_wi]; exact hg c h1 h2 e
        · rw [so_wn o e h4]; exact h.1 c h1 h2 h3 e
  · rw [hy, so_wi, so_wn o (m := c) (by omega) (by omega)]
    have := h.1 c h3 h4 (by omega) (by omega)
    rw [h5] at this
    exact this
theorem so_Hf_max (hB : so_O B) {hi : Nat} (h : so_Hf B o 0 hi) : ∀ c, c < hi → B (o 0) (o c) = false := by
  intro c
  induction c using Nat.strongRecOn with
  | ind c ih =>
    intro hc
    by_cases e : c = 0
    · subst e; exact hB.1 _
    · exact so_tr hB (h c (by omega) hc (by omega)) (ih ((c - 1) / 2) (by omega) (by omega))
theorem so_Hf_out (hB : so_O B) {e n : Nat} (h : so_Hf B o 0 (e + 2)) (hu : so_Bu B o (e + 1) n) : so_Hf B (so_w o 0 (e + 1)) 1 (e + 1) ∧ so_Bu B (so_w o 0 (e + 1)) e n := by
  refine ⟨fun c h1 h2 h3 => ?_, so_Bu_s (so_Bu_w hu (by omega) (by omega)) (fun i hi => ?_)⟩
  · rw [so_wn o (by omega) (by omega), so_wn o (by omega) (by omega)]
    exact h c h1 (by omega) (by omega)
  · rw [so_wj]
    by_cases c : i = 0
    · subst c; rw [so_wi]; exact so_Hf_max hB h _ (by omega)
    · rw [so_wn o c (by omega)]; exact so_Hf_max hB h _ (by omega)
theorem so_Hf_0 {n lo : Nat} (h : n ≤ 2 * lo + 1) : so_Hf B o lo n := fun c h1 h2 h3 => by omega

/-- partition: below b before the one at hi, from b to k not -/
def so_pa (B : Int32 → Int32 → Bool) (o : Nat → Int32) (lo b k hi : Nat) : Prop :=
  lo ≤ b ∧ b ≤ k ∧ k ≤ hi ∧ (∀ i, lo ≤ i → i < b → B (o i) (o hi) = true) ∧ (∀ i, b ≤ i → i < k → B (o i) (o hi) = false)
theorem so_pa_0 {lo hi : Nat} (h : lo ≤ hi) : so_pa B o lo lo lo hi := ⟨by omega, by omega, h, fun i h1 h2 => by omega, fun i h1 h2 => by omega⟩
theorem so_pa_t {lo b k hi : Nat} (h : so_pa B o lo b k hi) (hk : k < hi) (hb : B (o k) (o hi) = true) : so_pa B (so_w o b k) lo (b + 1) (k + 1) hi := by
  obtain ⟨h1, h2, h3, h4, h5⟩ := h
  refine ⟨by omega, by omega, by omega, fun i a1 a2 => ?_, fun i a1 a2 => ?_⟩
  · rw [so_wn o (m := hi) (by omega) (by omega)]
    by_cases c : i = b
    · subst c; rw [so_wi]; exact hb
    · rw [so_wn o c (by omega)]; exact h4 i a1 (by omega)
  · rw [so_wn o (m := hi) (by omega) (by omega)]
    by_cases c : i = k
    · subst c; rw [so_wj]; exact h5 b (by omega) (by omega)
    · rw [so_wn o (by omega) c]; exact h5 i (by omega) (by omega)
theorem so_pa_f {lo b k hi : Nat} (h : so_pa B o lo b k hi) (hk : k < hi) (hb : B (o k) (o hi) = false) : so_pa B o lo b (k + 1) hi := by
  obtain ⟨h1, h2, h3, h4, h5⟩ := h
  refine ⟨by omega, by omega, by omega, h4, fun i a1 a2 => ?_⟩
  by_cases c : i = k
  · subst c; exact hb
  · exact h5 i a1 (by omega)
/-- parted at b -/
def so_pd (B : Int32 → Int32 → Bool) (o : Nat → Int32) (lo b hi : Nat) : Prop :=
  lo ≤ b ∧ b ≤ hi ∧ (∀ i, lo ≤ i → i < b → B (o b) (o i) = false) ∧ (∀ i, b < i → i ≤ hi → B (o i) (o b) = false)
theorem so_pa_e (hB : so_O B) {lo b hi : Nat} (h : so_pa B o lo b hi hi) : so_pd B (so_w o b hi) lo b hi := by
  obtain ⟨h1, h2, h3, h4, h5⟩ := h
  refine ⟨h1, h2, fun i a1 a2 => ?_, fun i a1 a2 => ?_⟩
  · rw [so_wi, so_wn o (by omega) (by omega)]
    exact so_as hB (h4 i a1 a2)
  · rw [so_wi]
    by_cases c : i = hi
    · subst c; rw [so_wj]; exact h5 b (by omega) (by omega)
    · rw [so_wn o (by omega) c]; exact h5 i (by omega) (by omega)
/-- the waiting ranges -/
def so_Qs (n : Nat) (l h : Nat → Nat) (r : Nat) : Prop := (∀ t, t < r → l t < h t ∧ h t < n) ∧ (∀ s t, s < t → t < r → h s < l t)
def so_Qp (B : Int32 → Int32 → Bool) (n : Nat) (o : Nat → Int32) (l h : Nat → Nat) (r : Nat) (E : Nat → Nat → Prop) : Prop :=
  ∀ i j, i < j → j < n → B (o j) (o i) = false ∨ (∃ t, t < r ∧ l t ≤ i ∧ j ≤ h t) ∨ E i j
def so_pu (f : Nat → Nat) (r a : Nat) : Nat → Nat := fun t => if t = r then a else f t
theorem so_pu_r (f : Nat → Nat) (r a : Nat) : so_pu f r a r = a := if_pos rfl
theorem so_pu_n (f : Nat → Nat) {r t : Nat} (a : Nat) (h : t ≠ r) : so_pu f r a t = f t := if_neg h
def so_sm (l h : Nat → Nat) : Nat → Nat
  | 0 => 0
  | r + 1 => so_sm l h r + (h r - l r)
theorem so_sm_x {l h l' h' : Nat → Nat} {r : Nat} (e : ∀ t, t < r → l t = l' t ∧ h t = h' t) : so_sm l h r = so_sm l' h' r := by
  induction r with
  | zero => rfl
  | succ r ih =>
    show so_sm l h r + (h r - l r) = so_sm l' h' r + (h' r - l' r)
    rw [ih (fun t ht => e t (by omega)), (e r (by omega)).1, (e r (by omega)).2]
theorem so_sm_r {n : Nat} {l h : Nat → Nat} {r : Nat} (hs : so_Qs n l h r) : r ≤ so_sm l h r := by
  induction r with
  | zero => exact Nat.le_refl _
  | succ r ih =>
    have h1 := ih ⟨fun t ht => hs.1 t (by omega), fun s t a b => hs.2 s t a (by omega)⟩
    have h2 := hs.1 r (by omega)
    show r + 1 ≤ so_sm l h r + (h r - l r)
    omega
theorem so_Qs_less {n : Nat} {l h : Nat → Nat} {r : Nat} (hs : so_Qs n l h (r + 1)) : so_Qs n l h r :=
  ⟨fun t ht => hs.1 t (by omega), fun s t a b => hs.2 s t a (by omega)⟩
theorem so_Qs_push {n : Nat} {l h : Nat → Nat} {r a c : Nat} (hs : so_Qs n l h r) (hac : a < c) (hc : c < n) (hl : ∀ t, t < r → h t < a) :
    so_Qs n (so_pu l r a) (so_pu h r c) (r + 1) := by
  refine ⟨fun t ht => ?_, fun s t h1 h2 => ?_⟩
  · by_cases e : t = r
    · subst e; rw [so_pu_r, so_pu_r]; exact ⟨hac, hc⟩
    · rw [so_pu_n _ _ e, so_pu_n _ _ e]; exact hs.1 t (by omega)
  · rw [so_pu_n h c (t := s) (by omega)]
    by_cases e : t = r
    · subst e; rw [so_pu_r]; exact hl s (by omega)
    · rw [so_pu_n _ _ e]; exact hs.2 s t h1 (by omega)
theorem so_sm_push (l h : Nat → Nat) (r a c : Nat) : so_sm (so_pu l r a) (so_pu h r c) (r + 1) = so_sm l h r + (c - a) := by
  show so_sm (so_pu l r a) (so_pu h r c) r + (so_pu h r c r - so_pu l r a r) = so_sm l h r + (c - a)
  rw [so_pu_r, so_pu_r, so_sm_x (l' := l) (h' := h) (fun t ht => ⟨so_pu_n _ _ (by omega), so_pu_n _ _ (by omega)⟩)]
theorem so_Qp_push {n : Nat} {l h : Nat → Nat} {r a c : Nat} {E : Nat → Nat → Prop} (hp : so_Qp B n o l h r (fun i j => (a ≤ i ∧ j ≤ c) ∨ E i j)) :
    so_Qp B n o (so_pu l r a) (so_pu h r c) (r + 1) E := by
  intro i j h1 h2
  rcases hp i j h1 h2 with x | ⟨t, x1, x2, x3⟩ | x | x
  · exact Or.inl x
  · exact Or.inr (Or.inl ⟨t, by omega, by rw [so_pu_n _ _ (by omega)]; exact x2, by rw [so_pu_n _ _ (by omega)]; exact x3⟩)
  · exact Or.inr (Or.inl ⟨r, by omega, by rw [so_pu_r]; exact x.1, by rw [so_pu_r]; exact x.2⟩)
  · exact Or.inr (Or.inr x)
theorem so_Qp_no {n : Nat} {l h : Nat → Nat} {r a c : Nat} {E : Nat → Nat → Prop} (hp : so_Qp B n o l h r (fun i j => (a ≤ i ∧ j ≤ c) ∨ E i j)) (hac : c ≤ a) :
    so_Qp B n o l h r E := by
  intro i j h1 h2
  rcases hp i j h1 h2 with x | x | x | x
  · exact Or.inl x
  · exact Or.inr (Or.inl x)
  · omega
  · exact Or.inr (Or.inr x)
theorem so_Qp_part (hB : so_O B) {n : Nat} {l h : Nat → Nat} {r b : Nat} {o0 : Nat → Int32} (hs : so_Qs n l h (r + 1)) (hp : so_Qp B n o0 l h (r + 1) (fun _ _ => False))
    (hw : so_W (l r) (h r + 1) o0 o) (hd : so_pd B o (l r) b (h r)) :
    so_Qp B n o l h r (fun i j => (l r ≤ i ∧ j ≤ b - 1) ∨ ((b + 1 ≤ i ∧ j ≤ h r) ∨ False)) := by
  obtain ⟨d1, d2, d3, d4⟩ := hd
  have hn : ∀ t, t < r → h t < l r := fun t ht => hs.2 t r ht (by omega)
  have hr := hs.1 r (by omega)
  intro i j h1 h2
  by_cases ci : l r ≤ i ∧ i ≤ h r
  · by_cases cj : l r ≤ j ∧ j ≤ h r
    · by_cases x : j < b
      · exact Or.inr (Or.inr (Or.inl ⟨ci.1, by omega⟩))
      · by_cases y : b < i
        · exact Or.inr (Or.inr (Or.inr (Or.inl ⟨by omega, cj.2⟩)))
        · left
          by_cases z : i = b
          · subst z; exact d4 j (by omega) cj.2
          · have e1 := d3 i ci.1 (by omega)
            by_cases z' : j = b
            · subst z'; exact e1
            · exact so_tr hB e1 (d4 j (by omega) cj.2)
    · left
      obtain ⟨i', a1, a2, e⟩ := hw.2 i ci.1 (by omega)
      rw [hw.1 j (by omega), e]
      rcases hp i' j (by omega) h2 with x | ⟨t, x1, x2, x3⟩ | x
      · exact x
      · by_cases et : t = r
        · subst et; omega
        · have := hn t (by omega); omega
      · exact x.elim
  · by_cases cj : l r ≤ j ∧ j ≤ h r
    · left
      obtain ⟨j', a1, a2, e⟩ := hw.2 j cj.1 (by omega)
      rw [hw.1 i (by omega), e]
      rcases hp i j' (by omega) (by omega) with x | ⟨t, x1, x2, x3⟩ | x
      · exact x
      · by_cases et : t = r
        · subst et; omega
        · have := hn t (by omega); omega
      · exact x.elim
    · rw [hw.1 i (by omega), hw.1 j (by omega)]
      rcases hp i j h1 h2 with x | ⟨t, x1, x2, x3⟩ | x
      · exact Or.inl x
      · by_cases et : t = r
        · subst et; omega
        · exact Or.inr (Or.inl ⟨t, by omega, x2, x3⟩)
      · exact x.elim
theorem so_Qp_e {n : Nat} {l h : Nat → Nat} (hp : so_Qp B n o l h 0 (fun _ _ => False)) : so_S B o 0 n := by
  intro i j _ h1 h2
  rcases hp i j h1 h2 with x | ⟨t, x, _⟩ | x
  · exact x
  · omega
  · exact x.elim
end
