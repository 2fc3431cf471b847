section
variable {ρ : Nat → Nat} {e l : Nat → Int32} {lo hi : Nat → Nat}
theorem so_m1 {c : Nat} (hc : c < 2 ^ 31) : ¬ nI c = -1 := fun h => by
  have := congrArg Int32.toInt h
  rw [nI_toInt hc] at this
  have e9 : (-1 : Int32).toInt = -1 := by decide
  omega
/-- two stretches: apart, or one within a half of the other -/
def so_la (lo hi ρ : Nat → Nat) (v w : Nat) : Prop :=
  hi v ≤ lo w ∨ hi w ≤ lo v ∨ (lo v ≤ lo w ∧ hi w ≤ ρ v) ∨ (ρ v + 1 ≤ lo w ∧ hi w ≤ hi v) ∨ (lo w ≤ lo v ∧ hi v ≤ ρ w) ∨ (ρ w + 1 ≤ lo v ∧ hi v ≤ hi w)
/-- the tree of the first p places: each place with the stretch of ranks that comes to it -/
def so_T (n p : Nat) (ρ : Nat → Nat) (e l : Nat → Int32) (lo hi : Nat → Nat) : Prop :=
  (lo 0 = 0 ∧ hi 0 = n) ∧ (∀ v, v < p → lo v ≤ ρ v ∧ ρ v < hi v ∧ hi v ≤ n) ∧
  (∀ v, v < p → (e v = -1 ∧ ∀ u, u < p → ¬ (lo v ≤ ρ u ∧ ρ u < ρ v)) ∨ ∃ c, v < c ∧ c < p ∧ e v = nI c ∧ lo c = lo v ∧ hi c = ρ v) ∧
  (∀ v, v < p → (l v = -1 ∧ ∀ u, u < p → ¬ (ρ v < ρ u ∧ ρ u < hi v)) ∨ ∃ c, v < c ∧ c < p ∧ l v = nI c ∧ lo c = ρ v + 1 ∧ hi c = hi v) ∧
  (∀ v w, v < p → w < p → v ≠ w → so_la lo hi ρ v w) ∧ (∀ v, p ≤ v → v < n → e v = -1 ∧ l v = -1)
theorem so_T_1 {n : Nat} (hn : 0 < n) (hr : ρ 0 < n) (h1 : ∀ v, v < n → e v = -1 ∧ l v = -1) : so_T n 1 ρ e l (fun _ => 0) (fun _ => n) := by
  refine ⟨⟨rfl, rfl⟩, fun v hv => ?_, fun v hv => Or.inl ⟨(h1 v (by omega)).1, fun u hu => ?_⟩, fun v hv => Or.inl ⟨(h1 v (by omega)).2, fun u hu => ?_⟩, fun v w a b c => by omega, fun v a b => h1 v b⟩
  · have : v = 0 := by omega
    subst this; exact ⟨Nat.zero_le _, hr, Nat.le_refl _⟩
  · have e1 : v = 0 := by omega
    have e2 : u = 0 := by omega
    subst e1 e2; omega
  · have e1 : v = 0 := by omega
    have e2 : u = 0 := by omega
    subst e1 e2; omega
theorem so_T_e {n p v : Nat} (h : so_T n p ρ e l lo hi) (hv : v < p) (hp : p < n) (hn : n < 2 ^ 31) (h0 : 0 < p) (he : e v = -1) (h1 : lo v ≤ ρ p) (h2 : ρ p < ρ v) :
    so_T n (p + 1) ρ (upd e v (nI p)) l (so_pu lo p (lo v)) (so_pu hi p (ρ v)) := by
  obtain ⟨t0, t1, t2, t3, t4, t5⟩ := h
  have hcov : ∀ u, u < p → ¬ (lo v ≤ ρ u ∧ ρ u < ρ v) := by
    rcases t2 v hv with a | ⟨c, a1, a2, a3, _⟩
    · exact a.2
    · rw [he] at a3
      exact (so_m1 (by omega) a3.symm).elim
  have bv := t1 v hv
  refine ⟨⟨by rw [so_pu_n _ _ (by omega)]; exact t0.1, by rw [so_pu_n _ _ (by omega)]; exact t0.2⟩, fun w hw => ?_, fun w hw => ?_, fun w hw => ?_, fun a b ha hb hab => ?_, fun w a b => ?_⟩
  · by_cases c : w = p
    · subst c; rw [so_pu_r, so_pu_r]; omega
    · rw [so_pu_n _ _ c, so_pu_n _ _ c]; exact t1 w (by omega)
  · by_cases c : w = p
    · subst c
      left
      rw [so_uN (by omega), so_pu_r]
      refine ⟨(t5 w (by omega) hp).1, fun u hu => ?_⟩
      by_cases d : u = w
      · subst d; omega
      · have := hcov u (by omega); omega
    · by_cases d : w = v
      · subst d
        right
        refine ⟨p, hv, by omega, so_uS, ?_, ?_⟩
        · rw [so_pu_r, so_pu_n _ _ c]
        · rw [so_pu_r]
      · rw [so_uN d, so_pu_n _ _ c]
        have bw := t1 w (by omega)
        rcases t2 w (by omega) with ⟨a1, a2⟩ | ⟨x, a1, a2, a3, a4, a5⟩
        · refine Or.inl ⟨a1, fun u hu => ?_⟩
          by_cases f : u = p
          · subst f
            have q1 := t4 v w hv (by omega) (fun z => d z.symm)
            have q2 := hcov w (by omega)
            have q3 := a2 v hv
            unfold so_la at q1
            omega
          · exact a2 u (by omega)
        · refine Or.inr ⟨x, a1, by omega, a3, ?_, ?_⟩
          · rw [so_pu_n _ _ (by omega)]; exact a4
          · rw [so_pu_n _ _ (by omega)]; exact a5
  · by_cases c : w = p
    · subst c
      left
      rw [so_pu_r]
      refine ⟨(t5 w (by omega) hp).2, fun u hu => ?_⟩
      by_cases d : u = w
      · subst d; omega
      · have := hcov u (by omega); omega
    · rw [so_pu_n _ _ c]
      have bw := t1 w (by omega)
      rcases t3 w (by omega) with ⟨a1, a2⟩ | ⟨x, a1, a2, a3, a4, a5⟩
      · refine Or.inl ⟨a1, fun u hu => ?_⟩
        by_cases f : u = p
        · subst f
          by_cases d : w = v
          · subst d; omega
          · have q1 := t4 v w hv (by omega) (fun z => d z.symm)
            have q2 := hcov w (by omega)
            have q3 := a2 v hv
            unfold so_la at q1
            omega
        · exact a2 u (by omega)
      · refine Or.inr ⟨x, a1, by omega, a3, ?_, ?_⟩
        · rw [so_pu_n _ _ (by omega)]; exact a4
        · rw [so_pu_n _ _ (by omega)]; exact a5
  · have one : ∀ w, w < p → (ρ v ≤ lo w ∨ hi w ≤ lo v ∨ (lo w ≤ lo v ∧ ρ v ≤ ρ w) ∨ (ρ w + 1 ≤ lo v ∧ ρ v ≤ hi w)) := fun w hw => by
      by_cases d : w = v
      · subst d; omega
      · have q1 := t4 v w hv hw (fun z => d z.symm)
        have q2 := hcov w hw
        have bw := t1 w hw
        unfold so_la at q1
        omega
    unfold so_la
    by_cases ca : a = p
    · rw [ca, so_pu_r, so_pu_r, so_pu_n _ _ (by omega), so_pu_n _ _ (by omega)]
      have := one b (by omega); omega
    · by_cases cb : b = p
      · rw [cb, so_pu_r, so_pu_r, so_pu_n _ _ ca, so_pu_n _ _ ca]
        have := one a (by omega); omega
      · rw [so_pu_n _ _ ca, so_pu_n _ _ ca, so_pu_n _ _ cb, so_pu_n _ _ cb]
        exact t4 a b (by omega) (by omega) hab
  · rw [so_uN (by omega)]; exact t5 w (by omega) b
theorem so_T_l {n p v : Nat} (h : so_T n p ρ e l lo hi) (hv : v < p) (hp : p < n) (hn : n < 2 ^ 31) (h0 : 0 < p) (he : l v = -1) (h1 : ρ v < ρ p) (h2 : ρ p < hi v) :
    so_T n (p + 1) ρ e (upd l v (nI p)) (so_pu lo p (ρ v + 1)) (so_pu hi p (hi v)) := by
  obtain ⟨t0, t1, t2, t3, t4, t5⟩ := h
  have hcov : ∀ u, u < p → ¬ (ρ v < ρ u ∧ ρ u < hi v) := by
    rcases t3 v hv with a | ⟨c, a1, a2, a3, _⟩
    · exact a.2
    · rw [he] at a3
      exact (so_m1 (by omega) a3.symm).elim
  have bv := t1 v hv
  refine ⟨⟨by rw [so_pu_n _ _ (by omega)]; exact t0.1, by rw [so_pu_n _ _ (by omega)]; exact t0.2⟩, fun w hw => ?_, fun w hw => ?_, fun w hw => ?_, fun a b ha hb hab => ?_, fun w a b => ?_⟩
  · by_cases c : w = p
    · subst c; rw [so_pu_r, so_pu_r]; omega
    · rw [so_pu_n _ _ c, so_pu_n _ _ c]; exact t1 w (by omega)
  · by_cases c : w = p
    · subst c
      left
      rw [so_pu_r]
      refine ⟨(t5 w (by omega) hp).1, fun u hu => ?_⟩
      by_cases d : u = w
      · subst d; omega
      · have := hcov u (by omega); omega
    · rw [so_pu_n _ _ c]
      have bw := t1 w (by omega)
      rcases t2 w (by omega) with ⟨a1, a2⟩ | ⟨x, a1, a2, a3, a4, a5⟩
      · refine Or.inl ⟨a1, fun u hu => ?_⟩
        by_cases f : u = p
        · subst f
          by_cases d : w = v
          · subst d; omega
          · have q1 := t4 v w hv (by omega) (fun z => d z.symm)
            have q2 := hcov w (by omega)
            have q3 := a2 v hv
            unfold so_la at q1
            omega
        · exact a2 u (by omega)
      · refine Or.inr ⟨x, a1, by omega, a3, ?_, ?_⟩
        · rw [so_pu_n _ _ (by omega)]; exact a4
        · rw [so_pu_n _ _ (by omega)]; exact a5
  · by_cases c : w = p
    · subst c
      left
      rw [so_uN (by omega), so_pu_r]
      refine ⟨(t5 w (by omega) hp).2, fun u hu => ?_⟩
      by_cases d : u = w
      · subst d; omega
      · have := hcov u (by omega); omega
    · by_cases d : w = v
      · subst d
        right
        refine ⟨p, hv, by omega, so_uS, ?_, ?_⟩
        · rw [so_pu_r]
        · rw [so_pu_r, so_pu_n _ _ c]
      · rw [so_uN d, so_pu_n _ _ c]
        have bw := t1 w (by omega)
        rcases t3 w (by omega) with ⟨a1, a2⟩ | ⟨x, a1, a2, a3, a4, a5⟩
        · refine Or.inl ⟨a1, fun u hu => ?_⟩
          by_cases f : u = p
          · subst f
            have q1 := t4 v w hv (by omega) (fun z => d z.symm)
            have q2 := hcov w (by omega)
            have q3 := a2 v hv
            unfold so_la at q1
            omega
          · exact a2 u (by omega)
        · refine Or.inr ⟨x, a1, by omega, a3, ?_, ?_⟩
          · rw [so_pu_n _ _ (by omega)]; exact a4
          · rw [so_pu_n _ _ (by omega)]; exact a5
  · have one : ∀ w, w < p → (hi v ≤ lo w ∨ hi w ≤ ρ v + 1 ∨ (lo w ≤ ρ v + 1 ∧ hi v ≤ ρ w) ∨ (ρ w + 1 ≤ ρ v + 1 ∧ hi v ≤ hi w)) := fun w hw => by
      by_cases d : w = v
      · subst d; omega
      · have q1 := t4 v w hv hw (fun z => d z.symm)
        have q2 := hcov w hw
        have bw := t1 w hw
        unfold so_la at q1
        omega
    unfold so_la
    by_cases ca : a = p
    · rw [ca, so_pu_r, so_pu_r, so_pu_n _ _ (by omega), so_pu_n _ _ (by omega)]
      have := one b (by omega); omega
    · by_cases cb : b = p
      · rw [cb, so_pu_r, so_pu_r, so_pu_n _ _ ca, so_pu_n _ _ ca]
        have := one a (by omega); omega
      · rw [so_pu_n _ _ ca, so_pu_n _ _ ca, so_pu_n _ _ cb, so_pu_n _ _ cb]
        exact t4 a b (by omega) (by omega) hab
  · rw [so_uN (by omega)]; exact t5 w (by omega) b
/-- the whole tree -/
def so_F (n : Nat) (ρ : Nat → Nat) (e l : Nat → Int32) (lo hi : Nat → Nat) : Prop :=
  (lo 0 = 0 ∧ hi 0 = n) ∧ (∀ v, v < n → lo v ≤ ρ v ∧ ρ v < hi v ∧ hi v ≤ n) ∧
  (∀ v, v < n → (e v = -1 ∧ lo v = ρ v) ∨ ∃ c, c < n ∧ e v = nI c ∧ lo c = lo v ∧ hi c = ρ v) ∧
  (∀ v, v < n → (l v = -1 ∧ ρ v + 1 = hi v) ∨ ∃ c, c < n ∧ l v = nI c ∧ lo c = ρ v + 1 ∧ hi c = hi v)
theorem so_F_of {n : Nat} (h : so_T n n ρ e l lo hi) (hs : ∀ k, k < n → ∃ i, i < n ∧ ρ i = k) : so_F n ρ e l lo hi := by
  obtain ⟨t0, t1, t2, t3, t4, t5⟩ := h
  refine ⟨t0, t1, fun v hv => ?_, fun v hv => ?_⟩
  · have b := t1 v hv
    rcases t2 v hv with ⟨a1, a2⟩ | ⟨c, a1, a2, a3, a4, a5⟩
    · refine Or.inl ⟨a1, ?_⟩
      obtain ⟨u, hu, eu⟩ := hs (lo v) (by omega)
      have := a2 u hu
      omega
    · exact Or.inr ⟨c, a2, a3, a4, a5⟩
  · have b := t1 v hv
    rcases t3 v hv with ⟨a1, a2⟩ | ⟨c, a1, a2, a3, a4, a5⟩
    · refine Or.inl ⟨a1, ?_⟩
      by_cases z : ρ v + 1 < n
      · obtain ⟨u, hu, eu⟩ := hs (ρ v + 1) z
        have := a2 u hu
        omega
      · omega
    · exact Or.inr ⟨c, a2, a3, a4, a5⟩
def so_tp (n : Nat) (ρ t : Nat → Nat) : Nat → Nat
  | 0 => n
  | w + 1 => ρ (t w)
/-- the walk: node nd, w waiting, d done -/
def so_K (n : Nat) (ρ lo hi : Nat → Nat) (pe : Nat → Int32) (nd : Int32) (w d : Nat) (o : Nat → Int32) : Prop :=
  ∃ t : Nat → Nat, (∀ i, i < w → pe i = nI (t i) ∧ t i < n ∧ ρ (t i) + i < n ∧ hi (t i) = so_tp n ρ t i) ∧
    ((nd = -1 ∧ d = so_tp n ρ t w) ∨ ∃ v, v < n ∧ nd = nI v ∧ lo v = d ∧ hi v = so_tp n ρ t w) ∧ (∀ v, v < n → ρ v < d → o (ρ v) = nI v)
theorem so_K_0 {n : Nat} {pe o : Nat → Int32} (h : so_F n ρ e l lo hi) (hn : 0 < n) : so_K n ρ lo hi pe 0 0 0 o :=
  ⟨fun _ => 0, fun i hi => by omega, Or.inr ⟨0, hn, rfl, h.1.1, h.1.2⟩, fun v _ h => by omega⟩
theorem so_tp_x {n w : Nat} {t t' : Nat → Nat} (h : ∀ i, i < w → t i = t' i) : so_tp n ρ t w = so_tp n ρ t' w := by
  cases w with
  | zero => rfl
  | succ w => show ρ (t w) = ρ (t' w); rw [h w (by omega)]
theorem so_K_push {n w d v : Nat} {pe o : Nat → Int32} (hF : so_F n ρ e l lo hi) (hn : n < 2 ^ 31) (h : so_K n ρ lo hi pe (nI v) w d o) (hv : v < 2 ^ 31) :
    v < n ∧ w < n ∧ so_K n ρ lo hi (upd pe w (nI v)) (e v) (w + 1) d o := by
  obtain ⟨t, h1, h2, h3⟩ := h
  rcases h2 with ⟨a, _⟩ | ⟨v', a1, a2, a3, a4⟩
  · exact (so_m1 hv a).elim
  · have : v' = v := (nI_eq (by omega) hv).1 a2.symm
    subst this
    have b := hF.2.1 v' a1
    have hw : ρ v' + w < n := by
      cases w with
      | zero => omega
      | succ w =>
        have := (h1 w (by omega)).2.2.1
        have e4 : hi v' = ρ (t w) := a4
        omega
    refine ⟨a1, by omega, so_pu t w v', fun i hi => ?_, ?_, h3⟩
    · by_cases c : i = w
      · subst c
        rw [so_uS, so_pu_r]
        refine ⟨rfl, a1, hw, ?_⟩
        rw [a4]; exact so_tp_x (fun j hj => (so_pu_n _ _ (by omega)).symm)
      · rw [so_uN c, so_pu_n _ _ c]
        have := h1 i (by omega)
        refine ⟨this.1, this.2.1, this.2.2.1, ?_⟩
        rw [this.2.2.2]; exact so_tp_x (fun j hj => (so_pu_n _ _ (by omega)).symm)
    · have e5 : so_tp n ρ (so_pu t w v') (w + 1) = ρ v' := by show ρ (so_pu t w v' w) = ρ v'; rw [so_pu_r]
      rw [e5]
      rcases hF.2.2.1 v' a1 with ⟨x1, x2⟩ | ⟨c, x1, x2, x3, x4⟩
      · exact Or.inl ⟨x1, by omega⟩
      · exact Or.inr ⟨c, x1, x2, by omega, x4⟩
theorem so_K_pop {n w d : Nat} {pe o : Nat → Int32} (hF : so_F n ρ e l lo hi) (hi' : ∀ i j, i < n → j < n → ρ i = ρ j → i = j) (h : so_K n ρ lo hi pe (-1) (w + 1) d o) (hn : n < 2 ^ 31) :
    d < n ∧ w < n ∧ ∃ v, v < n ∧ pe w = nI v ∧ so_K n ρ lo hi pe (l v) w (d + 1) (upd o d (nI v)) := by
  obtain ⟨t, h1, h2, h3⟩ := h
  rcases h2 with ⟨_, a⟩ | ⟨v', a1, a2, _⟩
  · have q := h1 w (by omega)
    have ed : d = ρ (t w) := a
    refine ⟨by omega, by omega, t w, q.2.1, q.1, t, fun i hi => h1 i (by omega), ?_, fun v hv hd => ?_⟩
    · rw [← q.2.2.2]
      rcases hF.2.2.2 (t w) q.2.1 with ⟨x1, x2⟩ | ⟨c, x1, x2, x3, x4⟩
      · exact Or.inl ⟨x1, by omega⟩
      · exact Or.inr ⟨c, x1, x2, by omega, x4⟩
    · by_cases c : ρ v = d
      · have : v = t w := hi' v (t w) hv q.2.1 (by omega)
        rw [c, this]; exact so_uS
      · rw [so_uN c]; exact h3 v hv (by omega)
  · exact (so_m1 (by omega) a2.symm).elim
/-- at the last step nothing is left -/
theorem so_K_lt {n w d : Nat} {nd : Int32} {pe o : Nat → Int32} (hF : so_F n ρ e l lo hi) (h : so_K n ρ lo hi pe nd w d o) : (nd = -1 ∧ w = 0 ∧ d = n) ∨ 2 * d + w < 2 * n := by
  obtain ⟨t, h1, h2, h3⟩ := h
  cases w with
  | zero =>
    rcases h2 with ⟨a, b⟩ | ⟨v', a1, a2, a3, a4⟩
    · exact Or.inl ⟨a, rfl, b⟩
    · have b := hF.2.1 v' a1; omega
  | succ w =>
    have q := h1 w (by omega)
    have e6 : so_tp n ρ t (w + 1) = ρ (t w) := rfl
    rw [e6] at h2
    rcases h2 with ⟨a, b⟩ | ⟨v', a1, a2, a3, a4⟩
    · omega
    · have b := hF.2.1 v' a1; omega
theorem so_K_e {n w d : Nat} {nd : Int32} {pe o : Nat → Int32} (hF : so_F n ρ e l lo hi) (hr : ∀ i, i < n → ρ i < n) (h : so_K n ρ lo hi pe nd w d o) (hd : 2 * n ≤ 2 * d + w) : ∀ v, v < n → o (ρ v) = nI v := by
  rcases so_K_lt hF h with ⟨a, b, c⟩ | a
  · obtain ⟨t, h1, h2, h3⟩ := h
    exact fun v hv => h3 v hv (by have := hr v hv; omega)
  · omega
end
