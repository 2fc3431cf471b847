section
variable {A h sp rl rh st ec lc pe se le : Nat → Int32} {fc : Int32} {c : Nat}
theorem xsw1 {post : SX → Prop} {o : Nat → Int32} {i j : Nat} (hi : i < 40) (hj : j < 40) (K : post (nI c, A, so_w o i j, h, sp, rl, rh, st, ec, lc, pe, se, le)) :
    wpX_swap__firstOrder post (nI c, A, o, h, sp, rl, rh, st, ec, lc, pe, se, le) (nI i) (nI j) := by
  have ei : (nI i).toNatClampNeg = i := nI_clamp (by omega)
  have ej : (nI j).toNatClampNeg = j := nI_clamp (by omega)
  have vi : vp_in (nI i) 40 := vp_in_nI hi (by omega)
  have vj : vp_in (nI j) 40 := vp_in_nI hj (by omega)
  exact ⟨vi, nm_r (e' := o i) (by rw [ei]) ⟨vj, vi, nm_r (e' := upd o i (o j)) (by rw [ei, ej]) ⟨vj, nm_r (e' := so_w o i j) (by rw [ej]; rfl) K⟩⟩⟩
theorem xmv6_1 {post : SX → Prop} {o0 : Nat → Int32} {g s : Nat} (hc : c ≤ 40) (hg : 0 < g) (hg' : g ≤ 40) (hs : s < c)
    (K : ∀ o', so_P c o' → (g = 1 → so_S (so_B A) o0 0 s → so_S (so_B A) o' 0 (s + 1)) → post (nI c, A, o', h, sp, rl, rh, st, ec, lc, pe, se, le)) :
    ∀ (n k m : Nat) (o : Nat → Int32), c < n + m → m ≤ c → so_P c o → k < c → (g = 1 → so_S (so_B A) o0 0 s → so_I (so_B A) o k s ∧ k + m = s) →
    wX_moveForward__firstOrder_6 post (nI g) n (nI k) (nI m) (nI c) A o h sp rl rh st ec lc pe se le := by
  intro n
  induction n with
  | zero => intro k m o h1 h2; omega
  | succ n ih =>
    intro k m o h1 hm hP hk hI
    rw [wX_moveForward__firstOrder_6]
    have hB := so_BO A
    refine pk_le c m (fun e => K o hP (fun e1 e2 => ?_)) (fun e => pk_lt k g (fun e' => K o hP (fun e1 e2 => ?_)) (fun e' => ⟨vp_in_nI (by omega) (by omega), ?_⟩))
    · have := (hI e1 e2).2; omega
    · have h3 := (hI e1 e2).1
      have : k = 0 := by omega
      rw [this] at h3
      exact so_Ie0 h3
    · have e3 : nI k - nI g = nI (k - g) := pk_sub e'
      rw [e3, nI_clamp (n := k) (by omega), nI_clamp (n := k - g) (by omega)]
      refine ⟨vp_in_nI (by omega) (by omega), xb (so_P_v hP hc hk) (so_P_v hP hc (by omega)) (fun t => br_f xe_n10 (xsw1 (by omega) (by omega) ?_)) (fun f => br_t rfl (K o hP (fun e1 e2 => ?_)))⟩
      · refine nm_r rfl (nm_r (nI_1 m) (ih (k - g) (m + 1) _ (by omega) (by omega) (so_P_w hP hk (by omega)) (by omega) (fun e1 e2 => ?_)))
        obtain ⟨h3, h4⟩ := hI e1 e2
        obtain ⟨q, rfl⟩ : ∃ q, k = q + 1 := ⟨k - 1, by omega⟩
        have e5 : q + 1 - g = q := by omega
        rw [e5] at t ⊢
        exact ⟨so_Is hB h3 (by omega) t, by omega⟩
      · obtain ⟨h3, h4⟩ := hI e1 e2
        obtain ⟨q, rfl⟩ : ∃ q, k = q + 1 := ⟨k - 1, by omega⟩
        have e5 : q + 1 - g = q := by omega
        rw [e5] at f
        exact so_Ie hB h3 f
theorem xmv1 {post : SX → Prop} {o : Nat → Int32} {g s : Nat} (hc : c ≤ 40) (hg : 0 < g) (hg' : g ≤ 40) (hs : s < c) (hP : so_P c o)
    (K : ∀ o', so_P c o' → (g = 1 → so_S (so_B A) o 0 s → so_S (so_B A) o' 0 (s + 1)) → post (nI c, A, o', h, sp, rl, rh, st, ec, lc, pe, se, le)) :
    wpX_moveForward__firstOrder post (nI c, A, o, h, sp, rl, rh, st, ec, lc, pe, se, le) (nI s) (nI g) :=
  ⟨c + 1, xmv6_1 hc hg hg' hs K (c + 1) s 0 o (by omega) (by omega) hP hs (fun _ h2 => ⟨so_I0 h2, rfl⟩)⟩
theorem xin2_1 {post : SX → Prop} (hc : c ≤ 40) (K : ∀ o', so_P c o' → so_S (so_B A) o' 0 c → post (nI c, A, o', h, sp, rl, rh, st, ec, lc, pe, se, le)) :
    ∀ (n k : Nat) (o : Nat → Int32), 41 < n + k → k ≤ 41 → so_P c o → so_S (so_B A) o 0 k → wX_orderByInsertion__firstOrder_2 post n (nI k) (nI c) A o h sp rl rh st ec lc pe se le := by
  intro n
  induction n with
  | zero =>
    intro k o h1 h2 hP hS
    omega
  | succ n ih =>
    intro k o h1 h2 hP hS
    rw [wX_orderByInsertion__firstOrder_2]
    exact pk_le c k (fun e => K o hP (fun i j a b d => hS i j a b (by omega))) (fun e => xmv1 (g := 1) hc (by omega) (by omega) e hP (fun o' hP' hS' => nm_r (nI_1 k) (ih (k + 1) o' (by omega) (by omega) hP' (hS' rfl hS))))
theorem xin1 {post : SX → Prop} {o : Nat → Int32} (hc : c ≤ 40) (hP : so_P c o) (K : ∀ o', so_P c o' → so_S (so_B A) o' 0 c → post (nI c, A, o', h, sp, rl, rh, st, ec, lc, pe, se, le)) :
    wpX_orderByInsertion__firstOrder post (nI c, A, o, h, sp, rl, rh, st, ec, lc, pe, se, le) :=
  ⟨42, xin2_1 hc K 42 1 o (by omega) (by omega) hP (fun i j a b d => by omega)⟩
theorem xga13_1 {post : SX → Prop} {J : Int32 → Int32 → (Nat → Int32) → (Nat → Int32) → (Nat → Int32) → (Nat → Int32) → (Nat → Int32) → (Nat → Int32) → (Nat → Int32) → (Nat → Int32) → (Nat → Int32) → (Nat → Int32) → (Nat → Int32) → (Nat → Int32) → Prop} {g : Nat}
    (hc : c ≤ 40) (hg : 0 < g) (hg' : g ≤ 40) (K : ∀ o', so_P c o' → (g = 1 → so_S (so_B A) o' 0 c) → J (nI (g / 2)) (nI c) A o' h sp rl rh st ec lc pe se le) :
    ∀ (n k : Nat) (o : Nat → Int32), 41 < n + k → k ≤ 41 → so_P c o → (g = 1 → so_S (so_B A) o 0 k) → wX_orderByGaps__firstOrder_13 post J (nI g) n (nI k) (nI c) A o h sp rl rh st ec lc pe se le := by
  intro n
  induction n with
  | zero => intro k o h1 h2 hP hS; omega
  | succ n ih =>
    intro k o h1 h2 hP hS
    rw [wX_orderByGaps__firstOrder_13]
    exact pk_le c k (fun e => ⟨xe_n20, nm_r (pk_div (a := g) (d := 2) (by omega) (by omega) (by omega)) (K o hP (fun e1 i j a b d => hS e1 i j a b (by omega)))⟩)
      (fun e => xmv1 hc hg hg' e hP (fun o' hP' hS' => nm_r (nI_1 k) (ih (k + 1) o' (by omega) (by omega) hP' (fun e1 => hS' e1 (hS e1)))))
theorem xga7_1 {post : SX → Prop} (hc : c ≤ 40) (K : ∀ o', so_P c o' → so_S (so_B A) o' 0 c → post (nI c, A, o', h, sp, rl, rh, st, ec, lc, pe, se, le)) :
    ∀ (n g : Nat) (o : Nat → Int32), g < n → g ≤ 40 → so_P c o → (g = 0 → so_S (so_B A) o 0 c) → wX_orderByGaps__firstOrder_7 post n (nI g) (nI c) A o h sp rl rh st ec lc pe se le := by
  intro n
  induction n with
  | zero => intro g o h1; omega
  | succ n ih =>
    intro g o h1 h2 hP hS
    rw [wX_orderByGaps__firstOrder_7]
    refine pk_le g 0 (fun e => K o hP (hS (by omega))) (fun e => ⟨42, xga13_1 hc e h2 (fun o' hP' hS' => ih (g / 2) o' (by omega) (by omega) hP' (fun e1 => hS' (by omega))) 42 g o (by omega) (by omega) hP (fun e1 i j a b d => by omega)⟩)
theorem xga1 {post : SX → Prop} {o : Nat → Int32} (hc : c ≤ 40) (hP : so_P c o) (K : ∀ o', so_P c o' → so_S (so_B A) o' 0 c → post (nI c, A, o', h, sp, rl, rh, st, ec, lc, pe, se, le)) :
    wpX_orderByGaps__firstOrder post (nI c, A, o, h, sp, rl, rh, st, ec, lc, pe, se, le) :=
  ⟨xe_n20, nm_r (pk_div (a := c) (d := 2) (by omega) (by omega) (by omega)) ⟨c + 1, xga7_1 hc K (c + 1) (c / 2) o (by omega) (by omega) hP (fun e i j a b d => by omega)⟩⟩
theorem xse17_1 {post : SX → Prop} {J : Int32 → Int32 → (Nat → Int32) → (Nat → Int32) → (Nat → Int32) → (Nat → Int32) → (Nat → Int32) → (Nat → Int32) → (Nat → Int32) → (Nat → Int32) → (Nat → Int32) → (Nat → Int32) → (Nat → Int32) → (Nat → Int32) → Prop} {k : Nat} {o : Nat → Int32}
    (hc : c ≤ 40) (hk : k < c) (hP : so_P c o) (hS : so_Se (so_B A) o k c) (K : ∀ o', so_P c o' → so_Se (so_B A) o' (k + 1) c → J (nI (k + 1)) (nI c) A o' h sp rl rh st ec lc pe se le) :
    ∀ (n f j : Nat), c < n + j → j ≤ c → k ≤ j → k ≤ f → f < c → (∀ m, k ≤ m → m < j → so_B A (o m) (o f) = false) → wX_orderBySelection__firstOrder_17 post J (nI k) (nI c) A o h sp rl rh st ec lc pe se le n (nI f) (nI j) := by
  intro n
  induction n with
  | zero => intro f j h1 h2; omega
  | succ n ih =>
    intro f j h1 h2 hkj h3 h4 h5
    rw [wX_orderBySelection__firstOrder_17]
    refine pk_le c j (fun e => xsw1 (by omega) (by omega) (nm_r (nI_1 k) (K _ (so_P_w hP hk h4) (so_Se_s hS h3 h4 (fun m a b => h5 m a (by omega))))))
      (fun e => ⟨vp_in_nI (by omega) (by omega), vp_in_nI (by omega) (by omega), ?_⟩)
    rw [nI_clamp (n := j) (by omega), nI_clamp (n := f) (by omega)]
    exact xb (so_P_v hP hc e) (so_P_v hP hc h4) (fun t => br_f xe_n10 (nm_r (nI_1 j) (ih j (j + 1) (by omega) (by omega) (by omega) (by omega) e (so_Se_m (so_BO A) h5 t)))) (fun t => br_t rfl (nm_r (nI_1 j) (ih f (j + 1) (by omega) (by omega) (by omega) h3 h4 (so_Se_k h5 t))))
theorem xse2_1 {post : SX → Prop} (hc : c ≤ 40) (K : ∀ o', so_P c o' → so_S (so_B A) o' 0 c → post (nI c, A, o', h, sp, rl, rh, st, ec, lc, pe, se, le)) :
    ∀ (n k : Nat) (o : Nat → Int32), c < n + k → k ≤ c → so_P c o → so_Se (so_B A) o k c → wX_orderBySelection__firstOrder_2 post n (nI k) (nI c) A o h sp rl rh st ec lc pe se le := by
  intro n
  induction n with
  | zero => intro k o h1 h2; omega
  | succ n ih =>
    intro k o h1 h2 hP hS
    rw [wX_orderBySelection__firstOrder_2]
    refine pk_le c k (fun e => K o hP (so_Se_e hS e)) (fun e => nm_r (nI_1 k) ⟨c + 1, xse17_1 hc e hP hS (fun o' hP' hS' => ih (k + 1) o' (by omega) (by omega) hP' hS') (c + 1) k (k + 1) (by omega) (by omega) (by omega) (by omega) e (fun m a b => ?_)⟩)
    have : m = k := by omega
    rw [this]; exact (so_BO A).1 _
theorem xse1 {post : SX → Prop} {o : Nat → Int32} (hc : c ≤ 40) (hP : so_P c o) (K : ∀ o', so_P c o' → so_S (so_B A) o' 0 c → post (nI c, A, o', h, sp, rl, rh, st, ec, lc, pe, se, le)) :
    wpX_orderBySelection__firstOrder post (nI c, A, o, h, sp, rl, rh, st, ec, lc, pe, se, le) :=
  ⟨c + 1, xse2_1 hc K (c + 1) 0 o (by omega) (by omega) hP (fun i j a => by omega)⟩
theorem xop1 {post : SX → Prop} {o : Nat → Int32} {k : Nat} (hc : c ≤ 40) (hk : k + 1 < c) (hP : so_P c o) (K : post (nI c, A, so_pr (so_B A) o k, h, sp, rl, rh, st, ec, lc, pe, se, le)) :
    wpX_orderPair__firstOrder post (nI c, A, o, h, sp, rl, rh, st, ec, lc, pe, se, le) (nI k) := by
  refine ⟨by rw [nI_1]; exact vp_in_nI (by omega) (by omega), vp_in_nI (by omega) (by omega), ?_⟩
  rw [nI_1, nI_clamp (n := k + 1) (by omega), nI_clamp (n := k) (by omega)]
  refine xb (so_P_v hP hc hk) (so_P_v hP hc (by omega)) (fun t => br_f xe_n10 (xsw1 (by omega) (by omega) ?_)) (fun f => br_t rfl ?_)
  · rw [so_pr_t t] at K; exact K
  · rw [so_pr_f f] at K; exact K
theorem xbu13_1 {post : SX → Prop} {J : Int32 → Int32 → (Nat → Int32) → (Nat → Int32) → (Nat → Int32) → (Nat → Int32) → (Nat → Int32) → (Nat → Int32) → (Nat → Int32) → (Nat → Int32) → (Nat → Int32) → (Nat → Int32) → (Nat → Int32) → (Nat → Int32) → Prop} {l : Nat}
    (hc : c ≤ 40) (hl : l + 1 < c) (K : ∀ o', so_P c o' → so_Bu (so_B A) o' l c → J (nI l) (nI c) A o' h sp rl rh st ec lc pe se le) :
    ∀ (n k : Nat) (o : Nat → Int32), l + 1 < n + k → k ≤ l + 1 → so_P c o → so_Bu (so_B A) o (l + 1) c → (∀ i, i < k → so_B A (o k) (o i) = false) → wX_orderByBubbles__firstOrder_13 post J (nI (l + 1)) n (nI k) (nI c) A o h sp rl rh st ec lc pe se le := by
  intro n
  induction n with
  | zero => intro k o h1 h2; omega
  | succ n ih =>
    intro k o h1 h2 hP hS hi
    rw [wX_orderByBubbles__firstOrder_13]
    refine pk_le (l + 1) k (fun e => nm_r (pk_m1 l) (K o hP (so_Bu_s hS ?_))) (fun e => xop1 hc (by omega) hP (nm_r (nI_1 k) (ih (k + 1) _ (by omega) (by omega) (so_pr_P hP (by omega)) (so_Bu_p hS (by omega)) (so_Bu_i (so_BO A) hi))))
    have : k = l + 1 := by omega
    rw [← this]; exact hi
theorem xbu7_1 {post : SX → Prop} (hc : c ≤ 40) (K : ∀ o', so_P c o' → so_S (so_B A) o' 0 c → post (nI c, A, o', h, sp, rl, rh, st, ec, lc, pe, se, le)) :
    ∀ (n l : Nat) (o : Nat → Int32), l < n → l < c → so_P c o → so_Bu (so_B A) o l c → wX_orderByBubbles__firstOrder_7 post n (nI l) (nI c) A o h sp rl rh st ec lc pe se le := by
  intro n
  induction n with
  | zero => intro l o h1; omega
  | succ n ih =>
    intro l o h1 h2 hP hS
    rw [wX_orderByBubbles__firstOrder_7]
    cases l with
    | zero => exact pk_le 0 0 (fun e => K o hP (so_Bu_e hS)) (fun e => by omega)
    | succ l => exact pk_le (l + 1) 0 (fun e => by omega) (fun e => ⟨l + 2, xbu13_1 hc h2 (fun o' hP' hS' => ih l o' (by omega) (by omega) hP' hS') (l + 2) 0 o (by omega) (by omega) hP hS (fun i hi => by omega)⟩)
theorem xbu1 {post : SX → Prop} {o : Nat → Int32} (hc : c ≤ 40) (hP : so_P c o) (K : ∀ o', so_P c o' → so_S (so_B A) o' 0 c → post (nI c, A, o', h, sp, rl, rh, st, ec, lc, pe, se, le)) :
    wpX_orderByBubbles__firstOrder post (nI c, A, o, h, sp, rl, rh, st, ec, lc, pe, se, le) := by
  cases c with
  | zero => exact nm_e ⟨1, br_t (by decide) (K o hP (fun i j a b d => by omega))⟩
  | succ c => exact nm_r (nI_pred c) ⟨c + 1, xbu7_1 hc K (c + 1) c o (by omega) (by omega) hP (so_Bu_0 (by omega))⟩
theorem xod14_1 {post : SX → Prop} {J : Int32 → Int32 → (Nat → Int32) → (Nat → Int32) → (Nat → Int32) → (Nat → Int32) → (Nat → Int32) → (Nat → Int32) → (Nat → Int32) → (Nat → Int32) → (Nat → Int32) → (Nat → Int32) → (Nat → Int32) → (Nat → Int32) → Prop} {r : Nat} {o0 : Nat → Int32}
    (hc : c ≤ 40) (hr : r < c) (hA : so_A (so_B A) c r o0) (K : ∀ o', so_P c o' → so_A (so_B A) c (r + 1) o' → J (nI (r + 1)) (nI c) A o' h sp rl rh st ec lc pe se le) :
    ∀ (n k : Nat) (o : Nat → Int32), c < n + k → k ≤ c → so_P c o → so_oe (so_B A) o0 o r k → k % 2 = r % 2 → wX_orderByOddEven__firstOrder_14 post J (nI r) n (nI k) (nI c) A o h sp rl rh st ec lc pe se le := by
  intro n
  induction n with
  | zero => intro k o h1 h2; omega
  | succ n ih =>
    intro k o h1 h2 hP hS hk
    rw [wX_orderByOddEven__firstOrder_14]
    have ec1 : nI c - 1 = nI (c - 1) := by
      obtain ⟨d, rfl⟩ : ∃ d, c = d + 1 := ⟨c - 1, by omega⟩
      exact nI_pred d
    refine pk_le (c - 1) k (fun e => nm_r (nI_1 r) (K o hP (so_A_s hA hS hk h2 (by omega)))) (fun e => xop1 hc (by omega) hP (nm_r (nI_add k 2) (ih (k + 2) _ (by omega) (by omega) (so_pr_P hP (by omega)) (so_oe_s (so_BO A) hS hk) (by omega)))) ec1
theorem xod2_1 {post : SX → Prop} (hc : c ≤ 40) (K : ∀ o', so_P c o' → so_S (so_B A) o' 0 c → post (nI c, A, o', h, sp, rl, rh, st, ec, lc, pe, se, le)) :
    ∀ (n r : Nat) (o : Nat → Int32), c < n + r → r ≤ c → so_P c o → so_A (so_B A) c r o → wX_orderByOddEven__firstOrder_2 post n (nI r) (nI c) A o h sp rl rh st ec lc pe se le := by
  intro n
  induction n with
  | zero => intro r o h1 h2; omega
  | succ n ih =>
    intro r o h1 h2 hP hS
    rw [wX_orderByOddEven__firstOrder_2]
    refine pk_le c r (fun e => K o hP (so_A_e (so_BO A) ?_)) (fun e => ⟨xe_n20, nm_r (pk_rem (a := r) (d := 2) (by omega) (by omega) (by omega)) ⟨c + 1, xod14_1 hc e hS (fun o' hP' hS' => ih (r + 1) o' (by omega) (by omega) hP' hS') (c + 1) (r % 2) o (by omega) (by omega) hP (so_oe_0 r (r % 2) (by omega)) (by omega)⟩⟩)
    have : r = c := by omega
    rw [this] at hS; exact hS
theorem xod1 {post : SX → Prop} {o : Nat → Int32} (hc : c ≤ 40) (hP : so_P c o) (K : ∀ o', so_P c o' → so_S (so_B A) o' 0 c → post (nI c, A, o', h, sp, rl, rh, st, ec, lc, pe, se, le)) :
    wpX_orderByOddEven__firstOrder post (nI c, A, o, h, sp, rl, rh, st, ec, lc, pe, se, le) :=
  ⟨c + 1, xod2_1 hc K (c + 1) 0 o (by omega) (by omega) hP (so_A_0 c o)⟩
end
