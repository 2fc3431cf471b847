section
variable {A h sp rl rh st ec lc pe se le : Nat → Int32} {fc : Int32} {c : Nat}
theorem xcp3_1 {post : SX → Prop} {b : Nat} (hb : b ≤ 40) {a : Nat} {o : Nat → Int32} (K : post (nI c, A, so_cp o sp a b, h, sp, rl, rh, st, ec, lc, pe, se, le)) : ∀ n k : Nat, b < n + k → a ≤ k → k ≤ b →
    wX_copyRange__spare_firstOrder_3 post (nI b) (nI c) n (nI k) A (so_cp o sp a k) h sp rl rh st ec lc pe se le := by
  intro n
  induction n with
  | zero => intro k h1 h2; omega
  | succ n ih =>
    intro k h1 h2 h3
    rw [wX_copyRange__spare_firstOrder_3]
    have ck : (nI k).toNatClampNeg = k := nI_clamp (by omega)
    refine pk_le b k (fun e => ?_) (fun e => ⟨vp_in_nI (by omega) (by omega), vp_in_nI (by omega) (by omega), nm_r (e' := so_cp o sp a (k + 1)) (by rw [ck, so_cp_s o sp h2]) (nm_r (nI_1 k) (ih (k + 1) (by omega) (by omega) (by omega)))⟩)
    have : k = b := by omega
    rw [this]; exact K
theorem xcp1 {post : SX → Prop} {o : Nat → Int32} {a b : Nat} (hab : a ≤ b) (hb : b ≤ 40) (K : post (nI c, A, so_cp o sp a b, h, sp, rl, rh, st, ec, lc, pe, se, le)) :
    wpX_copyRange__spare_firstOrder post (nI c, A, o, h, sp, rl, rh, st, ec, lc, pe, se, le) (nI a) (nI b) := by
  refine ⟨b + 1, ?_⟩
  have h2 := xcp3_1 hb K (b + 1) a (by omega) (by omega) hab
  rw [so_cp_0] at h2
  exact h2
theorem xme92_1 {post : SX → Prop} {o : Nat → Int32} {J : Int32 → Int32 → Int32 → (Nat → Int32) → (Nat → Int32) → (Nat → Int32) → (Nat → Int32) → (Nat → Int32) → (Nat → Int32) → (Nat → Int32) → (Nat → Int32) → (Nat → Int32) → (Nat → Int32) → (Nat → Int32) → (Nat → Int32) → Prop} {x2 x4 x5 x7 : Int32} {l k : Nat}
    (hl : l < 40) (hk : k < 40) (K : J (nI (l + 1)) x7 (nI (k + 1)) A o h (upd sp k (o l)) rl rh st ec lc pe se le) : wX_mergeRuns__firstOrder_92 post J x2 x4 x5 (nI l) x7 (nI k) (nI c) A o h sp rl rh st ec lc pe se le := by
  have el : (nI l).toNatClampNeg = l := nI_clamp (by omega)
  have ek : (nI k).toNatClampNeg = k := nI_clamp (by omega)
  exact ⟨vp_in_nI hl (by omega), vp_in_nI hk (by omega), nm_r (e' := upd sp k (o l)) (by rw [el, ek]) (nm_r (nI_1 l) (nm_r (nI_1 k) K))⟩
theorem xme109_1 {post : SX → Prop} {o : Nat → Int32} {J : Int32 → Int32 → Int32 → (Nat → Int32) → (Nat → Int32) → (Nat → Int32) → (Nat → Int32) → (Nat → Int32) → (Nat → Int32) → (Nat → Int32) → (Nat → Int32) → (Nat → Int32) → (Nat → Int32) → (Nat → Int32) → (Nat → Int32) → Prop} {x2 x4 x5 x6 : Int32} {r k : Nat}
    (hr : r < 40) (hk : k < 40) (K : J x6 (nI (r + 1)) (nI (k + 1)) A o h (upd sp k (o r)) rl rh st ec lc pe se le) : wX_mergeRuns__firstOrder_109 post J x2 x4 x5 x6 (nI r) (nI k) (nI c) A o h sp rl rh st ec lc pe se le := by
  have er : (nI r).toNatClampNeg = r := nI_clamp (by omega)
  have ek : (nI k).toNatClampNeg = k := nI_clamp (by omega)
  exact ⟨vp_in_nI hr (by omega), vp_in_nI hk (by omega), nm_r (e' := upd sp k (o r)) (by rw [er, ek]) (nm_r (nI_1 r) (nm_r (nI_1 k) K))⟩
theorem xme56_1 {post : SX → Prop} {o : Nat → Int32} {lo mi hi : Nat} (hc : c ≤ 40) (hhi : hi ≤ c) (hP : so_P c o) (s1 : so_S (so_B A) o lo mi) (s2 : so_S (so_B A) o mi hi)
    (K : ∀ o' s', so_P c o' → so_S (so_B A) o' lo hi → (∀ m, m < lo ∨ hi ≤ m → o' m = o m) → post (nI c, A, o', h, s', rl, rh, st, ec, lc, pe, se, le)) :
    ∀ (n l r k : Nat) (s : Nat → Int32), hi < n + k → k ≤ hi → so_m (so_B A) o lo mi hi l r k s → wX_mergeRuns__firstOrder_56 post (nI lo) (nI mi) (nI hi) (nI c) n (nI l) (nI r) (nI k) A o h s rl rh st ec lc pe se le := by
  intro n
  induction n with
  | zero => intro l r k s h1 h2; omega
  | succ n ih =>
    intro l r k s h1 h2 hm
    rw [wX_mergeRuns__firstOrder_56]
    have hB := so_BO A
    obtain ⟨m1, m2, m3, m4, m5, _⟩ := id hm
    refine pk_le hi k (fun e => ?_) (fun e => pk_le hi r (fun e2 => xme92_1 (by omega) (by omega) (ih (l + 1) r (k + 1) _ (by omega) (by omega) (so_m_l hB hm s1 s2 (by omega) (Or.inl e2))))
      (fun e2 => pk_le mi l (fun e3 => xme109_1 (by omega) (by omega) (ih l (r + 1) (k + 1) _ (by omega) (by omega) (so_m_r hB hm s1 s2 e2 (Or.inl e3)))) (fun e3 => ⟨vp_in_nI (by omega) (by omega), vp_in_nI (by omega) (by omega), ?_⟩)))
    · have ek : k = hi := by omega
      rw [ek] at hm
      have hq := so_m_e hm hhi hP
      exact xcp1 (by omega) (by omega) (K _ s hq.1 hq.2 (fun m a => so_cp_o o s a))
    · rw [nI_clamp (n := l) (by omega), nI_clamp (n := r) (by omega)]
      exact xb (so_P_v hP hc (by omega)) (so_P_v hP hc (by omega)) (fun t => br_f xe_n10 (xme92_1 (by omega) (by omega) (ih (l + 1) r (k + 1) _ (by omega) (by omega) (so_m_l hB hm s1 s2 e3 (Or.inr t)))))
        (fun f => br_t rfl (xme109_1 (by omega) (by omega) (ih l (r + 1) (k + 1) _ (by omega) (by omega) (so_m_r hB hm s1 s2 e2 (Or.inr f)))))
theorem xme20_1 {post : SX → Prop} {o : Nat → Int32} {lo mi w : Nat} (hc : c ≤ 40) (hw : w ≤ 80) (hlo : lo ≤ mi) (hmi : mi ≤ c) (hP : so_P c o) (s1 : so_S (so_B A) o lo mi) (s2 : so_G (so_B A) o mi (mi + w) c)
    (K : ∀ o' s' hi, (hi = c ∧ c ≤ mi + w ∨ hi = mi + w ∧ mi + w < c) → so_P c o' → so_S (so_B A) o' lo hi → (∀ m, m < lo ∨ hi ≤ m → o' m = o m) → post (nI c, A, o', h, s', rl, rh, st, ec, lc, pe, se, le)) :
    wX_mergeRuns__firstOrder_20 post (nI lo) (nI w) (nI mi) (nI c) A o h sp rl rh st ec lc pe se le := by
  refine pk_le c (mi + w) (fun e => ⟨c + 1, xme56_1 hc (Nat.le_refl _) hP s1 (fun i j a b d => s2 i j a b (by omega) d) (fun o' s' p1 p2 p3 => K o' s' c (Or.inl ⟨rfl, e⟩) p1 p2 p3) (c + 1) lo mi lo sp (by omega) (by omega) (so_m_0 hlo hmi sp)⟩)
    (fun e => nm_r (nI_add mi w) ⟨c + 1, xme56_1 hc (by omega) hP s1 (fun i j a b d => s2 i j a b d (by omega)) (fun o' s' p1 p2 p3 => K o' s' (mi + w) (Or.inr ⟨rfl, e⟩) p1 p2 p3) (c + 1) lo mi lo sp (by omega) (by omega) (so_m_0 hlo (by omega) sp)⟩) rfl (nI_add mi w)
theorem xmr1 {post : SX → Prop} {o : Nat → Int32} {lo w : Nat} (hc : c ≤ 40) (hw : w ≤ 80) (hlo : lo < c) (hP : so_P c o) (s1 : so_G (so_B A) o lo (lo + w) c) (s2 : so_G (so_B A) o (lo + w) (lo + w + w) c)
    (K : ∀ o' s', so_P c o' → so_G (so_B A) o' lo (lo + w + w) c → (∀ m, m < lo ∨ lo + w + w ≤ m → o' m = o m) → post (nI c, A, o', h, s', rl, rh, st, ec, lc, pe, se, le)) :
    wpX_mergeRuns__firstOrder post (nI c, A, o, h, sp, rl, rh, st, ec, lc, pe, se, le) (nI lo) (nI w) := by
  refine pk_le c (lo + w) (fun e => ?_) (fun e => ?_) rfl (nI_add lo w)
  · refine xme20_1 hc hw (by omega) (Nat.le_refl _) hP (fun i j a b d => s1 i j a b (by omega) d) (fun i j a b d d' => by omega) (fun o' s' hi hh p1 p2 p3 => K o' s' p1 (fun i j a b d d' => p2 i j a b (by omega)) (fun m hm => ?_))
    by_cases z : m < lo
    · exact p3 m (Or.inl z)
    · exact p3 m (Or.inr (by omega))
  · rw [nI_add]
    refine xme20_1 hc hw (by omega) (by omega) hP (fun i j a b d => s1 i j a b d (by omega)) s2 (fun o' s' hi hh p1 p2 p3 => K o' s' p1 (fun i j a b d d' => p2 i j a b (by omega)) (fun m hm => ?_))
    by_cases z : m < lo
    · exact p3 m (Or.inl z)
    · exact p3 m (Or.inr (by omega))
theorem xmg12_1 {post : SX → Prop} {J : Int32 → Int32 → (Nat → Int32) → (Nat → Int32) → (Nat → Int32) → (Nat → Int32) → (Nat → Int32) → (Nat → Int32) → (Nat → Int32) → (Nat → Int32) → (Nat → Int32) → (Nat → Int32) → (Nat → Int32) → (Nat → Int32) → Prop} {w : Nat}
    (hc : c ≤ 40) (hw : w ≤ 40) (hw0 : 0 < w) (K : ∀ o' s', so_P c o' → so_V (so_B A) o' (2 * w) c → J (nI (2 * w)) (nI c) A o' h s' rl rh st ec lc pe se le) :
    ∀ (n q : Nat) (o s : Nat → Int32), 120 < n + q * (2 * w) → q * (2 * w) ≤ 120 → so_P c o → so_Vi (so_B A) o w q c → wX_orderByMerging__firstOrder_12 post J (nI w) n (nI (q * (2 * w))) (nI c) A o h s rl rh st ec lc pe se le := by
  intro n
  induction n with
  | zero =>
    intro q o s h1 h2 hP hV
    omega
  | succ n ih =>
    intro q o s h1 h2 hP hV
    rw [wX_orderByMerging__firstOrder_12]
    have e2 : (2 : Int32) * nI w = nI (2 * w) := pk_mul 2 w
    have e3 : (q + 1) * (2 * w) = q * (2 * w) + 2 * w := Nat.succ_mul q (2 * w)
    have e4 : nI (q * (2 * w)) + 2 * nI w = nI ((q + 1) * (2 * w)) := by rw [e2, nI_add, e3]
    have hV2 := so_Vi_a hV
    refine pk_le c (q * (2 * w)) (fun e => nm_r e2 (K o s hP (so_Vi_e hV e))) (fun e => xmr1 hc (by omega) e hP hV2.1 hV2.2 (fun o' s' p1 p2 p3 => nm_r e4 (ih (q + 1) o' s' (by omega) (by omega) p1 (so_Vi_s hV (fun m hm => p3 m (by omega)) (fun i j a b d d' => p2 i j a b (by omega) d'))))) rfl rfl (by omega) (by omega)
theorem xmg2_1 {post : SX → Prop} (hc : c ≤ 40) (K : ∀ o' s', so_P c o' → so_S (so_B A) o' 0 c → post (nI c, A, o', h, s', rl, rh, st, ec, lc, pe, se, le)) :
    ∀ (n w : Nat) (o s : Nat → Int32), 80 < n + w → w ≤ 80 → 0 < w → so_P c o → so_V (so_B A) o w c → wX_orderByMerging__firstOrder_2 post n (nI w) (nI c) A o h s rl rh st ec lc pe se le := by
  intro n
  induction n with
  | zero => intro w o s h1 h2 h3 hP hV; omega
  | succ n ih =>
    intro w o s h1 h2 h3 hP hV
    rw [wX_orderByMerging__firstOrder_2]
    refine pk_le c w (fun e => K o s hP (so_V_e hV e)) (fun e => ⟨121, ?_⟩)
    have hh := xmg12_1 (post := post) hc (by omega) h3 (fun o' s' p1 p2 => ih (2 * w) o' s' (by omega) (by omega) (by omega) p1 p2) 121 0 o s (by omega) (by omega) hP (so_Vi_0 hV)
    rw [Nat.zero_mul] at hh
    exact hh
theorem xmg1 {post : SX → Prop} {o : Nat → Int32} (hc : c ≤ 40) (hP : so_P c o) (K : ∀ o' s', so_P c o' → so_S (so_B A) o' 0 c → post (nI c, A, o', h, s', rl, rh, st, ec, lc, pe, se, le)) :
    wpX_orderByMerging__firstOrder post (nI c, A, o, h, sp, rl, rh, st, ec, lc, pe, se, le) :=
  ⟨80, xmg2_1 hc K 80 1 o sp (by omega) (by omega) (by omega) hP (so_V_1 o c)⟩
theorem xsd80_1 {post : SX → Prop} {o : Nat → Int32} {J : Int32 → Int32 → Int32 → (Nat → Int32) → (Nat → Int32) → (Nat → Int32) → (Nat → Int32) → (Nat → Int32) → (Nat → Int32) → (Nat → Int32) → (Nat → Int32) → (Nat → Int32) → (Nat → Int32) → (Nat → Int32) → (Nat → Int32) → Prop} {x3 : Int32} {x l y : Nat}
    (hx : x < 40) (hy : y < 40) (h1 : y = x → post (nI c, A, o, h, sp, rl, rh, st, ec, lc, pe, se, le)) (h2 : y ≠ x → J (nI y) (nI (l + 1)) (nI c) A (so_w o x y) h sp rl rh st ec lc pe se le) : wX_siftDown__firstOrder_80 post J x3 (nI x) (nI l) (nI y) (nI c) A o h sp rl rh st ec lc pe se le :=
  pk_eq y x h1 (fun e => xsw1 hx hy (nm_r (nI_1 l) (h2 e)))
theorem xsd55_1 {post : SX → Prop} {o : Nat → Int32} {J : Int32 → Int32 → Int32 → (Nat → Int32) → (Nat → Int32) → (Nat → Int32) → (Nat → Int32) → (Nat → Int32) → (Nat → Int32) → (Nat → Int32) → (Nat → Int32) → (Nat → Int32) → (Nat → Int32) → (Nat → Int32) → (Nat → Int32) → Prop} {e x l y r : Nat}
    (hc : c ≤ 40) (he : e ≤ c) (hP : so_P c o) (hx : x < e) (hy : y < e) (hr : r ≤ 100)
    (h1 : (e ≤ r ∨ so_B A (o y) (o r) = false) → (y = x → post (nI c, A, o, h, sp, rl, rh, st, ec, lc, pe, se, le)) ∧ (y ≠ x → J (nI y) (nI (l + 1)) (nI c) A (so_w o x y) h sp rl rh st ec lc pe se le))
    (h2 : r < e → so_B A (o y) (o r) = true → (r = x → post (nI c, A, o, h, sp, rl, rh, st, ec, lc, pe, se, le)) ∧ (r ≠ x → J (nI r) (nI (l + 1)) (nI c) A (so_w o x r) h sp rl rh st ec lc pe se le)) :
    wX_siftDown__firstOrder_55 post J (nI e) (nI x) (nI l) (nI y) (nI r) (nI c) A o h sp rl rh st ec lc pe se le := by
  refine pk_le e r (fun z => xsd80_1 (by omega) (by omega) (h1 (Or.inl z)).1 (h1 (Or.inl z)).2) (fun z => ⟨vp_in_nI (by omega) (by omega), vp_in_nI (by omega) (by omega), ?_⟩)
  rw [nI_clamp (n := y) (by omega), nI_clamp (n := r) (by omega)]
  exact xb (so_P_v hP hc (by omega)) (so_P_v hP hc (by omega)) (fun t => br_f xe_n10 (xsd80_1 (by omega) (by omega) (h2 z t).1 (h2 z t).2)) (fun f => br_t rfl (xsd80_1 (by omega) (by omega) (h1 (Or.inr f)).1 (h1 (Or.inr f)).2))
theorem xsd6_1 {post : SX → Prop} {o0 : Nat → Int32} {e root : Nat} (hc : c ≤ 40) (he : e ≤ c)
    (K : ∀ o', so_P c o' → so_Hf (so_B A) o' root e → so_W 0 e o0 o' → post (nI c, A, o', h, sp, rl, rh, st, ec, lc, pe, se, le)) :
    ∀ (n x l : Nat) (o : Nat → Int32), e < n + l → l ≤ x → x < e → root ≤ x → so_P c o → so_Hx (so_B A) o root e x → so_W 0 e o0 o → wX_siftDown__firstOrder_6 post (nI e) n (nI x) (nI l) (nI c) A o h sp rl rh st ec lc pe se le := by
  intro n
  induction n with
  | zero => intro x l o h1 h2 h3; omega
  | succ n ih =>
    intro x l o h1 h2 h3 h4 hP hH hW
    rw [wX_siftDown__firstOrder_6]
    have hB := so_BO A
    have e7 : (2 : Int32) * nI x + 1 = nI (2 * x + 1) := by rw [show (2 : Int32) * nI x = nI (2 * x) from pk_mul 2 x, nI_1]
    have e8 : nI (2 * x + 1) + 1 = nI (2 * x + 2) := nI_1 (2 * x + 1)
    have done : (∀ d, 0 < d → d < e → (d - 1) / 2 = x → so_B A (o x) (o d) = false) → post (nI c, A, o, h, sp, rl, rh, st, ec, lc, pe, se, le) := fun z => K o hP (so_Hx_e hH z) hW
    have step : ∀ y, (y - 1) / 2 = x → 0 < y → y < e → so_B A (o x) (o y) = true → (∀ d, 0 < d → d < e → (d - 1) / 2 = x → so_B A (o y) (o d) = false) →
        wX_siftDown__firstOrder_6 post (nI e) n (nI y) (nI (l + 1)) (nI c) A (so_w o x y) h sp rl rh st ec lc pe se le := fun y z1 z2 z3 z4 z5 =>
      ih y (l + 1) _ (by omega) (by omega) z3 (by omega) (so_P_w hP (by omega) (by omega)) (so_Hx_s hB hH h4 z1 z2 z3 z4 z5) (so_W_w hW (by omega) h3 (by omega) z3)
    refine br_f (nI_ge (by omega) (by omega)) (nm_r e7 (nm_r e8 ?_))
    refine pk_le e (2 * x + 1) (fun z => ?_) (fun z => ⟨vp_in_nI (by omega) (by omega), vp_in_nI (by omega) (by omega), ?_⟩)
    · exact xsd55_1 hc he hP h3 h3 (by omega) (fun _ => ⟨fun _ => done (fun d a b d' => by omega), fun q => (q rfl).elim⟩) (fun q => by omega)
    · rw [nI_clamp (n := x) (by omega), nI_clamp (n := 2 * x + 1) (by omega)]
      refine xb (so_P_v hP hc (by omega)) (so_P_v hP hc (by omega)) (fun t => br_f xe_n10 (xsd55_1 hc he hP h3 z (by omega) (fun q => ⟨fun w => by omega, fun _ => ?_⟩) (fun q q2 => ⟨fun w => by omega, fun _ => ?_⟩)))
        (fun f => br_t rfl (xsd55_1 hc he hP h3 h3 (by omega) (fun q => ⟨fun _ => done (fun d a b d' => ?_), fun q => (q rfl).elim⟩) (fun q q2 => ⟨fun w => by omega, fun _ => ?_⟩)))
      · refine step (2 * x + 1) (by omega) (by omega) z t (fun d a b d' => ?_)
        by_cases w : d = 2 * x + 1
        · rw [w]; exact hB.1 _
        · have w2 : d = 2 * x + 2 := by omega
          rcases q with q | q
          · omega
          · rw [w2]; exact q
      · refine step (2 * x + 2) (by omega) (by omega) q (hB.2.1 _ _ _ t q2) (fun d a b d' => ?_)
        by_cases w : d = 2 * x + 1
        · rw [w]; exact so_as hB q2
        · have w2 : d = 2 * x + 2 := by omega
          rw [w2]; exact hB.1 _
      · by_cases w : d = 2 * x + 1
        · rw [w]; exact f
        · have w2 : d = 2 * x + 2 := by omega
          rcases q with q | q
          · omega
          · rw [w2]; exact q
      · refine step (2 * x + 2) (by omega) (by omega) q q2 (fun d a b d' => ?_)
        by_cases w : d = 2 * x + 1
        · rw [w]; exact so_tr hB f (so_as hB q2)
        · have w2 : d = 2 * x + 2 := by omega
          rw [w2]; exact hB.1 _
theorem xsd1 {post : SX → Prop} {o : Nat → Int32} {e root : Nat} (hc : c ≤ 40) (he : e ≤ c) (hr : root < e) (hP : so_P c o) (hH : so_Hf (so_B A) o (root + 1) e)
    (K : ∀ o', so_P c o' → so_Hf (so_B A) o' root e → so_W 0 e o o' → post (nI c, A, o', h, sp, rl, rh, st, ec, lc, pe, se, le)) : wpX_siftDown__firstOrder post (nI c, A, o, h, sp, rl, rh, st, ec, lc, pe, se, le) (nI root) (nI e) :=
  ⟨e + 1, xsd6_1 hc he K (e + 1) root 0 o (by omega) (by omega) hr (by omega) hP (so_Hx_0 hH) (so_W_r 0 e o)⟩
theorem xhe36_1 {post : SX → Prop} (hc : c ≤ 40) (K : ∀ o', so_P c o' → so_S (so_B A) o' 0 c → post (nI c, A, o', h, sp, rl, rh, st, ec, lc, pe, se, le)) :
    ∀ (n e : Nat) (o : Nat → Int32), e < n → e < c → so_P c o → so_Hf (so_B A) o 0 (e + 1) → so_Bu (so_B A) o e c → wX_orderByHeap__firstOrder_36 post n (nI e) (nI c) A o h sp rl rh st ec lc pe se le := by
  intro n
  induction n with
  | zero => intro e o h1; omega
  | succ n ih =>
    intro e o h1 h2 hP hH hU
    rw [wX_orderByHeap__firstOrder_36]
    cases e with
    | zero => exact pk_le 0 0 (fun e => K o hP (so_Bu_e hU)) (fun e => by omega)
    | succ e =>
      obtain ⟨q1, q2⟩ := so_Hf_out (so_BO A) hH hU
      exact pk_le (e + 1) 0 (fun z => by omega) (fun z => xsw1 (i := 0) (j := e + 1) (by omega) (by omega) (xsd1 (root := 0) (e := e + 1) hc (by omega) (by omega) (so_P_w hP (by omega) h2) q1 (fun o' p1 p2 p3 => nm_r (pk_m1 e) (ih e o' (by omega) (by omega) p1 p2 (so_Bu_W q2 p3 (by omega))))))
theorem xhe9_1 {post : SX → Prop} (hc : c ≤ 40) (K : ∀ o', so_P c o' → so_S (so_B A) o' 0 c → post (nI c, A, o', h, sp, rl, rh, st, ec, lc, pe, se, le)) :
    ∀ (n t : Nat) (o : Nat → Int32), t < n → t ≤ c → so_P c o → so_Hf (so_B A) o t c → wX_orderByHeap__firstOrder_9 post n (nI t - 1) (nI c) A o h sp rl rh st ec lc pe se le := by
  intro n
  induction n with
  | zero => intro t o h1; omega
  | succ n ih =>
    intro t o h1 h2 hP hH
    rw [wX_orderByHeap__firstOrder_9]
    cases t with
    | zero =>
      refine br_t (by decide) ?_
      cases c with
      | zero => exact nm_e ⟨1, br_t (by decide) (K o hP (fun i j a b d => by omega))⟩
      | succ c => exact nm_r (nI_pred c) ⟨c + 1, xhe36_1 hc K (c + 1) c o (by omega) (by omega) hP hH (so_Bu_0 (by omega))⟩
    | succ t =>
      rw [nI_pred t]
      exact br_f (nI_pos (by omega)) (xsd1 hc (Nat.le_refl _) (by omega) hP hH (fun o' p1 p2 _ => nm_r (show nI t + (-1) = nI t - 1 from (Int32.sub_eq_add_neg _ _).symm) (ih t o' (by omega) (by omega) p1 p2)))
theorem xhe1 {post : SX → Prop} {o : Nat → Int32} (hc : c ≤ 40) (hP : so_P c o) (K : ∀ o', so_P c o' → so_S (so_B A) o' 0 c → post (nI c, A, o', h, sp, rl, rh, st, ec, lc, pe, se, le)) :
    wpX_orderByHeap__firstOrder post (nI c, A, o, h, sp, rl, rh, st, ec, lc, pe, se, le) :=
  ⟨xe_n20, nm_r (e' := nI (c / 2) - 1) (congrArg (fun x => x - 1) (pk_div (a := c) (d := 2) (by omega) (by omega) (by omega))) ⟨c + 1, xhe9_1 hc K (c + 1) (c / 2) o (by omega) (by omega) hP (so_Hf_0 (by omega))⟩⟩
theorem xpa19_1 {post : Int32 → SX → Prop} {o0 : Nat → Int32} {lo hi : Nat} (hc : c ≤ 40) (hh : hi < c)
    (K : ∀ b o', so_P c o' → so_pd (so_B A) o' lo b hi → so_W lo (hi + 1) o0 o' → post (nI b) (nI c, A, o', h, sp, rl, rh, st, ec, lc, pe, se, le)) :
    ∀ (n b k : Nat) (o : Nat → Int32), hi < n + k → so_P c o → so_pa (so_B A) o lo b k hi → so_W lo (hi + 1) o0 o → wX_partition__firstOrder_19 post (nI hi) n (nI b) (nI k) (nI c) A o h sp rl rh st ec lc pe se le := by
  intro n
  induction n with
  | zero => intro b k o h1 h2 h3; have := h3.2.2.1; omega
  | succ n ih =>
    intro b k o h1 hP hp hW
    rw [wX_partition__firstOrder_19]
    have hB := so_BO A
    obtain ⟨m1, m2, m3, _⟩ := id hp
    refine pk_le hi k (fun e => ?_) (fun e => ⟨vp_in_nI (by omega) (by omega), vp_in_nI (by omega) (by omega), ?_⟩)
    · have ek : k = hi := by omega
      rw [ek] at hp
      exact xsw1 (by omega) (by omega) (K b _ (so_P_w hP (by omega) hh) (so_pa_e hB hp) (so_W_w hW m1 (by omega) (by omega) (by omega)))
    · rw [nI_clamp (n := k) (by omega), nI_clamp (n := hi) (by omega)]
      exact xb (so_P_v hP hc (by omega)) (so_P_v hP hc hh) (fun t => br_f xe_n10 (xsw1 (by omega) (by omega) (nm_r (nI_1 b) (nm_r (nI_1 k) (ih (b + 1) (k + 1) _ (by omega) (so_P_w hP (by omega) (by omega)) (so_pa_t hp e t) (so_W_w hW m1 (by omega) (by omega) (by omega)))))))
        (fun f => br_t rfl (nm_r (nI_1 k) (ih b (k + 1) o (by omega) hP (so_pa_f hp e f) hW)))
theorem xpa1 {post : Int32 → SX → Prop} {o : Nat → Int32} {lo hi : Nat} (hc : c ≤ 40) (hl : lo < hi) (hh : hi < c) (hP : so_P c o)
    (K : ∀ b o', so_P c o' → so_pd (so_B A) o' lo b hi → so_W lo (hi + 1) o o' → post (nI b) (nI c, A, o', h, sp, rl, rh, st, ec, lc, pe, se, le)) : wpX_partition__firstOrder post (nI c, A, o, h, sp, rl, rh, st, ec, lc, pe, se, le) (nI lo) (nI hi) := by
  have e : nI lo + (nI hi - nI lo) / 2 = nI (lo + (hi - lo) / 2) := by
    rw [pk_sub (by omega), show nI (hi - lo) / 2 = nI ((hi - lo) / 2) from pk_div (d := 2) (by omega) (by omega) (by omega), nI_add]
  refine ⟨xe_n20, ?_⟩
  rw [e]
  exact xsw1 (by omega) (by omega) ⟨hi + 1, xpa19_1 hc hh K (hi + 1) lo lo _ (by omega) (so_P_w hP (by omega) hh) (so_pa_0 (by omega)) (so_W_w (so_W_r lo (hi + 1) o) (by omega) (by omega) (by omega) (by omega))⟩
theorem xqa1 {post : Int32 → SX → Prop} {o : Nat → Int32} {l hh : Nat → Nat} {r a b : Nat} {y : Int32} {E : Nat → Nat → Prop} (hc : c ≤ 40) (hr : r < 40) (ha : a ≤ 40)
    (hA : ∀ t, t < r → rl t = nI (l t) ∧ rh t = nI (hh t)) (hs : so_Qs c l hh r) (hp : so_Qp (so_B A) c o l hh r (fun i j => (a ≤ i ∧ j ≤ b) ∨ E i j)) (hl : ∀ t, t < r → hh t < a) (hb : a < b → b < c)
    (hy : (y = nI b ∧ b < 40) ∨ (y = -1 ∧ b ≤ a))
    (K : ∀ rl' rh' l' h' r', (∀ t, t < r' → rl' t = nI (l' t) ∧ rh' t = nI (h' t)) → so_Qs c l' h' r' → so_Qp (so_B A) c o l' h' r' E → so_sm l' h' r' = so_sm l hh r + (b - a) →
      (∀ z, (∀ t, t < r → hh t < z) → (a < b → b < z) → ∀ t, t < r' → h' t < z) → r' ≤ r + 1 → post (nI r') (nI c, A, o, h, sp, rl', rh', st, ec, lc, pe, se, le)) :
    wpX_addRange post (nI c, A, o, h, sp, rl, rh, st, ec, lc, pe, se, le) (nI r) (nI a) y := by
  by_cases hab : a < b
  · rcases hy with ⟨e, hb'⟩ | ⟨e, f⟩
    · rw [e]
      refine xar_t hr hab hb' (K _ _ (so_pu l r a) (so_pu hh r b) (r + 1) (fun t ht => ?_) (so_Qs_push hs hab (hb hab) hl) (so_Qp_push hp) (so_sm_push l hh r a b) (fun z z1 z2 t ht => ?_) (Nat.le_refl _))
      · by_cases q : t = r
        · rw [q, so_uS, so_uS, so_pu_r, so_pu_r]; exact ⟨rfl, rfl⟩
        · rw [so_uN q, so_uN q, so_pu_n _ _ q, so_pu_n _ _ q]; exact hA t (by omega)
      · by_cases q : t = r
        · rw [q, so_pu_r]; exact z2 hab
        · rw [so_pu_n _ _ q]; exact z1 t (by omega)
    · omega
  · refine xar_f ?_ (K rl rh l hh r hA hs (so_Qp_no hp (by omega)) (by omega) (fun z z1 _ => z1) (by omega))
    rcases hy with ⟨e, hb'⟩ | ⟨e, f⟩
    · rw [e]; exact nI_nlt (by omega) (by omega)
    · rw [e, Int32.lt_iff_toInt_lt, nI_toInt (by omega), show (-1 : Int32).toInt = -1 from by decide]; omega
theorem xqu15_1 {post : SX → Prop} (hc : c ≤ 40) (K : ∀ o' rl' rh', so_P c o' → so_S (so_B A) o' 0 c → post (nI c, A, o', h, sp, rl', rh', st, ec, lc, pe, se, le)) :
    ∀ (n r rd : Nat) (o rl rh : Nat → Int32) (l hh : Nat → Nat), c < n + rd → rd ≤ c → so_P c o → (∀ t, t < r → rl t = nI (l t) ∧ rh t = nI (hh t)) → so_Qs c l hh r → so_Qp (so_B A) c o l hh r (fun _ _ => False) →
    (0 < r → so_sm l hh r + rd + 1 ≤ c) → r ≤ 40 → wX_orderByPartition__firstOrder_15 post n (nI r) (nI rd) (nI c) A o h sp rl rh st ec lc pe se le := by
  intro n
  induction n with
  | zero => intro r rd o rl rh l hh h1 h2; omega
  | succ n ih =>
    intro r rd o rl rh l hh h1 h2 hP hA hs hp hz hr
    rw [wX_orderByPartition__firstOrder_15]
    cases r with
    | zero => exact pk_le c rd (fun e => K o rl rh hP (so_Qp_e hp)) (fun e => pk_le 0 0 (fun _ => K o rl rh hP (so_Qp_e hp)) (fun z => by omega))
    | succ r =>
      have hz' := hz (by omega)
      have hsr := so_sm_r hs
      obtain ⟨a1, a2⟩ := hA r (by omega)
      obtain ⟨b1, b2⟩ := hs.1 r (by omega)
      have cr : (nI r).toNatClampNeg = r := nI_clamp (by omega)
      refine pk_le c rd (fun e => by omega) (fun e => pk_le (r + 1) 0 (fun z => by omega) (fun z => nm_r (pk_m1 r) ⟨vp_in_nI (by omega) (by omega), nm_r (e' := nI (l r)) (by rw [cr, a1]) ⟨vp_in_nI (by omega) (by omega), nm_r (e' := nI (hh r)) (by rw [cr, a2]) (xpa1 hc b1 b2 hP (fun b o' p1 p2 p3 => ?_))⟩⟩))
      have hn : ∀ t, t < r → hh t < l r := fun t ht => hs.2 t r ht (by omega)
      obtain ⟨d1, d2, _⟩ := id p2
      have hq := so_Qp_part (so_BO A) hs hp p3 p2
      have sm : so_sm l hh (r + 1) = so_sm l hh r + (hh r - l r) := rfl
      refine xqa1 hc (by omega) (by omega) (fun t ht => hA t (by omega)) (so_Qs_less hs) hq hn (fun q => by omega) ?_ (fun rl1 rh1 l1 h1' r1 k1 k2 k3 k4 k5 k6 => ?_)
      · cases b with
        | zero => exact Or.inr ⟨by decide, by omega⟩
        | succ b => exact Or.inl ⟨nI_pred b, by omega⟩
      · show wpX_addRange _ _ _ (nI b + 1) _
        rw [nI_1 b]
        refine xqa1 hc (by omega) (by omega) k1 k2 k3 (k5 _ (fun t ht => by have := hn t ht; omega) (fun q => by omega)) (fun q => b2) (Or.inl ⟨rfl, by omega⟩) (fun rl2 rh2 l2 h2' r2 j1 j2 j3 j4 j5 j6 => ?_)
        have hr2 := so_sm_r j2
        exact nm_r (nI_1 rd) (ih r2 (rd + 1) o' rl2 rh2 l2 h2' (by omega) (by omega) p1 j1 j2 j3 (fun _ => by omega) (by omega))
theorem xqu1 {post : SX → Prop} {o : Nat → Int32} (hc : c ≤ 40) (hP : so_P c o) (K : ∀ o' rl' rh', so_P c o' → so_S (so_B A) o' 0 c → post (nI c, A, o', h, sp, rl', rh', st, ec, lc, pe, se, le)) :
    wpX_orderByPartition__firstOrder post (nI c, A, o, h, sp, rl, rh, st, ec, lc, pe, se, le) := by
  unfold wpX_orderByPartition__firstOrder
  dsimp only
  refine xqa1 (r := 0) (a := 0) (b := c - 1) (l := fun _ => 0) (hh := fun _ => 0) (E := fun _ _ => False) hc (by omega) (by omega) (fun t ht => by omega) ⟨fun t ht => by omega, fun s t a b => by omega⟩
    (fun i j a b => Or.inr (Or.inr (Or.inl ⟨by omega, by omega⟩))) (fun t ht => by omega) (fun q => by omega) ?_ (fun rl' rh' l' h' r' k1 k2 k3 k4 k5 k6 => ?_)
  · cases c with
    | zero => exact Or.inr ⟨by decide, by omega⟩
    | succ c => exact Or.inl ⟨nI_pred c, by omega⟩
  · have hr := so_sm_r k2
    have e0 : so_sm (fun _ => 0) (fun _ => 0) 0 = 0 := rfl
    exact ⟨c + 1, xqu15_1 hc K (c + 1) r' 0 o rl' rh' l' h' (by omega) (by omega) hP k1 k2 k3 (fun q => by omega) (by omega)⟩
end
