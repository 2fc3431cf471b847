theorem xe_vb0 : vp_nar .boolean 0 = 0 := by decide
theorem xe_vb1 : vp_nar .boolean 1 = 1 := by decide
/-- the marks as truths -/
def so_mb (se : Nat → Int32) : Nat → Bool := fun m => decide (¬ se m = 0)
theorem so_mb_u (se : Nat → Int32) (x : Nat) : so_mb (upd se x 1) = fun m => if m = x then true else so_mb se m := by
  funext m
  unfold so_mb
  by_cases q : m = x
  · rw [q, so_uS, if_pos rfl]; decide
  · rw [so_uN q, if_neg q]
theorem so_mb_f {se : Nat → Int32} {x : Nat} (h : se x = 0) : so_mb se x = false := decide_eq_false (fun z => z h)
theorem so_mb_t {se : Nat → Int32} {x : Nat} (h : ¬ se x = 0) : so_mb se x = true := decide_eq_true h
section
variable {A F G sp rl rh st ec lc pe se le cp : Nat → Int32} {fc : Int32} {c : Nat} {ρ τ : Nat → Nat}
theorem xmk5 {post : SX → Prop} {p : Nat} (hc : c ≤ 40) (hρ : so_pm c ρ) (hτ : ∀ k, k < c → τ k < c ∧ ρ (τ k) = k) (hF : ∀ k, k < c → F k = nI (τ k)) (hp : p < c) (hn : ¬ so_ea ρ p p)
    (K : ∀ se', (∀ j, j < c → (so_mb se' j = true ↔ so_ea ρ (p + 1) j)) → post (nI c, A, F, G, sp, rl, rh, st, ec, lc, pe, se', le)) :
    ∀ (n x s : Nat) (se : Nat → Int32), c < n + s → s ≤ c → so_mk c ρ τ p x s (so_mb se) → wX_markCycle__firstOrder_5 post (nI c) n (nI x) (nI s) A F G sp rl rh st ec lc pe se le := by
  intro n
  induction n with
  | zero => intro x s se h1 h2; omega
  | succ n ih =>
    intro x s se h1 h2 hm
    rw [wX_markCycle__firstOrder_5]
    have hx := hm.1
    have cx : (nI x).toNatClampNeg = x := nI_clamp (by omega)
    have vx : vp_in (nI x) 40 := vp_in_nI (by omega) (by omega)
    refine pk_le c s (fun e => K se (so_mk_e hρ hτ hp hn hm (Or.inr e))) (fun e => ⟨vx, ?_⟩)
    rw [cx]
    refine br_c (fun z => ⟨vx, nm_r (e' := upd se x 1) (by rw [xe_vb1]) ⟨vx, nm_r (e' := nI (τ x)) (by rw [hF x hx]) (nm_r (nI_1 s) (ih (τ x) (s + 1) _ (by omega) (by omega) ?_))⟩⟩) (fun z => K se (so_mk_e hρ hτ hp hn hm (Or.inl (so_mb_t z))))
    rw [so_mb_u]
    exact so_mk_s hρ hτ hp hm (so_mb_f z)
theorem xex36 {post : Int32 → SX → Prop} (hc : c ≤ 40) (hρ : so_pm c ρ) (hτ : ∀ k, k < c → τ k < c ∧ ρ (τ k) = k) (hF : ∀ k, k < c → F k = nI (τ k))
    (K : ∀ se', post (nI (c - so_c (fun m => so_b (¬ so_ea ρ m m)) c)) (nI c, A, F, G, sp, rl, rh, st, ec, lc, pe, se', le)) :
    ∀ (n p r : Nat) (se : Nat → Int32), c < n + p → p ≤ c → (∀ j, j < c → (so_mb se j = true ↔ so_ea ρ p j)) → r = so_c (fun m => so_b (¬ so_ea ρ m m)) p →
    wX_exchanges_36 post n (nI r) (nI p) (nI c) A F G sp rl rh st ec lc pe se le := by
  intro n
  induction n with
  | zero => intro p r se h1 h2; omega
  | succ n ih =>
    intro p r se h1 h2 h3 hr
    rw [wX_exchanges_36]
    have cx : (nI p).toNatClampNeg = p := nI_clamp (by omega)
    refine pk_le c p (fun e => ?_) (fun e => ⟨vp_in_nI (by omega) (by omega), ?_⟩)
    · have ep : p = c := by omega
      rw [ep] at hr
      have hl := so_c_le (fun m => so_b (¬ so_ea ρ m m)) c
      rw [hr, pk_sub hl]; exact K se
    · rw [cx]
      refine br_c (fun z => nm_r (nI_1 r) ?_) (fun z => nm_r (nI_1 p) (ih (p + 1) r se (by omega) (by omega) (fun j hj => ?_) ?_))
      · have hn : ¬ so_ea ρ p p := fun y => so_tf ((h3 p e).2 y) (so_mb_f z)
        refine ⟨c + 1, xmk5 hc hρ hτ hF e hn (fun se' q => nm_r (nI_1 p) (ih (p + 1) (r + 1) se' (by omega) (by omega) q ?_)) (c + 1) p 0 se (by omega) (by omega) (so_mk_0 e h3)⟩
        rw [so_cs, so_bi.2 hn, so_t1, hr]
      · have hy : so_ea ρ p p := (h3 p e).1 (so_mb_t z)
        rw [h3 j hj, so_ea_s]
        exact ⟨Or.inl, fun w => w.elim id (so_ea_y hy)⟩
      · have hy : so_ea ρ p p := (h3 p e).1 (so_mb_t z)
        rw [so_cs, so_bf.2 (fun w => w hy), so_f0, hr]; rfl
theorem xex11 {post : Int32 → SX → Prop} (hc : c ≤ 40) (hρ : so_pm c ρ) (hτ : ∀ k, k < c → τ k < c ∧ ρ (τ k) = k) (hF : ∀ k, k < c → F k = nI (τ k))
    (K : ∀ se', post (nI (c - so_c (fun m => so_b (¬ so_ea ρ m m)) c)) (nI c, A, F, G, sp, rl, rh, st, ec, lc, pe, se', le)) :
    ∀ (n k : Nat) (se : Nat → Int32), c < n + k → k ≤ c → (∀ j, j < k → se j = 0) → wX_exchanges_11 post (nI c) n (nI k) A F G sp rl rh st ec lc pe se le := by
  intro n
  induction n with
  | zero => intro k se h1 h2; omega
  | succ n ih =>
    intro k se h1 h2 h3
    rw [wX_exchanges_11]
    have ck : (nI k).toNatClampNeg = k := nI_clamp (by omega)
    refine pk_le c k (fun e => ⟨c + 1, xex36 hc hρ hτ hF K (c + 1) 0 0 se (by omega) (by omega) (fun j hj => ?_) rfl⟩) (fun e => ⟨vp_in_nI (by omega) (by omega), nm_r (e' := upd se k 0) (by rw [ck, xe_vb0]) (nm_r (nI_1 k) (ih (k + 1) _ (by omega) (by omega) (fun j hj => ?_)))⟩)
    · constructor
      · intro z; exact (so_tf z (so_mb_f (h3 j (by omega)))).elim
      · rintro ⟨m, hm, _⟩; omega
    · by_cases q : j = k
      · rw [q, so_uS]
      · rw [so_uN q]; exact h3 j (by omega)
/-- the reference's walk around one cycle -/
theorem yex24 {post : Int32 → Prop} {J : Int32 → Int32 → Prop} {i r : Nat} (hc : c ≤ 40) (hρ : so_pm c ρ) (hρ' : ∀ i, i < c → ρ i = so_rk (so_B A) c (nI i)) (hi : i < c)
    (K1 : so_ea ρ i i → J (nI (r + 1)) (nI (i + 1))) (K0 : ¬ so_ea ρ i i → J (nI r) (nI (i + 1))) :
    ∀ (n t : Nat) (f : Int32), 40 < n + t → t ≤ 40 → (∀ s, 0 < s → s ≤ t → so_it ρ s i ≠ i) → (f = 1 ∧ (∀ s, 0 < s → s ≤ t → i < so_it ρ s i) ∨ f = 0 ∧ so_ea ρ i i) →
    wY_exchanges_24 post J (nI r) (nI i) (nI c) A cp n f (nI (so_it ρ (t + 1) i)) (nI t) := by
  intro n
  induction n with
  | zero => intro t f h1 h2; omega
  | succ n ih =>
    intro t f h1 h2 h3 h4
    rw [wY_exchanges_24]
    have hl := so_it_l hρ (t + 1) hi
    have fin : (f = 1 → ¬ so_ea ρ i i) → wY_exchanges_67 post J (nI r) (nI i) f (nI c) A cp := fun w => by
      rcases h4 with ⟨a, b⟩ | ⟨a, b⟩
      · rw [a]
        exact br_f xe_n10 (nm_r (nI_1 i) (K0 (w a)))
      · rw [a]
        exact br_t rfl (nm_r (nI_1 r) (nm_r (nI_1 i) (K1 b)))
    refine pk_le 40 t (fun e => ?_) (fun e => pk_eq (so_it ρ (t + 1) i) i (fun q => ?_) (fun q => ?_))
    · obtain ⟨T, t1, t2, t3⟩ := so_per hρ hi
      exact (h3 T t1 (by omega) t3).elim
    · refine fin (fun a => ?_)
      rcases h4 with ⟨_, b⟩ | ⟨a', b⟩
      · rw [so_ea_i hρ hi]
        exact so_ea_T (T := t + 1) (by omega) q (fun s s1 s2 => b s s1 (by omega))
      · rw [a'] at a; exact absurd a (by decide)
    · have hne : ∀ s, 0 < s → s ≤ t + 1 → so_it ρ s i ≠ i := fun s s1 s2 => by
        by_cases z : s = t + 1
        · rw [z]; exact q
        · exact h3 s s1 (by omega)
      have go : ∀ f' : Int32, (f' = 1 ∧ (∀ s, 0 < s → s ≤ t + 1 → i < so_it ρ s i) ∨ f' = 0 ∧ so_ea ρ i i) →
          wY_exchanges_52 post J (wY_exchanges_24 post J (nI r) (nI i) (nI c) A cp n) (nI r) (nI i) (nI (so_it ρ (t + 1) i)) (nI t) f' (nI c) A cp := fun f' w => by
        refine yrk hc (by omega) (nm_r (nI_1 t) ?_)
        rw [← hρ' _ hl]
        exact ih (t + 1) f' (by omega) (by omega) hne w
      rcases h4 with ⟨a, b⟩ | ⟨a, b⟩
      · rw [a]
        refine br_f xe_n10 (pk_le (so_it ρ (t + 1) i) i (fun w => go 0 (Or.inr ⟨rfl, ?_⟩)) (fun w => go 1 (Or.inl ⟨rfl, fun s s1 s2 => ?_⟩)))
        · rw [so_ea_i hρ hi]
          exact ⟨t + 1, by omega⟩
        · by_cases z : s = t + 1
          · rw [z]; exact w
          · exact b s s1 (by omega)
      · rw [a]
        exact br_t rfl (go 0 (Or.inr ⟨rfl, b⟩))
theorem yex4 {post : Int32 → Prop} (hc : c ≤ 40) (hρ : so_pm c ρ) (hρ' : ∀ i, i < c → ρ i = so_rk (so_B A) c (nI i)) (K : post (nI (so_c (fun m => so_b (so_ea ρ m m)) c))) :
    ∀ n i r : Nat, c < n + i → i ≤ c → r = so_c (fun m => so_b (so_ea ρ m m)) i → wY_exchanges_4 post (nI c) A cp n (nI r) (nI i) := by
  intro n
  induction n with
  | zero => intro i r h1 h2; omega
  | succ n ih =>
    intro i r h1 h2 hr
    rw [wY_exchanges_4]
    refine pk_le c i (fun e => ?_) (fun e => yrk hc (by omega) ⟨41, ?_⟩)
    · have : i = c := by omega
      rw [hr, this]; exact K
    · rw [← hρ' i e]
      exact yex24 hc hρ hρ' e (fun q => ih (i + 1) (r + 1) (by omega) (by omega) (by rw [so_cs, so_bi.2 q, so_t1, hr])) (fun q => ih (i + 1) r (by omega) (by omega) (by rw [so_cs, so_bf.2 q, so_f0, hr]; rfl))
        41 0 1 (by omega) (by omega) (fun s s1 s2 => by omega) (Or.inl ⟨rfl, fun s s1 s2 => by omega⟩)
end
theorem i_vc_exchanges {k : Nat} {u : SX} {v : SY} (I : i_Rel k u v) (hk : k + 4 ≤ 2048) : wpX_exchanges (fun r u' => wpY_exchanges (fun r' => r' = r ∧ i_Rel (k + 4) u' v) v) u := by
  obtain ⟨c, A, F, G, sp, rl, rh, st, ec, lc, pe, se, le, cp, rfl, rfl, hc, hR⟩ := I
  unfold wpX_exchanges
  dsimp only
  refine xfo1 (e := 3) hc hR (by omega) (fun o sp1 rl1 rh1 st1 ec1 lc1 pe1 hD => ?_)
  have hB := so_BO A
  have hρ : so_pm c (fun i => so_rk (so_B A) c (nI i)) := ⟨fun i hi => so_rk_lt hB hi, fun i j hi hj q => so_rk_inj hB (by omega) hi hj q⟩
  have hτ : ∀ m, m < c → o m = nI (o m).toNatClampNeg ∧ (o m).toNatClampNeg < c ∧ so_rk (so_B A) c (nI (o m).toNatClampNeg) = m := fun m hm => by
    obtain ⟨i, hi, er, eo⟩ := so_D_at hc hD hm
    have : (o m).toNatClampNeg = i := by rw [eo]; exact nI_clamp (by omega)
    rw [this]; exact ⟨eo, hi, er⟩
  refine ⟨c + 1, xex11 (ρ := fun i => so_rk (so_B A) c (nI i)) (τ := fun m => (o m).toNatClampNeg) hc hρ (fun m hm => (hτ m hm).2) (fun m hm => (hτ m hm).1) (fun se' => ?_) (c + 1) 0 se (by omega) (by omega) (fun j hj => by omega)⟩
  refine ⟨c + 1, yex4 (ρ := fun i => so_rk (so_B A) c (nI i)) hc hρ (fun i _ => rfl) ⟨congrArg nI ?_, i_mk hc hR⟩ (c + 1) 0 0 (by omega) (by omega) rfl⟩
  have hsum : so_c (fun _ => true) c = so_c (fun m => so_b (so_ea (fun i => so_rk (so_B A) c (nI i)) m m)) c + so_c (fun m => so_b (¬ so_ea (fun i => so_rk (so_B A) c (nI i)) m m)) c := so_c_or (fun m _ => by
    by_cases q : so_ea (fun i => so_rk (so_B A) c (nI i)) m m
    · rw [so_bi.2 q, so_bf.2 (fun w => w q)]; rfl
    · rw [so_bf.2 q, so_bi.2 q]; rfl)
  rw [so_c_tt] at hsum
  omega
