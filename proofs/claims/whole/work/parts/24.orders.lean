section
variable {A F G sp rl rh st ec lc pe se le cp : Nat → Int32} {fc : Int32} {c : Nat}
theorem yrk4 {post : Int32 → Prop} {i : Nat} (hc : c ≤ 40) (hi : i < 40) (K : post (nI (so_rk (so_B A) c (nI i)))) : ∀ n k r : Nat, c < n + k → k ≤ c → r = so_c (fun m => so_B A (nI m) (nI i)) k →
    wY_rank_4 post (nI i) (nI c) A cp n (nI r) (nI k) := by
  intro n
  induction n with
  | zero => intro k r h1 h2; omega
  | succ n ih =>
    intro k r h1 h2 hr
    rw [wY_rank_4]
    have ck : (nI k).toNatClampNeg = k := nI_clamp (by omega)
    have ci : (nI i).toNatClampNeg = i := nI_clamp (by omega)
    have hb := so_Bi A (nI k) (nI i)
    rw [ck, ci, nI_toInt (by omega), nI_toInt (by omega)] at hb
    have vk : k < 40 → vp_in (nI k) 40 := fun z => vp_in_nI z (by omega)
    have vi : vp_in (nI i) 40 := vp_in_nI hi (by omega)
    have up : so_B A (nI k) (nI i) = true → k < c → wY_rank_4 post (nI i) (nI c) A cp n (nI (r + 1)) (nI (k + 1)) := fun t e =>
      ih (k + 1) (r + 1) (by omega) (by omega) (by rw [so_cs, t, so_t1, hr])
    have no : so_B A (nI k) (nI i) = false → k < c → wY_rank_4 post (nI i) (nI c) A cp n (nI r) (nI (k + 1)) := fun t e =>
      ih (k + 1) r (by omega) (by omega) (by rw [so_cs, t, so_f0, hr]; rfl)
    refine pk_le c k (fun e => ?_) (fun e => ⟨vk (by omega), vi, ?_⟩)
    · have : k = c := by omega
      rw [hr, this]; exact K
    · rw [ck, ci]
      refine br_c (fun z => nm_r (nI_1 r) (nm_r (nI_1 k) (up ?_ e))) (fun z => ⟨vk (by omega), vi, br_c (fun y => pk_le i k (fun x => nm_r (nI_1 k) (no (so_nt fun q => ?_) e)) (fun x => nm_r (nI_1 r) (nm_r (nI_1 k) (up ?_ e)))) (fun y => nm_r (nI_1 k) (no (so_nt fun q => ?_) e))⟩)
      · rw [Int32.lt_iff_toInt_lt] at z
        rw [hb]; exact Or.inl z
      · rw [hb, y] at q; omega
      · rw [hb, y]; omega
      · rw [Int32.lt_iff_toInt_lt] at z
        have y' : (A k).toInt ≠ (A i).toInt := fun w => y (Int32.toInt_inj.1 w)
        rw [hb] at q; omega
theorem yrk {post : Int32 → Prop} {i : Nat} (hc : c ≤ 40) (hi : i < 40) (K : post (nI (so_rk (so_B A) c (nI i)))) : wpY_rank post (nI c, A, cp) (nI i) :=
  ⟨c + 1, yrk4 hc hi K (c + 1) 0 0 (by omega) (by omega) rfl⟩
theorem yp2b {post : Int32 → Prop} {x1 x2 : Int32} (hc : c ≤ 40) (hb : ∀ e, e < 12 → x1 = nI e → ∀ i, i < c → ¬ nI (so_rk (so_B A) c (nI i)) = x2) (K : post (-1000)) : ∀ n i : Nat, c < n + i → i ≤ c →
    wY_place_2 post x1 x2 (nI c) A cp n (nI i) := by
  intro n
  induction n with
  | zero => intro i h1 h2; omega
  | succ n ih =>
    intro i h1 h2
    rw [wY_place_2]
    exact pk_le c i (fun e => K) (fun e => yen (fun j hj ej => br_f xe_n10 (yrk hc (by omega) (br_f (hb j hj ej i e) (nm_r (nI_1 i) (ih (i + 1) (by omega) (by omega)))))) (fun _ => br_t rfl K))
theorem ypb {post : Int32 → Prop} {x1 x2 : Int32} (hc : c ≤ 40) (hb : ∀ e, e < 12 → x1 = nI e → ∀ i, i < c → ¬ nI (so_rk (so_B A) c (nI i)) = x2) (K : post (-1000)) : wpY_place post (nI c, A, cp) x1 x2 :=
  ⟨c + 1, yp2b hc hb K (c + 1) 0 (by omega) (by omega)⟩
theorem yp2o {post : Int32 → Prop} {e i0 : Nat} (hc : c ≤ 40) (he : e < 12) (hi : i0 < c) (K : post (nI i0)) : ∀ n i : Nat, c < n + i → i ≤ i0 →
    wY_place_2 post (nI e) (nI (so_rk (so_B A) c (nI i0))) (nI c) A cp n (nI i) := by
  intro n
  induction n with
  | zero => intro i h1 h2; omega
  | succ n ih =>
    intro i h1 h2
    rw [wY_place_2]
    have hB := so_BO A
    have r1 := so_rk_lt hB (n := c) (i := i) (by omega)
    have r2 := so_rk_lt hB hi
    refine br_f (nI_ge (by omega) (by omega)) (yen (fun _ _ _ => br_f xe_n10 (yrk hc (by omega) (pk_eq (so_rk (so_B A) c (nI i)) (so_rk (so_B A) c (nI i0)) (fun q => ?_) (fun q => nm_r (nI_1 i) (ih (i + 1) (by omega) ?_))))) (fun z => (z e he rfl).elim))
    · have : i = i0 := so_rk_inj hB (by omega) (by omega) hi q
      rw [this]; exact K
    · have : i ≠ i0 := fun z => q (by rw [z])
      omega
theorem ypo {post : Int32 → Prop} {e i0 : Nat} (hc : c ≤ 40) (he : e < 12) (hi : i0 < c) (K : post (nI i0)) : wpY_place post (nI c, A, cp) (nI e) (nI (so_rk (so_B A) c (nI i0))) :=
  ⟨c + 1, yp2o hc he hi K (c + 1) 0 (by omega) (by omega)⟩
theorem xsl14 {post : Int32 → Prop} {i0 : Nat} (hc : c ≤ 40) (hi : i0 < c) (K : post (A i0)) : ∀ n i : Nat, c < n + i → i ≤ i0 →
    wX_select_14 post (nI (so_rk (so_B A) c (nI i0))) (nI c) A F G sp rl rh st ec lc pe se le n (nI i) := by
  intro n
  induction n with
  | zero => intro i h1 h2; omega
  | succ n ih =>
    intro i h1 h2
    rw [wX_select_14]
    have hB := so_BO A
    have r1 := so_rk_lt hB (n := c) (i := i) (by omega)
    have r2 := so_rk_lt hB hi
    refine br_f (nI_ge (by omega) (by omega)) (xrk hc (by omega) (pk_eq (so_rk (so_B A) c (nI i)) (so_rk (so_B A) c (nI i0)) (fun q => ⟨vp_in_nI (by omega) (by omega), ?_⟩) (fun q => nm_r (nI_1 i) (ih (i + 1) (by omega) ?_))))
    · have : i = i0 := so_rk_inj hB (by omega) (by omega) hi q
      rw [nI_clamp (by omega), this]; exact K
    · have : i ≠ i0 := fun z => q (by rw [z])
      omega
theorem xag38 {post : Int32 → SX → Prop} (hc : c ≤ 40) (hE : ∀ k, k < c → F k = G k) (K : post 1 (nI c, A, F, G, sp, rl, rh, st, ec, lc, pe, se, le)) : ∀ n k : Nat, c < n + k → k ≤ c →
    wX_agree_38 post (nI c) A F G sp rl rh st ec lc pe se le n (nI k) := by
  intro n
  induction n with
  | zero => intro k h1 h2; omega
  | succ n ih =>
    intro k h1 h2
    rw [wX_agree_38]
    have ck : (nI k).toNatClampNeg = k := nI_clamp (by omega)
    refine pk_le c k (fun e => K) (fun e => ⟨vp_in_nI (by omega) (by omega), vp_in_nI (by omega) (by omega), br_t ?_ (nm_r (nI_1 k) (ih (k + 1) (by omega) (by omega)))⟩)
    rw [ck]; exact hE k e
end
theorem so_D_at {A : Nat → Int32} {c k : Nat} {o : Nat → Int32} (hc : c ≤ 40) (hD : so_D (so_B A) c o) (hk : k < c) : ∃ i, i < c ∧ so_rk (so_B A) c (nI i) = k ∧ o k = nI i := by
  obtain ⟨i, hi, e⟩ := so_rk_sur (so_BO A) (show c < 2 ^ 31 by omega) hk
  exact ⟨i, hi, e, by rw [← e]; exact hD i hi⟩
theorem so_rk_ne {A : Nat → Int32} {c : Nat} {x : Int32} (hc : c ≤ 40) (h : ∀ j, j < c → x ≠ nI j) : ∀ i, i < c → ¬ nI (so_rk (so_B A) c (nI i)) = x :=
  fun i hi e => h _ (so_rk_lt (so_BO A) hi) e.symm
theorem i_vc_place {k : Nat} {u : SX} {v : SY} (I : i_Rel k u v) (hk : k + 4 ≤ 2048) (v1 : Int32) (v2 : Int32) : wpX_place (fun r u' => wpY_place (fun r' => r' = r ∧ i_Rel (k + 4) u' v) v v1 v2) u v1 v2 := by
  obtain ⟨c, A, F, G, sp, rl, rh, st, ec, lc, pe, se, le, cp, rfl, rfl, hc, hR⟩ := I
  unfold wpX_place
  dsimp only
  refine xpl hc (fun j hj ej => br_f xe_n10 (xen (fun e he ee => br_f xe_n10 ?_) (fun h => br_t rfl ?_))) (fun h => br_t rfl ?_)
  · subst ej ee
    refine xfo1 hc hR he (fun o' sp' rl' rh' st' ec' lc' pe' hD => ⟨vp_in_nI (by omega) (by omega), ?_⟩)
    obtain ⟨i, hi, er, eo⟩ := so_D_at hc hD hj
    try dsimp only
    rw [nI_clamp (n := j) (by omega), eo, ← er]
    exact ypo hc he hi ⟨rfl, i_mk hc hR⟩
  · exact ypb hc (fun e he ee => (h e he ee).elim) ⟨rfl, i_mk hc hR⟩
  · exact ypb hc (fun _ _ _ => so_rk_ne hc h) ⟨rfl, i_mk hc hR⟩
theorem xe_m1000 : ¬ (0 : Int32) ≤ -1000 := by decide
theorem i_vc_sorted {k : Nat} {u : SX} {v : SY} (I : i_Rel k u v) (hk : k + 4 ≤ 2048) (v1 : Int32) (v2 : Int32) : wpX_sorted (fun r u' => wpY_sorted (fun r' => r' = r ∧ i_Rel (k + 4) u' v) v v1 v2) u v1 v2 := by
  obtain ⟨c, A, F, G, sp, rl, rh, st, ec, lc, pe, se, le, cp, rfl, rfl, hc, hR⟩ := I
  unfold wpX_sorted wpY_sorted
  dsimp only
  refine xpl hc (fun j hj ej => br_f xe_n10 (xen (fun e he ee => br_f xe_n10 ?_) (fun h => br_t rfl ?_))) (fun h => br_t rfl ?_)
  · subst ej ee
    refine xfo1 hc hR he (fun o' sp' rl' rh' st' ec' lc' pe' hD => ⟨vp_in_nI (by omega) (by omega), ?_⟩)
    obtain ⟨i, hi, er, eo⟩ := so_D_at hc hD hj
    try dsimp only
    rw [nI_clamp (n := j) (by omega), eo, ← er]
    exact ⟨vp_in_nI (by omega) (by omega), ypo hc he hi (br_t (nI_pos' (by omega)) ⟨vp_in_nI (by omega) (by omega), rfl, i_mk hc hR⟩)⟩
  · exact ypb hc (fun e he ee => (h e he ee).elim) (br_f xe_m1000 ⟨rfl, i_mk hc hR⟩)
  · exact ypb hc (fun _ _ _ => so_rk_ne hc h) (br_f xe_m1000 ⟨rfl, i_mk hc hR⟩)
theorem i_vc_select {k : Nat} {u : SX} {v : SY} (I : i_Rel k u v) (hk : k + 4 ≤ 2048) (v1 : Int32) : wpX_select (fun r => wpY_select (fun r' => r' = r ∧ i_Rel (k + 4) u v) v v1) u v1 := by
  obtain ⟨c, A, F, G, sp, rl, rh, st, ec, lc, pe, se, le, cp, rfl, rfl, hc, hR⟩ := I
  unfold wpX_select wpY_select
  dsimp only
  unfold wpY_sorted
  dsimp only
  refine xpl hc (fun j hj ej => br_f xe_n10 ?_) (fun h => br_t rfl ?_)
  · obtain ⟨i, hi, er⟩ := so_rk_sur (so_BO A) (show c < 2 ^ 31 by omega) hj
    rw [ej, ← er]
    have ci : (nI i).toNatClampNeg = i := nI_clamp (by omega)
    refine ⟨c + 1, xsl14 hc hi (ypo (e := 0) hc (by omega) hi (br_t (nI_pos' (by omega)) ⟨vp_in_nI (by omega) (by omega), ?_, i_mk hc hR⟩)) (c + 1) 0 (by omega) (by omega)⟩
    rw [ci]
  · exact ypb hc (fun _ _ _ => so_rk_ne hc h) (br_f xe_m1000 ⟨rfl, i_mk hc hR⟩)
theorem i_vc_agree {k : Nat} {u : SX} {v : SY} (I : i_Rel k u v) (hk : k + 4 ≤ 2048) (v1 : Int32) (v2 : Int32) : wpX_agree (fun r u' => wpY_agree (fun r' => r' = r ∧ i_Rel (k + 4) u' v) v v1 v2) u v1 v2 := by
  obtain ⟨c, A, F, G, sp, rl, rh, st, ec, lc, pe, se, le, cp, rfl, rfl, hc, hR⟩ := I
  unfold wpX_agree wpY_agree
  dsimp only
  refine xen (fun e he ee => br_f xe_n10 (xen (fun e2 he2 ee2 => br_f xe_n10 ?_) (fun h => br_t rfl ?_))) (fun h => br_t rfl ?_)
  · subst ee ee2
    refine xfo1 hc hR he (fun o1 sp1 rl1 rh1 st1 ec1 lc1 pe1 hD1 => ?_)
    refine xfo2 hc hR he2 (fun o2 sp2 rl2 rh2 st2 ec2 lc2 pe2 hD2 => ⟨c + 1, xag38 hc (fun m hm => ?_) ?_ (c + 1) 0 (by omega) (by omega)⟩)
    · obtain ⟨i, hi, er, eo⟩ := so_D_at hc hD1 hm
      have := hD2 i hi
      rw [er] at this
      show o1 m = o2 m
      rw [eo, this]
    · exact yen (fun _ _ _ => br_f xe_n10 (yen (fun _ _ _ => br_f xe_n10 ⟨rfl, i_mk hc hR⟩) (fun z => (z e2 he2 rfl).elim))) (fun z => (z e he rfl).elim)
  · exact yen (fun _ _ _ => br_f xe_n10 (yen (fun j hj ej => (h j hj ej).elim) (fun _ => br_t rfl ⟨rfl, i_mk hc hR⟩))) (fun z => (z e he ee).elim)
  · exact yen (fun j hj ej => (h j hj ej).elim) (fun _ => br_t rfl ⟨rfl, i_mk hc hR⟩)
section
variable {A F G sp rl rh st ec lc pe se le cp : Nat → Int32} {fc : Int32} {c : Nat}
theorem xso25 {post : Int32 → SX → Prop} (hc : c ≤ 40) (hF : ∀ k, k < c → ∃ i, i < c ∧ F k = nI i)
    (K : ∀ sp', (∀ m, m < c → sp' m = A (F m).toNatClampNeg) → post (nI (so_c (fun m => decide (¬ F m = nI m)) c)) (nI c, so_cp A sp' 0 c, F, G, sp', rl, rh, st, ec, lc, pe, se, le)) :
    ∀ (n k r : Nat) (sp : Nat → Int32), c < n + k → k ≤ c → (∀ m, m < k → sp m = A (F m).toNatClampNeg) → r = so_c (fun m => decide (¬ F m = nI m)) k →
    wX_sort_25 post (nI c) n (nI r) (nI k) A F G sp rl rh st ec lc pe se le := by
  intro n
  induction n with
  | zero => intro k r sp h1 h2; omega
  | succ n ih =>
    intro k r sp h1 h2 h3 hr
    rw [wX_sort_25]
    have ck : (nI k).toNatClampNeg = k := nI_clamp (by omega)
    refine pk_le c k (fun e => ?_) (fun e => ?_)
    · have ek : k = c := by omega
      rw [ek] at hr h3
      rw [hr]
      exact xcpn (a := 0) (b := c) (by omega) hc (K sp h3)
    · obtain ⟨i, hi, ei⟩ := hF k e
      have vk : vp_in (nI k) 40 := vp_in_nI (by omega) (by omega)
      have vo : vp_in (F (nI k).toNatClampNeg) 40 := by rw [ck, ei]; exact vp_in_nI (by omega) (by omega)
      have hsp : ∀ m, m < k + 1 → upd sp k (A (F k).toNatClampNeg) m = A (F m).toNatClampNeg := fun m hm => by
        by_cases q : m = k
        · rw [q, so_uS]
        · rw [so_uN q]; exact h3 m (by omega)
      refine ⟨vk, vo, vk, nm_r (e' := upd sp k (A (F k).toNatClampNeg)) (by rw [ck]) ⟨vk, br_c (fun z => nm_r (nI_1 k) (ih (k + 1) r _ (by omega) (by omega) hsp ?_)) (fun z => nm_r (nI_1 r) (nm_r (nI_1 k) (ih (k + 1) (r + 1) _ (by omega) (by omega) hsp ?_)))⟩⟩
      · rw [ck] at z
        rw [so_cs, decide_eq_false (fun y => y z), so_f0, hr]; rfl
      · rw [ck] at z
        rw [so_cs, decide_eq_true z, so_t1, hr]
theorem yso66 {post : Int32 → SY → Prop} {x : Int32} (hc : c ≤ 40) (K : post x (nI c, so_cp A cp 0 c, cp)) :
    ∀ n k : Nat, c < n + k → k ≤ c → wY_sort_66 post x (nI c) n (nI k) (so_cp A cp 0 k) cp := by
  intro n
  induction n with
  | zero => intro k h1 h2; omega
  | succ n ih =>
    intro k h1 h2
    rw [wY_sort_66]
    have ck : (nI k).toNatClampNeg = k := nI_clamp (by omega)
    refine pk_le c k (fun e => ?_) (fun e => ⟨vp_in_nI (by omega) (by omega), vp_in_nI (by omega) (by omega), nm_r (e' := so_cp A cp 0 (k + 1)) (by rw [ck, so_cp_s A cp (by omega)]) (nm_r (nI_1 k) (ih (k + 1) (by omega) (by omega)))⟩)
    have : k = c := by omega
    rw [this]; exact K
theorem yso16 {post : Int32 → SY → Prop} (hc : c ≤ 40)
    (K : ∀ cp', (∀ i, i < c → cp' (so_rk (so_B A) c (nI i)) = A i) → post (nI (so_c (fun m => decide (¬ so_rk (so_B A) c (nI m) = m)) c)) (nI c, so_cp A cp' 0 c, cp')) :
    ∀ (n k r : Nat) (cp : Nat → Int32), c < n + k → k ≤ c → (∀ i, i < k → cp (so_rk (so_B A) c (nI i)) = A i) → r = so_c (fun m => decide (¬ so_rk (so_B A) c (nI m) = m)) k →
    wY_sort_16 post (nI c) n (nI r) (nI k) A cp := by
  intro n
  induction n with
  | zero => intro k r cp h1 h2; omega
  | succ n ih =>
    intro k r cp h1 h2 h3 hr
    rw [wY_sort_16]
    have ck : (nI k).toNatClampNeg = k := nI_clamp (by omega)
    have hB := so_BO A
    refine pk_le c k (fun e => ⟨c + 1, ?_⟩) (fun e => yrk hc (by omega) ?_)
    · have ek : k = c := by omega
      rw [ek] at hr h3
      rw [hr]
      have hy := yso66 (A := A) (cp := cp) (post := post) hc (K cp h3) (c + 1) 0 (by omega) (by omega)
      rw [so_cp_0] at hy; exact hy
    · have hl := so_rk_lt hB e
      have hcp : ∀ i, i < k + 1 → upd cp (so_rk (so_B A) c (nI k)) (A k) (so_rk (so_B A) c (nI i)) = A i := fun i hi => by
        by_cases q : i = k
        · rw [q, so_uS]
        · rw [so_uN]
          · exact h3 i (by omega)
          · exact fun z => q (so_rk_inj hB (by omega) (by omega) e z)
      refine ⟨vp_in_nI (by omega) (by omega), vp_in_nI (by omega) (by omega), nm_r (e' := upd cp (so_rk (so_B A) c (nI k)) (A k)) (by rw [nI_clamp (n := so_rk (so_B A) c (nI k)) (by omega), ck]) ?_⟩
      refine pk_eq (so_rk (so_B A) c (nI k)) k (fun z => nm_r (nI_1 k) (ih (k + 1) r _ (by omega) (by omega) hcp ?_)) (fun z => nm_r (nI_1 r) (nm_r (nI_1 k) (ih (k + 1) (r + 1) _ (by omega) (by omega) hcp ?_)))
      · rw [so_cs, decide_eq_false (fun y => y z), so_f0, hr]; rfl
      · rw [so_cs, decide_eq_true z, so_t1, hr]
end
theorem i_vc_sort {k : Nat} {u : SX} {v : SY} (I : i_Rel k u v) (hk : k + 4 ≤ 2048) (v1 : Int32) : wpX_sort (fun r u' => wpY_sort (fun r' v' => r' = r ∧ i_Rel (k + 4) u' v') v v1) u v1 := by
  obtain ⟨c, A, F, G, sp, rl, rh, st, ec, lc, pe, se, le, cp, rfl, rfl, hc, hR⟩ := I
  unfold wpX_sort wpY_sort
  dsimp only
  refine xen (fun e he ee => br_f xe_n10 ?_) (fun h => br_t rfl ?_)
  · subst ee
    refine xfo1 hc hR he (fun o sp1 rl1 rh1 st1 ec1 lc1 pe1 hD => ⟨c + 1, xso25 hc (fun m hm => ?_) (fun sp' hsp => ?_) (c + 1) 0 0 sp1 (by omega) (by omega) (fun m hm => by omega) rfl⟩)
    · obtain ⟨i, hi, er, eo⟩ := so_D_at hc hD hm
      exact ⟨i, hi, eo⟩
    · refine yen (fun _ _ _ => br_f xe_n10 ⟨c + 1, yso16 hc (fun cp' hcp => ?_) (c + 1) 0 0 cp (by omega) (by omega) (fun m hm => by omega) rfl⟩) (fun z => (z e he rfl).elim)
      have hsp2 : ∀ m, m < c → sp' m = A (o m).toNatClampNeg := hsp
      have hB := so_BO A
      have eqA : so_cp A sp' 0 c = so_cp A cp' 0 c := by
        funext m
        by_cases q : m < c
        · obtain ⟨i, hi, er, eo⟩ := so_D_at hc hD q
          rw [so_cp_i A sp' (by omega) q, so_cp_i A cp' (by omega) q, hsp2 m q, eo, nI_clamp (by omega), ← er, hcp i hi]
        · rw [so_cp_o A sp' (by omega), so_cp_o A cp' (by omega)]
      have eqN : so_c (fun m => decide (¬ so_rk (so_B A) c (nI m) = m)) c = so_c (fun m => decide (¬ o m = nI m)) c := by
        rw [← so_re c (fun i => so_rk (so_B A) c (nI i)) (fun m => decide (¬ o m = nI m)) (fun i hi => so_rk_lt hB hi) (fun i j hi hj q => so_rk_inj hB (by omega) hi hj q)]
        refine so_c_ext (fun m hm => ?_)
        have hl := so_rk_lt hB hm
        rw [hD m hm]
        refine decide_eq_decide.2 ?_
        rw [nI_eq (by omega) (by omega)]
        omega
      refine ⟨congrArg nI eqN, ?_⟩
      try dsimp only
      rw [eqA]
      refine i_mk hc (fun i hi => ?_)
      obtain ⟨j, hj, er⟩ := so_rk_sur hB (show c < 2 ^ 31 by omega) hi
      rw [so_cp_i A cp' (by omega) hi, ← er, hcp j hj]
      exact hR j hj
  · exact yen (fun j hj ej => (h j hj ej).elim) (fun _ => br_t rfl ⟨rfl, i_mk hc hR⟩)
