section
variable {A h sp rl rh st ec lc pe se le : Nat → Int32} {fc : Int32} {c : Nat}
theorem xra2_2 {post : SX → Prop} (hc : c ≤ 40) (K : ∀ o', so_D (so_B A) c o' → post (nI c, A, h, o', sp, rl, rh, st, ec, lc, pe, se, le)) :
    ∀ (n p : Nat) (o : Nat → Int32), c < n + p → p ≤ c → so_fi (so_B A) c p o → wX_orderByRank__secondOrder_2 post (nI c) n (nI p) A h o sp rl rh st ec lc pe se le := by
  intro n
  induction n with
  | zero => intro p o h1 h2; omega
  | succ n ih =>
    intro p o h1 h2 hf
    rw [wX_orderByRank__secondOrder_2]
    refine pk_le c p (fun e => K o ?_) (fun e => xrk hc (by omega) ?_)
    · have : p = c := by omega
      rw [this] at hf; exact hf
    · have hr := so_rk_lt (so_BO A) e
      exact ⟨vp_in_nI (by omega) (by omega), nm_r (e' := upd o (so_rk (so_B A) c (nI p)) (nI p)) (by rw [nI_clamp (by omega)]) (nm_r (nI_1 p) (ih (p + 1) _ (by omega) (by omega) (so_fi_s (so_BO A) (by omega) e hf)))⟩
theorem xra2 {post : SX → Prop} {o : Nat → Int32} (hc : c ≤ 40) (K : ∀ o', so_D (so_B A) c o' → post (nI c, A, h, o', sp, rl, rh, st, ec, lc, pe, se, le)) : wpX_orderByRank__secondOrder post (nI c, A, h, o, sp, rl, rh, st, ec, lc, pe, se, le) :=
  ⟨c + 1, xra2_2 hc K (c + 1) 0 o (by omega) (by omega) (so_fi_0 c o)⟩
theorem xco90_2 {post : SX → Prop} (hc : c ≤ 40) (hR : so_R A c) (K : ∀ o' st', so_D (so_B A) c o' → post (nI c, A, h, o', sp, rl, rh, st', ec, lc, pe, se, le)) :
    ∀ (n p : Nat) (o st : Nat → Int32), c < n + p → p ≤ c → so_fi (so_B A) c p o → (∀ j, j < 199 → st j = nI (so_c (fun m => decide (so_kn (A m) < j)) c + so_c (fun m => decide (so_kn (A m) = j)) p)) →
    wX_orderByCounting__secondOrder_90 post (nI c) n (nI p) A h o sp rl rh st ec lc pe se le := by
  intro n
  induction n with
  | zero => intro p o st h1 h2; omega
  | succ n ih =>
    intro p o st h1 h2 hf hst
    rw [wX_orderByCounting__secondOrder_90]
    refine pk_le c p (fun e => K o st ?_) (fun e => xky (by omega) ?_)
    · have : p = c := by omega
      rw [this] at hf; exact hf
    · obtain ⟨k1, k2, k3⟩ := so_knk (hR p e).1 (hR p e).2
      have hr := so_rk_lt (so_BO A) e
      have hs := hst (so_kn (A p)) k1
      rw [so_ck (L := A) (ky := fun m => so_kn (A m)) (by omega) (fun i hi => (so_knk (hR i hi).1 (hR i hi).2).2.2) e] at hs
      rw [k2]
      have ck : (nI (so_kn (A p))).toNatClampNeg = so_kn (A p) := nI_clamp (by omega)
      have vk : vp_in (nI (so_kn (A p))) 200 := vp_in_nI (by omega) (by omega)
      refine ⟨vk, by rw [ck, hs]; exact vp_in_nI (by omega) (by omega), nm_r (e' := upd o (so_rk (so_B A) c (nI p)) (nI p)) (by rw [ck, hs, nI_clamp (by omega)]) ⟨vk, vk, nm_r (e' := upd st (so_kn (A p)) (nI (so_rk (so_B A) c (nI p) + 1))) (by rw [ck, hs, nI_1]) (nm_r (nI_1 p) (ih (p + 1) _ _ (by omega) (by omega) (so_fi_s (so_BO A) (by omega) e hf) (fun j hj => ?_)))⟩⟩
      rw [so_cs]
      by_cases q : j = so_kn (A p)
      · rw [q, so_uS, decide_eq_true rfl, so_t1, ← so_ck (L := A) (ky := fun m => so_kn (A m)) (by omega) (fun i hi => (so_knk (hR i hi).1 (hR i hi).2).2.2) e]
        rfl
      · rw [so_uN q, decide_eq_false (fun z => q z.symm), so_f0, hst j hj]
        rfl
theorem xco58_2 {post : SX → Prop} {o : Nat → Int32} (hc : c ≤ 40) (hR : so_R A c) (K : ∀ o' st', so_D (so_B A) c o' → post (nI c, A, h, o', sp, rl, rh, st', ec, lc, pe, se, le)) :
    ∀ (n k : Nat) (st : Nat → Int32), 200 < n + k + 1 → k + 1 ≤ 200 → (∀ j, j < 200 → st j = nI (so_c3 (fun m => so_kn (A m)) c (k + 1) j)) →
    wX_orderByCounting__secondOrder_58 post (nI c) n (nI (k + 1)) A h o sp rl rh st ec lc pe se le := by
  intro n
  induction n with
  | zero => intro k st h1 h2; omega
  | succ n ih =>
    intro k st h1 h2 hst
    rw [wX_orderByCounting__secondOrder_58]
    have ck : (nI (k + 1)).toNatClampNeg = k + 1 := nI_clamp (by omega)
    have ck' : (nI (k + 1) - 1).toNatClampNeg = k := by rw [nI_pred]; exact nI_clamp (by omega)
    refine pk_le 200 (k + 1) (fun e => ⟨c + 1, xco90_2 hc hR K (c + 1) 0 o st (by omega) (by omega) (so_fi_0 c o) (fun j hj => ?_)⟩)
      (fun e => ⟨vp_in_nI (by omega) (by omega), by rw [nI_pred]; exact vp_in_nI (by omega) (by omega), vp_in_nI (by omega) (by omega), nm_r (e' := upd st (k + 1) (nI (so_c3 (fun m => so_kn (A m)) c (k + 2) (k + 1)))) (by rw [ck, ck', hst (k + 1) (by omega), hst k (by omega), nI_add, so_c3_s]) (nm_r (nI_1 (k + 1)) (ih (k + 1) _ (by omega) (by omega) (fun j hj => ?_)))⟩)
    · have e2 : k + 1 = 200 := by omega
      rw [e2] at hst
      rw [hst j (by omega), so_c3_e _ _ _ (by omega)]
      rfl
    · by_cases q : j = k + 1
      · rw [q, so_uS]
      · rw [so_uN q, hst j hj, so_c3_o _ _ _ _ q]
theorem xco24_2 {post : SX → Prop} {o : Nat → Int32} (hc : c ≤ 40) (hR : so_R A c) (K : ∀ o' st', so_D (so_B A) c o' → post (nI c, A, h, o', sp, rl, rh, st', ec, lc, pe, se, le)) :
    ∀ (n p : Nat) (st : Nat → Int32), c < n + p → p ≤ c → (∀ j, j < 200 → st j = nI (so_c (fun m => decide (so_kn (A m) + 1 = j)) p)) →
    wX_orderByCounting__secondOrder_24 post (nI c) n (nI p) A h o sp rl rh st ec lc pe se le := by
  intro n
  induction n with
  | zero => intro p st h1 h2; omega
  | succ n ih =>
    intro p st h1 h2 hst
    rw [wX_orderByCounting__secondOrder_24]
    refine pk_le c p (fun e => ⟨200, xco58_2 hc hR K 200 0 st (by omega) (by omega) (fun j hj => ?_)⟩) (fun e => xky (by omega) ?_)
    · have : p = c := by omega
      rw [this] at hst
      rw [hst j hj, so_c3_1]
    · obtain ⟨k1, k2, k3⟩ := so_knk (hR p e).1 (hR p e).2
      rw [k2]
      have ck : (nI (so_kn (A p)) + 1).toNatClampNeg = so_kn (A p) + 1 := by rw [nI_1]; exact nI_clamp (by omega)
      have vk : vp_in (nI (so_kn (A p)) + 1) 200 := by rw [nI_1]; exact vp_in_nI (by omega) (by omega)
      refine ⟨vk, vk, nm_r (e' := upd st (so_kn (A p) + 1) (nI (so_c (fun m => decide (so_kn (A m) + 1 = so_kn (A p) + 1)) p + 1))) (by rw [ck, hst _ (by omega), nI_1]) (nm_r (nI_1 p) (ih (p + 1) _ (by omega) (by omega) (fun j hj => ?_)))⟩
      rw [so_cs]
      by_cases q : j = so_kn (A p) + 1
      · rw [q, so_uS, decide_eq_true rfl, so_t1]
      · rw [so_uN q, decide_eq_false (fun z => q z.symm), so_f0, hst j hj]
        rfl
theorem xco2_2 {post : SX → Prop} {o : Nat → Int32} (hc : c ≤ 40) (hR : so_R A c) (K : ∀ o' st', so_D (so_B A) c o' → post (nI c, A, h, o', sp, rl, rh, st', ec, lc, pe, se, le)) :
    ∀ (n k : Nat) (st : Nat → Int32), 200 < n + k → k ≤ 200 → (∀ j, j < k → st j = 0) → wX_orderByCounting__secondOrder_2 post (nI c) n (nI k) A h o sp rl rh st ec lc pe se le := by
  intro n
  induction n with
  | zero => intro k st h1 h2; omega
  | succ n ih =>
    intro k st h1 h2 hst
    rw [wX_orderByCounting__secondOrder_2]
    have ck : (nI k).toNatClampNeg = k := nI_clamp (by omega)
    refine pk_le 200 k (fun e => ⟨c + 1, xco24_2 hc hR K (c + 1) 0 st (by omega) (by omega) (fun j hj => ?_)⟩) (fun e => ⟨vp_in_nI (by omega) (by omega), nm_r (e' := upd st k 0) (by rw [ck]) (nm_r (nI_1 k) (ih (k + 1) _ (by omega) (by omega) (fun j hj => ?_)))⟩)
    · exact hst j (by omega)
    · by_cases q : j = k
      · rw [q]; exact so_uS
      · rw [so_uN q]; exact hst j (by omega)
theorem xco2 {post : SX → Prop} {o : Nat → Int32} (hc : c ≤ 40) (hR : so_R A c) (K : ∀ o' st', so_D (so_B A) c o' → post (nI c, A, h, o', sp, rl, rh, st', ec, lc, pe, se, le)) : wpX_orderByCounting__secondOrder post (nI c, A, h, o, sp, rl, rh, st, ec, lc, pe, se, le) :=
  ⟨201, xco2_2 hc hR K 201 0 st (by omega) (by omega) (fun j hj => by omega)⟩
theorem xcb7_2 {post : Int32 → SX → Prop} {o s0 : Nat → Int32} {b w t : Nat} (hc : c ≤ 40) (hR : so_R A c) (hP : so_P c o) (hb : b < 8) (hw : w < 2) (ht : t + so_cb (so_kf A) b w o c ≤ c)
    (K : ∀ s, so_co (so_kf A) b w t o c s0 s → post (nI (t + so_cb (so_kf A) b w o c)) (nI c, A, h, o, s, rl, rh, st, ec, lc, pe, se, le)) :
    ∀ (n k : Nat) (s : Nat → Int32), c < n + k → k ≤ c → so_co (so_kf A) b w t o k s0 s → wX_collectBit__secondOrder_7 post (nI b) (nI w) (nI c) n (nI (t + so_cb (so_kf A) b w o k)) (nI k) A h o s rl rh st ec lc pe se le := by
  intro n
  induction n with
  | zero => intro k s h1 h2; omega
  | succ n ih =>
    intro k s h1 h2 hs
    rw [wX_collectBit__secondOrder_7]
    have ck : (nI k).toNatClampNeg = k := nI_clamp (by omega)
    refine pk_le c k (fun e => ?_) (fun e => ⟨vp_in_nI (by omega) (by omega), ?_⟩)
    · have : k = c := by omega
      rw [this] at hs ⊢; exact K s hs
    · obtain ⟨i, hi, ei⟩ := so_P_in hP e
      obtain ⟨k1, k2, k3⟩ := so_knk (hR i hi).1 (hR i hi).2
      have ebt : so_bt (so_kf A) b (o k) = so_kn (A i) / 2 ^ b % 2 := by unfold so_bt; rw [ei, so_kfn (by omega)]
      rw [ck]
      have goal : ∀ x, x = o k → wpX_keyOf (fun r_3 => (((r_3 >>> (nI b &&& 31)) &&& 1) = nI w → vp_in (nI k) 40 ∧ (vp_in (nI (t + so_cb (so_kf A) b w o k)) 40 ∧ ∀ y, y = upd s (nI (t + so_cb (so_kf A) b w o k)).toNatClampNeg (o k) → ∀ x5, x5 = nI (t + so_cb (so_kf A) b w o k) + 1 → ∀ x6, x6 = nI k + 1 → wX_collectBit__secondOrder_7 post (nI b) (nI w) (nI c) n x5 x6 A h o y rl rh st ec lc pe se le)) ∧ (¬ ((r_3 >>> (nI b &&& 31)) &&& 1) = nI w → ∀ x6, x6 = nI k + 1 → wX_collectBit__secondOrder_7 post (nI b) (nI w) (nI c) n (nI (t + so_cb (so_kf A) b w o k)) x6 A h o s rl rh st ec lc pe se le)) (nI c, A, h, o, s, rl, rh, st, ec, lc, pe, se, le) x := by
        intro x ex
        rw [ex, ei]
        refine xky (by omega) ?_
        rw [k2, so_bit k1 hb, ← ei]
        have hlt : so_kn (A i) / 2 ^ b % 2 < 2 := Nat.mod_lt _ (by omega)
        refine pk_eq (so_kn (A i) / 2 ^ b % 2) w (fun q => ?_) (fun q => ?_)
        · rw [← ebt] at q
          have hl := so_cb_lt (n := c) e q
          have h3 := ih (k + 1) (upd s (t + so_cb (so_kf A) b w o k) (o k)) (by omega) (by omega) (so_co_t hs q)
          rw [so_cb_t q] at h3
          exact ⟨vp_in_nI (by omega) (by omega), vp_in_nI (by omega) (by omega), nm_r (e' := upd s (t + so_cb (so_kf A) b w o k) (o k)) (by rw [nI_clamp (by omega)]) (nm_r (nI_1 _) (nm_r (nI_1 k) h3))⟩
        · rw [← ebt] at q
          have h3 := ih (k + 1) s (by omega) (by omega) (so_co_f hs q)
          rw [so_cb_f q] at h3
          exact nm_r (nI_1 k) h3
      exact goal _ rfl
theorem xcb2 {post : Int32 → SX → Prop} {o : Nat → Int32} {b w t : Nat} (hc : c ≤ 40) (hR : so_R A c) (hP : so_P c o) (hb : b < 8) (hw : w < 2) (ht : t + so_cb (so_kf A) b w o c ≤ c)
    (K : ∀ s, so_co (so_kf A) b w t o c sp s → post (nI (t + so_cb (so_kf A) b w o c)) (nI c, A, h, o, s, rl, rh, st, ec, lc, pe, se, le)) : wpX_collectBit__secondOrder post (nI c, A, h, o, sp, rl, rh, st, ec, lc, pe, se, le) (nI b) (nI w) (nI t) :=
  ⟨c + 1, xcb7_2 hc hR hP hb hw ht K (c + 1) 0 sp (by omega) (by omega) (so_co_0 _ _ _ _ _ _)⟩
theorem xbi2_2 {post : SX → Prop} (hc : c ≤ 40) (hR : so_R A c) (K : ∀ o' sp', so_P c o' → so_S (so_B A) o' 0 c → post (nI c, A, h, o', sp', rl, rh, st, ec, lc, pe, se, le)) :
    ∀ (n b : Nat) (o sp : Nat → Int32), 8 < n + b → b ≤ 8 → so_P c o → so_S (so_Rb (so_kf A) b) o 0 c → wX_orderByBits__secondOrder_2 post n (nI b) (nI c) A h o sp rl rh st ec lc pe se le := by
  intro n
  induction n with
  | zero => intro b o sp h1 h2; omega
  | succ n ih =>
    intro b o sp h1 h2 hP hS
    rw [wX_orderByBits__secondOrder_2]
    refine pk_le 8 b (fun e => K o sp hP (so_Rb_e (kf := so_kf A) (by omega) (fun i hi => ?_) hP ?_)) (fun e => ?_)
    · obtain ⟨k1, k2, k3⟩ := so_knk (hR i hi).1 (hR i hi).2
      rw [so_kfn (by omega)]; exact ⟨k3, by omega⟩
    · have : b = 8 := by omega
      rw [this] at hS; exact hS
    · have hN := so_cb_n (so_kf A) b o c
      refine xcb2 (b := b) (w := 0) (t := 0) hc hR hP e (by omega) (by omega) (fun s1 q1 => ?_)
      refine xcb2 (b := b) (w := 1) (t := 0 + so_cb (so_kf A) b 0 o c) hc hR hP e (by omega) (by omega) (fun s2 q2 => ?_)
      rw [Nat.zero_add] at q2
      obtain ⟨p1, p2⟩ := so_pass q1 q2 hP hS
      have hx : ∀ m, m < c → so_cp o s2 0 c m = s2 m := fun m hm => so_cp_i o s2 (by omega) hm
      exact xcp2 (a := 0) (b := c) (by omega) hc (nm_r (nI_1 b) (ih (b + 1) _ s2 (by omega) (by omega) (so_P_x hx p1) (so_S_x hx p2)))
theorem xbi2 {post : SX → Prop} {o : Nat → Int32} (hc : c ≤ 40) (hR : so_R A c) (hI : ∀ m, m < c → o m = nI m) (K : ∀ o' sp', so_P c o' → so_S (so_B A) o' 0 c → post (nI c, A, h, o', sp', rl, rh, st, ec, lc, pe, se, le)) : wpX_orderByBits__secondOrder post (nI c, A, h, o, sp, rl, rh, st, ec, lc, pe, se, le) :=
  ⟨9, xbi2_2 hc hR K 9 0 o sp (by omega) (by omega) (so_P_id hI) (so_Rb_0 (by omega) hI)⟩
theorem xwt10_2 {post : SX → Prop} {ρ lo hi : Nat → Nat} (hc : c ≤ 40) (hρ : so_pm c ρ) (hF : so_F c ρ ec lc lo hi) (K : ∀ o' pe', (∀ v, v < c → o' (ρ v) = nI v) → post (nI c, A, h, o', sp, rl, rh, st, ec, lc, pe', se, le)) :
    ∀ (n w d s : Nat) (nd : Int32) (o pe : Nat → Int32), 2 * c < n + s → s = 2 * d + w → s ≤ 2 * c → so_K c ρ lo hi pe nd w d o → wX_walkTree__secondOrder_10 post (nI c) n nd (nI w) (nI d) (nI s) A h o sp rl rh st ec lc pe se le := by
  intro n
  induction n with
  | zero => intro w d s nd o pe h1 h2 h3; omega
  | succ n ih =>
    intro w d s nd o pe h1 h2 h3 hK
    rw [wX_walkTree__secondOrder_10]
    refine pk_le (2 * c) s (fun e => K o pe (so_K_e hF hρ.1 hK (by omega))) (fun e => br_c (fun q => ?_) (fun q => ?_)) (pk_mul 2 c)
    · rw [q] at hK
      rcases so_K_lt hF hK with ⟨_, z1, z2⟩ | _
      · omega
      · cases w with
        | zero =>
          rcases so_K_lt hF hK with z | z
          · omega
          · obtain ⟨t, t1, t2, t3⟩ := hK
            rcases t2 with ⟨_, t4⟩ | ⟨v, _, t4, _⟩
            · have : d = c := t4
              omega
            · exact (so_m1 (by omega) t4.symm).elim
        | succ w =>
          obtain ⟨z1, z2, v, z3, z4, z5⟩ := so_K_pop hF hρ.2 hK (by omega)
          have cw : (nI w).toNatClampNeg = w := nI_clamp (by omega)
          have cd : (nI d).toNatClampNeg = d := nI_clamp (by omega)
          have cv : (nI v).toNatClampNeg = v := nI_clamp (by omega)
          refine nm_r (pk_m1 w) ⟨vp_in_nI (by omega) (by omega), vp_in_nI (by omega) (by omega), nm_r (e' := upd o d (nI v)) (by rw [cd, cw, z4]) ⟨vp_in_nI (by omega) (by omega), ?_, nm_r (e' := lc v) ?_ (nm_r (nI_1 d) (nm_r (nI_1 s) (ih w (d + 1) (s + 1) _ _ _ (by omega) (by omega) (by omega) z5)))⟩⟩
          · rw [cd, so_uS]; exact vp_in_nI (by omega) (by omega)
          · rw [cd, so_uS, cv]
    · have hv : ∃ v, v < c ∧ nd = nI v := by
        obtain ⟨t, t1, t2, t3⟩ := hK
        rcases t2 with ⟨t4, _⟩ | ⟨v, t5, t4, _⟩
        · exact (q t4).elim
        · exact ⟨v, t5, t4⟩
      obtain ⟨v, hv1, hv2⟩ := hv
      rw [hv2] at hK ⊢
      obtain ⟨z1, z2, z3⟩ := so_K_push hF (by omega) hK (by omega)
      have cw : (nI w).toNatClampNeg = w := nI_clamp (by omega)
      have cv : (nI v).toNatClampNeg = v := nI_clamp (by omega)
      exact ⟨vp_in_nI (by omega) (by omega), nm_r (e' := upd pe w (nI v)) (by rw [cw]) (nm_r (nI_1 w) ⟨vp_in_nI (by omega) (by omega), nm_r (e' := ec v) (by rw [cv]) (nm_r (nI_1 s) (ih (w + 1) d (s + 1) _ _ _ (by omega) (by omega) (by omega) z3))⟩)⟩
theorem xwt2 {post : SX → Prop} {o : Nat → Int32} {ρ lo hi : Nat → Nat} (hc : c ≤ 40) (h0 : 0 < c) (hρ : so_pm c ρ) (hF : so_F c ρ ec lc lo hi) (K : ∀ o' pe', (∀ v, v < c → o' (ρ v) = nI v) → post (nI c, A, h, o', sp, rl, rh, st, ec, lc, pe', se, le)) : wpX_walkTree__secondOrder post (nI c, A, h, o, sp, rl, rh, st, ec, lc, pe, se, le) :=
  ⟨2 * c + 1, xwt10_2 hc hρ hF K (2 * c + 1) 0 0 0 0 o pe (by omega) (by omega) (by omega) (so_K_0 hF h0)⟩
theorem xtr32_2 {post : SX → Prop} {o : Nat → Int32} {ρ : Nat → Nat} (hc : c ≤ 40) (hρ : so_pm c ρ) (hρ' : ∀ i, i < c → ρ i = so_rk (so_B A) c (nI i)) (K : ∀ o' ec' lc' pe', (∀ v, v < c → o' (ρ v) = nI v) → post (nI c, A, h, o', sp, rl, rh, st, ec', lc', pe', se, le)) :
    ∀ (n p : Nat) (ec lc : Nat → Int32) (lo hi : Nat → Nat), c < n + p → 0 < p → p ≤ c → so_T c p ρ ec lc lo hi → wX_orderByTree__secondOrder_32 post n (nI p) (nI c) A h o sp rl rh st ec lc pe se le := by
  intro n
  induction n with
  | zero => intro p ec lc lo hi h1 h2 h3; omega
  | succ n ih =>
    intro p ec lc lo hi h1 h2 h3 hT
    rw [wX_orderByTree__secondOrder_32]
    refine pk_le c p (fun e => ?_) (fun e => xht hc hρ' h2 e hT (fun ec' lc' lo' hi' hT' => nm_r (nI_1 p) (ih (p + 1) ec' lc' lo' hi' (by omega) (by omega) (by omega) hT')))
    have : p = c := by omega
    rw [this] at hT
    exact xwt2 hc (by omega) hρ (so_F_of hT (fun k hk => so_sur hρ.1 hρ.2 hk)) (fun o' pe' q => K o' ec lc pe' q)
theorem xtr2_2 {post : SX → Prop} {o : Nat → Int32} {ρ : Nat → Nat} (hc : c ≤ 40) (hρ : so_pm c ρ) (hρ' : ∀ i, i < c → ρ i = so_rk (so_B A) c (nI i)) (K : ∀ o' ec' lc' pe', (∀ v, v < c → o' (ρ v) = nI v) → post (nI c, A, h, o', sp, rl, rh, st, ec', lc', pe', se, le)) :
    ∀ (n k : Nat) (ec lc : Nat → Int32), c < n + k → k ≤ c → (∀ v, v < k → ec v = -1 ∧ lc v = -1) → wX_orderByTree__secondOrder_2 post (nI c) n (nI k) A h o sp rl rh st ec lc pe se le := by
  intro n
  induction n with
  | zero => intro k ec lc h1 h2; omega
  | succ n ih =>
    intro k ec lc h1 h2 hv
    rw [wX_orderByTree__secondOrder_2]
    have ck : (nI k).toNatClampNeg = k := nI_clamp (by omega)
    refine pk_le c k (fun e => ?_) (fun e => ⟨vp_in_nI (by omega) (by omega), nm_r (e' := upd ec k (-1)) (by rw [ck]) ⟨vp_in_nI (by omega) (by omega), nm_r (e' := upd lc k (-1)) (by rw [ck]) (nm_r (nI_1 k) (ih (k + 1) _ _ (by omega) (by omega) (fun v hv' => ?_)))⟩⟩)
    · by_cases z : c = 0
      · subst z
        exact ⟨1, br_t (by decide) ⟨1, br_t (by decide) (K o ec lc pe (fun v hv => by omega))⟩⟩
      · exact ⟨c + 1, xtr32_2 hc hρ hρ' K (c + 1) 1 ec lc _ _ (by omega) (by omega) (by omega) (so_T_1 (by omega) (hρ.1 0 (by omega)) (fun v hv' => hv v (by omega)))⟩
    · by_cases q : v = k
      · rw [q]; exact ⟨so_uS, so_uS⟩
      · rw [so_uN q, so_uN q]; exact hv v (by omega)
theorem xtr2 {post : SX → Prop} {o : Nat → Int32} (hc : c ≤ 40) (K : ∀ o' ec' lc' pe', so_D (so_B A) c o' → post (nI c, A, h, o', sp, rl, rh, st, ec', lc', pe', se, le)) : wpX_orderByTree__secondOrder post (nI c, A, h, o, sp, rl, rh, st, ec, lc, pe, se, le) :=
  ⟨c + 1, xtr2_2 (ρ := fun i => so_rk (so_B A) c (nI i)) hc ⟨fun i hi => so_rk_lt (so_BO A) hi, fun i j hi hj e => so_rk_inj (so_BO A) (by omega) hi hj e⟩ (fun i hi => rfl) (fun o' ec' lc' pe' q => K o' ec' lc' pe' q) (c + 1) 0 ec lc (by omega) (by omega) (fun v hv => by omega)⟩
end
