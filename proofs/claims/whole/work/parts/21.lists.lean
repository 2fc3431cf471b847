/-- n numbers in steps behind the first c -/
def so_ap (A : Nat → Int32) (v s : Int32) (c k : Nat) : Nat → Int32 := fun j => if c ≤ j ∧ j < c + k then v + nI (j - c) * s else A j
theorem so_ap_0 (A : Nat → Int32) (v s : Int32) (c : Nat) : so_ap A v s c 0 = A := funext fun j => if_neg (by omega)
theorem so_ap_s (A : Nat → Int32) (v s : Int32) (c k : Nat) : upd (so_ap A v s c k) (c + k) (v + nI k * s) = so_ap A v s c (k + 1) := by
  funext j
  show (if j = c + k then v + nI k * s else so_ap A v s c k j) = so_ap A v s c (k + 1) j
  unfold so_ap
  by_cases a : j = c + k
  · have e : j - c = k := by omega
    rw [if_pos a, if_pos (by omega), e]
  · rw [if_neg a]
    by_cases b : c ≤ j ∧ j < c + k
    · rw [if_pos b, if_pos (by omega)]
    · rw [if_neg b, if_neg (by omega)]
theorem so_ap_R {A : Nat → Int32} {v s : Int32} {c m : Nat} (hR : so_R A c) (hv : so_ok v) (hs : so_ok s) (hm : m + 1 ≤ 40) (hl : so_ok (v + nI m * s)) : so_R (so_ap A v s c (m + 1)) (c + (m + 1)) := by
  intro j hj
  unfold so_ap
  by_cases b : c ≤ j ∧ j < c + (m + 1)
  · rw [if_pos b, so_vks hv.1 hv.2 hs.1 hs.2 (by omega)]
    have h1 := hl
    unfold so_ok at h1
    rw [so_vks hv.1 hv.2 hs.1 hs.2 (by omega)] at h1
    exact so_cv (m := (m : Int)) (by omega) (by omega) hv.1 hv.2 h1.1 h1.2
  · rw [if_neg b]; exact hR j (by omega)
section
variable {A F G sp rl rh st ec lc pe se le cp : Nat → Int32} {fc : Int32} {c : Nat}
theorem xap71 {post : Int32 → SX → Prop} {v s : Int32} {m : Nat} (hm : c + m ≤ 40) (K : post (nI (c + m)) (nI (c + m), so_ap A v s c m, F, G, sp, rl, rh, st, ec, lc, pe, se, le)) :
    ∀ n k : Nat, m < n + k → k ≤ m → wX_append_71 post v s (nI m) (nI c) n (nI k) (so_ap A v s c k) F G sp rl rh st ec lc pe se le := by
  intro n
  induction n with
  | zero => intro k h1 h2; omega
  | succ n ih =>
    intro k h1 h2
    rw [wX_append_71]
    have e1 : nI c + nI k = nI (c + k) := nI_add c k
    refine pk_le m k (fun e => nm_r (nI_add c m) ?_) (fun e => ⟨by rw [e1]; exact vp_in_nI (by omega) (by omega), nm_r (e' := so_ap A v s c (k + 1)) (by rw [e1, nI_clamp (by omega), so_ap_s]) (nm_r (nI_1 k) (ih (k + 1) (by omega) (by omega)))⟩)
    have : k = m := by omega
    rw [this]; exact K
theorem yap63 {post : Int32 → SY → Prop} {v s : Int32} {m : Nat} (hm : c + m ≤ 40) (K : post (nI (c + m)) (nI (c + m), so_ap A v s c m, cp)) :
    ∀ n k : Nat, m < n + k → k ≤ m → wY_append_63 post v s (nI m) (nI c) n (nI k) (so_ap A v s c k) cp := by
  intro n
  induction n with
  | zero => intro k h1 h2; omega
  | succ n ih =>
    intro k h1 h2
    rw [wY_append_63]
    have e1 : nI c + nI k = nI (c + k) := nI_add c k
    refine pk_le m k (fun e => nm_r (nI_add c m) ?_) (fun e => ⟨by rw [e1]; exact vp_in_nI (by omega) (by omega), nm_r (e' := so_ap A v s c (k + 1)) (by rw [e1, nI_clamp (by omega), so_ap_s]) (nm_r (nI_1 k) (ih (k + 1) (by omega) (by omega)))⟩)
    have : k = m := by omega
    rw [this]; exact K
theorem so_ok_l {x : Int32} : ¬ so_ok x ↔ (x < -99 ∨ ¬ x ≤ 99) := by
  unfold so_ok
  rw [Int32.lt_iff_toInt_lt, so_le99, so_m99]
  omega
theorem xap_bad {post : Int32 → SX → Prop} {v s n : Int32} (hb : n < 1 ∨ 40 < n ∨ ¬ so_ok v ∨ ¬ so_ok s ∨ ¬ so_ok (v + (n - 1) * s)) (K : post (-1000) (fc, A, F, G, sp, rl, rh, st, ec, lc, pe, se, le)) :
    wpX_append post (fc, A, F, G, sp, rl, rh, st, ec, lc, pe, se, le) v s n := by
  by_cases a1 : n < 1
  · exact br_t a1 K
  by_cases a2 : 40 < n
  · exact br_f a1 (br_t a2 K)
  refine br_f a1 (br_f a2 (xnu (fun g => br_f xe_n10 ?_) (fun _ => br_t rfl K)))
  by_cases a3 : s < -99
  · exact br_t a3 K
  by_cases a4 : s ≤ 99
  · refine br_f a3 (br_t a4 (xnu (fun g2 => ?_) (fun _ => br_t rfl K)))
    have hs : so_ok s := Classical.byContradiction fun z => by
      rcases so_ok_l.1 z with y | y
      · exact a3 y
      · exact y a4
    rcases hb with z | z | z | z | z
    · exact (a1 z).elim
    · exact (a2 z).elim
    · exact (z g).elim
    · exact (z hs).elim
    · exact (z g2).elim
  · exact br_f a3 (br_f a4 K)
theorem yap_bad {post : Int32 → SY → Prop} {v s n : Int32} (hb : n < 1 ∨ 40 < n ∨ ¬ so_ok v ∨ ¬ so_ok s ∨ ¬ so_ok (v + (n - 1) * s)) (K : post (-1000) (fc, A, cp)) :
    wpY_append post (fc, A, cp) v s n := by
  by_cases a1 : n < 1
  · exact br_t a1 K
  by_cases a2 : 40 < n
  · exact br_f a1 (br_t a2 K)
  refine br_f a1 (br_f a2 (ynu (fun g => br_f xe_n10 (ynu (fun g1 => br_f xe_n10 (ynu (fun g2 => ?_) (fun _ => br_t rfl K))) (fun _ => br_t rfl K))) (fun _ => br_t rfl K)))
  rcases hb with z | z | z | z | z
  · exact (a1 z).elim
  · exact (a2 z).elim
  · exact (z g).elim
  · exact (z g1).elim
  · exact (z g2).elim
theorem xap_ok {post : Int32 → SX → Prop} {v s n : Int32} (a1 : ¬ n < 1) (a2 : ¬ 40 < n) (hv : so_ok v) (hs : so_ok s) (hl : so_ok (v + (n - 1) * s))
    (K : (n ≤ 40 - fc → ∃ n71 : Nat, wX_append_71 post v s n fc n71 0 A F G sp rl rh st ec lc pe se le) ∧ (¬ n ≤ 40 - fc → post (-2000) (fc, A, F, G, sp, rl, rh, st, ec, lc, pe, se, le))) :
    wpX_append post (fc, A, F, G, sp, rl, rh, st, ec, lc, pe, se, le) v s n := by
  have a3 : ¬ s < -99 := fun z => so_ok_l.2 (Or.inl z) hs
  have a4 : s ≤ 99 := Classical.byContradiction fun z => so_ok_l.2 (Or.inr z) hs
  exact br_f a1 (br_f a2 (xnu (fun _ => br_f xe_n10 (br_f a3 (br_t a4 (xnu (fun _ => br_f xe_n10 K) (fun z => (z hl).elim))))) (fun z => (z hv).elim)))
theorem yap_ok {post : Int32 → SY → Prop} {v s n : Int32} (a1 : ¬ n < 1) (a2 : ¬ 40 < n) (hv : so_ok v) (hs : so_ok s) (hl : so_ok (v + (n - 1) * s))
    (K : (fc + n ≤ 40 → ∃ n63 : Nat, wY_append_63 post v s n fc n63 0 A cp) ∧ (¬ fc + n ≤ 40 → post (-2000) (fc, A, cp))) :
    wpY_append post (fc, A, cp) v s n :=
  br_f a1 (br_f a2 (ynu (fun _ => br_f xe_n10 (ynu (fun _ => br_f xe_n10 (ynu (fun _ => br_f xe_n10 K) (fun z => (z hl).elim))) (fun z => (z hs).elim))) (fun z => (z hv).elim)))
end
theorem i_vc_append {k : Nat} {u : SX} {v : SY} (I : i_Rel k u v) (hk : k + 4 ≤ 2048) (v1 : Int32) (v2 : Int32) (v3 : Int32) : wpX_append (fun r u' => wpY_append (fun r' v' => r' = r ∧ i_Rel (k + 4) u' v') v v1 v2 v3) u v1 v2 v3 := by
  obtain ⟨c, A, F, G, sp, rl, rh, st, ec, lc, pe, se, le, cp, rfl, rfl, hc, hR⟩ := I
  by_cases hb : v3 < 1 ∨ 40 < v3 ∨ ¬ so_ok v1 ∨ ¬ so_ok v2 ∨ ¬ so_ok (v1 + (v3 - 1) * v2)
  · exact xap_bad hb (yap_bad hb ⟨rfl, i_mk hc hR⟩)
  · have a1 : ¬ v3 < 1 := fun z => hb (Or.inl z)
    have a2 : ¬ 40 < v3 := fun z => hb (Or.inr (Or.inl z))
    have hv : so_ok v1 := Classical.byContradiction fun z => hb (Or.inr (Or.inr (Or.inl z)))
    have hs : so_ok v2 := Classical.byContradiction fun z => hb (Or.inr (Or.inr (Or.inr (Or.inl z))))
    have hl : so_ok (v1 + (v3 - 1) * v2) := Classical.byContradiction fun z => hb (Or.inr (Or.inr (Or.inr (Or.inr z))))
    obtain ⟨m, hm, rfl⟩ : ∃ m, m < 40 ∧ v3 = nI (m + 1) := by
      have h1 : ¬ v3 < 0 := fun z => a1 (by
        rw [Int32.lt_iff_toInt_lt] at z ⊢
        rw [show (0 : Int32).toInt = 0 from by decide] at z
        rw [show (1 : Int32).toInt = 1 from by decide]
        omega)
      obtain ⟨j, hj, rfl⟩ := nI_of h1
      rw [Int32.lt_iff_toInt_lt, nI_toInt hj, show (1 : Int32).toInt = 1 from by decide] at a1
      rw [Int32.lt_iff_toInt_lt, nI_toInt hj, show (40 : Int32).toInt = 40 from by decide] at a2
      obtain ⟨m, rfl⟩ : ∃ m, j = m + 1 := ⟨j - 1, by omega⟩
      exact ⟨m, by omega, rfl⟩
    rw [nI_pred] at hl
    have hl' : so_ok (v1 + (nI (m + 1) - 1) * v2) := by rw [nI_pred]; exact hl
    have e40 : (40 : Int32) - nI c = nI (40 - c) := pk_sub (a := 40) hc
    have h0X := so_ap_0 A v1 v2 c
    refine xap_ok a1 a2 hv hs hl' (pk_le (m + 1) (40 - c) (fun e => ⟨m + 2, ?_⟩) (fun e => ?_) rfl e40)
    · have hx := xap71 (A := A) (F := F) (G := G) (sp := sp) (rl := rl) (rh := rh) (st := st) (ec := ec) (lc := lc) (pe := pe) (se := se) (le := le) (c := c) (v := v1) (s := v2) (m := m + 1)
        (post := fun r u' => wpY_append (fun r' v' => r' = r ∧ i_Rel (k + 4) u' v') (nI c, A, cp) v1 v2 (nI (m + 1))) (by omega) ?_ (m + 2) 0 (by omega) (by omega)
      · rw [h0X] at hx; exact hx
      · refine yap_ok a1 a2 hv hs hl' (pk_le (c + (m + 1)) 40 (fun e' => ⟨m + 2, ?_⟩) (fun e' => by omega) (nI_add c (m + 1)))
        have hy := yap63 (A := A) (cp := cp) (c := c) (v := v1) (s := v2) (m := m + 1)
          (post := fun r' v' => r' = nI (c + (m + 1)) ∧ i_Rel (k + 4) (nI (c + (m + 1)), so_ap A v1 v2 c (m + 1), F, G, sp, rl, rh, st, ec, lc, pe, se, le) v') (by omega) ⟨rfl, i_mk (by omega) (so_ap_R hR hv hs (by omega) hl)⟩ (m + 2) 0 (by omega) (by omega)
        rw [h0X] at hy; exact hy
    · exact yap_ok a1 a2 hv hs hl' (pk_le (c + (m + 1)) 40 (fun e' => by omega) (fun _ => ⟨rfl, i_mk hc hR⟩) (nI_add c (m + 1)))
/-- the first k once more behind the first c -/
def so_rp (A : Nat → Int32) (t : Int32) (c k : Nat) : Nat → Int32 := fun j => if c ≤ j ∧ j < c + k then (if t = 0 then A (j - c) else -(A (j - c))) else A j
theorem so_rp_0 (A : Nat → Int32) (t : Int32) (c : Nat) : so_rp A t c 0 = A := funext fun j => if_neg (by omega)
theorem so_rp_s (A : Nat → Int32) (t : Int32) (c k : Nat) : upd (so_rp A t c k) (c + k) (if t = 0 then A k else -(A k)) = so_rp A t c (k + 1) := by
  funext j
  show (if j = c + k then (if t = 0 then A k else -(A k)) else so_rp A t c k j) = so_rp A t c (k + 1) j
  unfold so_rp
  by_cases a : j = c + k
  · have e : j - c = k := by omega
    rw [if_pos a, if_pos (show c ≤ j ∧ j < c + (k + 1) by omega), e]
  · rw [if_neg a]
    by_cases b : c ≤ j ∧ j < c + k
    · rw [if_pos b, if_pos (show c ≤ j ∧ j < c + (k + 1) by omega)]
    · rw [if_neg b, if_neg (show ¬ (c ≤ j ∧ j < c + (k + 1)) by omega)]
theorem so_rp_l (A : Nat → Int32) (t : Int32) {c k j : Nat} (h : j < c) : so_rp A t c k j = A j := if_neg (by omega)
theorem so_rp_R {A : Nat → Int32} {t : Int32} {c m : Nat} (hR : so_R A c) (hm : m ≤ c) : so_R (so_rp A t c m) (c + m) := by
  intro j hj
  unfold so_rp
  by_cases b : c ≤ j ∧ j < c + m
  · rw [if_pos b]
    have h1 := hR (j - c) (by omega)
    by_cases d : t = 0
    · rw [if_pos d]; exact h1
    · rw [if_neg d, so_neg h1.1 h1.2]; omega
  · rw [if_neg b]; exact hR j (by omega)
section
variable {A F G sp rl rh st ec lc pe se le cp : Nat → Int32} {fc : Int32} {c : Nat}
theorem xrp33 {post : Int32 → SX → Prop} {t : Int32} {m : Nat} (hm : c + m ≤ 40) (hmc : m ≤ c) (K : post (nI (c + m)) (nI (c + m), so_rp A t c m, F, G, sp, rl, rh, st, ec, lc, pe, se, le)) :
    ∀ n k : Nat, m < n + k → k ≤ m → wX_repeat_33 post (nI m) t (nI c) n (nI k) (so_rp A t c k) F G sp rl rh st ec lc pe se le := by
  intro n
  induction n with
  | zero => intro k h1 h2; omega
  | succ n ih =>
    intro k h1 h2
    rw [wX_repeat_33]
    have e1 : nI c + nI k = nI (c + k) := nI_add c k
    have ck : (nI k).toNatClampNeg = k := nI_clamp (by omega)
    refine pk_le m k (fun e => nm_r (nI_add c m) ?_) (fun e => ?_)
    · have : k = m := by omega
      rw [this]; exact K
    · have vk : vp_in (nI k) 40 := vp_in_nI (by omega) (by omega)
      have vck : vp_in (nI c + nI k) 40 := by rw [e1]; exact vp_in_nI (by omega) (by omega)
      have hs := so_rp_s A t c k
      have ih' := ih (k + 1) (by omega) (by omega)
      refine br_c (fun z => ⟨vk, vck, nm_r (e' := so_rp A t c (k + 1)) ?_ (nm_r (nI_1 k) ih')⟩) (fun z => ⟨vk, vck, nm_r (e' := so_rp A t c (k + 1)) ?_ (nm_r (nI_1 k) ih')⟩)
      · rw [if_pos z] at hs
        rw [e1, nI_clamp (n := c + k) (by omega), ck, so_rp_l A t (by omega), hs]
      · rw [if_neg z] at hs
        rw [e1, nI_clamp (n := c + k) (by omega), ck, so_rp_l A t (by omega), hs]
theorem yrp33 {post : Int32 → SY → Prop} {t : Int32} {m : Nat} (hm : c + m ≤ 40) (hmc : m ≤ c) (K : post (nI (c + m)) (nI (c + m), so_rp A t c m, cp)) :
    ∀ n k : Nat, m < n + k → k ≤ m → wY_repeat_33 post (nI m) t (nI c) n (nI k) (so_rp A t c k) cp := by
  intro n
  induction n with
  | zero => intro k h1 h2; omega
  | succ n ih =>
    intro k h1 h2
    rw [wY_repeat_33]
    have e1 : nI c + nI k = nI (c + k) := nI_add c k
    have ck : (nI k).toNatClampNeg = k := nI_clamp (by omega)
    refine pk_le m k (fun e => nm_r (nI_add c m) ?_) (fun e => ?_)
    · have : k = m := by omega
      rw [this]; exact K
    · have vk : vp_in (nI k) 40 := vp_in_nI (by omega) (by omega)
      have vck : vp_in (nI c + nI k) 40 := by rw [e1]; exact vp_in_nI (by omega) (by omega)
      have hs := so_rp_s A t c k
      have ih' := ih (k + 1) (by omega) (by omega)
      refine br_c (fun z => ⟨vk, vck, nm_r (e' := so_rp A t c (k + 1)) ?_ (nm_r (nI_1 k) ih')⟩) (fun z => ⟨vk, vck, nm_r (e' := so_rp A t c (k + 1)) ?_ (nm_r (nI_1 k) ih')⟩)
      · rw [if_pos z] at hs
        rw [e1, nI_clamp (n := c + k) (by omega), ck, so_rp_l A t (by omega), hs]
      · rw [if_neg z] at hs
        rw [e1, nI_clamp (n := c + k) (by omega), ck, so_rp_l A t (by omega), hs]
end
theorem i_vc_repeat {k : Nat} {u : SX} {v : SY} (I : i_Rel k u v) (hk : k + 4 ≤ 2048) (v1 : Int32) (v2 : Int32) : wpX_repeat (fun r u' => wpY_repeat (fun r' v' => r' = r ∧ i_Rel (k + 4) u' v') v v1 (lw_bz v2)) u v1 (lw_bz v2) := by
  obtain ⟨c, A, F, G, sp, rl, rh, st, ec, lc, pe, se, le, cp, rfl, rfl, hc, hR⟩ := I
  by_cases a1 : v1 < 0
  · exact br_t a1 (br_t a1 ⟨rfl, i_mk hc hR⟩)
  obtain ⟨m, hm, rfl⟩ := nI_of a1
  by_cases a2 : m ≤ c
  · have b2 : nI m ≤ nI c := nI_le a2 (by omega)
    have e40 : (40 : Int32) - nI c = nI (40 - c) := pk_sub (a := 40) hc
    have h0X := so_rp_0 A (lw_bz v2) c
    refine br_f a1 (br_t b2 (pk_le m (40 - c) (fun e => ⟨m + 1, ?_⟩) (fun e => ?_) rfl e40))
    · have hx := xrp33 (A := A) (F := F) (G := G) (sp := sp) (rl := rl) (rh := rh) (st := st) (ec := ec) (lc := lc) (pe := pe) (se := se) (le := le) (c := c) (t := lw_bz v2) (m := m)
        (post := fun r u' => wpY_repeat (fun r' v' => r' = r ∧ i_Rel (k + 4) u' v') (nI c, A, cp) (nI m) (lw_bz v2)) (by omega) a2 ?_ (m + 1) 0 (by omega) (by omega)
      · rw [h0X] at hx; exact hx
      · refine br_f a1 (br_t b2 (pk_le (c + m) 40 (fun e' => ⟨m + 1, ?_⟩) (fun e' => by omega) (nI_add c m)))
        have hy := yrp33 (A := A) (cp := cp) (c := c) (t := lw_bz v2) (m := m)
          (post := fun r' v' => r' = nI (c + m) ∧ i_Rel (k + 4) (nI (c + m), so_rp A (lw_bz v2) c m, F, G, sp, rl, rh, st, ec, lc, pe, se, le) v') (by omega) a2 ⟨rfl, i_mk (by omega) (so_rp_R hR a2)⟩ (m + 1) 0 (by omega) (by omega)
        rw [h0X] at hy; exact hy
    · exact br_f a1 (br_t b2 (pk_le (c + m) 40 (fun e' => by omega) (fun _ => ⟨rfl, i_mk hc hR⟩) (nI_add c m)))
  · have b2 : ¬ nI m ≤ nI c := nI_ge (by omega) hm
    exact br_f a1 (br_f b2 (br_f a1 (br_f b2 ⟨rfl, i_mk hc hR⟩)))
