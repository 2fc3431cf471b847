/-- the places i .. j turned around -/
def so_tu (A : Nat → Int32) (i j : Nat) : Nat → Int32 := fun m => if i ≤ m ∧ m ≤ j then A (i + j - m) else A m
def so_tk (A : Nat → Int32) (i j k : Nat) : Nat → Int32 := fun m => if (i ≤ m ∧ m < i + k) ∨ (j < m + k ∧ m ≤ j) then A (i + j - m) else A m
theorem so_tk_0 (A : Nat → Int32) (i j : Nat) : so_tk A i j 0 = A := funext fun m => if_neg (by omega)
theorem so_tk_s (A : Nat → Int32) {i j k : Nat} (h : i + 2 * k + 1 ≤ j) : so_w (so_tk A i j k) (i + k) (j - k) = so_tk A i j (k + 1) := by
  have e1 : so_tk A i j k (i + k) = A (i + k) := if_neg (by omega)
  have e2 : so_tk A i j k (j - k) = A (j - k) := if_neg (by omega)
  funext m
  by_cases a : m = i + k
  · have e3 : i + j - m = j - k := by omega
    have e4 : so_tk A i j (k + 1) m = A (i + j - m) := if_pos (by omega)
    rw [e4, e3, a, so_wi, e2]
  · by_cases b : m = j - k
    · have e3 : i + j - m = i + k := by omega
      have e4 : so_tk A i j (k + 1) m = A (i + j - m) := if_pos (by omega)
      rw [e4, e3, b, so_wj, e1]
    · rw [so_wn _ a b]
      unfold so_tk
      by_cases d : (i ≤ m ∧ m < i + k) ∨ (j < m + k ∧ m ≤ j)
      · rw [if_pos d, if_pos (by omega)]
      · rw [if_neg d, if_neg (by omega)]
theorem so_tk_e (A : Nat → Int32) {i j : Nat} (h : i ≤ j) : so_tk A i j ((j - i + 1) / 2) = so_tu A i j := by
  funext m
  unfold so_tk so_tu
  by_cases d : (i ≤ m ∧ m < i + (j - i + 1) / 2) ∨ (j < m + (j - i + 1) / 2 ∧ m ≤ j)
  · rw [if_pos d, if_pos (by omega)]
  · rw [if_neg d]
    by_cases e : i ≤ m ∧ m ≤ j
    · rw [if_pos e]
      have : i + j - m = m := by omega
      rw [this]
    · rw [if_neg e]
theorem so_tu_R {A : Nat → Int32} {i j c : Nat} (hR : so_R A c) (hj : j < c) : so_R (so_tu A i j) c := by
  intro m hm
  unfold so_tu
  by_cases e : i ≤ m ∧ m ≤ j
  · rw [if_pos e]; exact hR _ (by omega)
  · rw [if_neg e]; exact hR m hm
section
variable {A F G sp rl rh st ec lc pe se le cp : Nat → Int32} {fc : Int32} {c : Nat}
theorem xtu34 {post : Int32 → SX → Prop} {i j : Nat} (hij : i ≤ j) (hj : j < 40) (K : post 1 (fc, so_tu A i j, F, G, sp, rl, rh, st, ec, lc, pe, se, le)) :
    ∀ n k : Nat, (j - i + 1) / 2 < n + k → k ≤ (j - i + 1) / 2 → wX_turn_34 post (nI i) (nI j) (nI ((j - i + 1) / 2)) n (nI k) fc (so_tk A i j k) F G sp rl rh st ec lc pe se le := by
  intro n
  induction n with
  | zero => intro k h1 h2; omega
  | succ n ih =>
    intro k h1 h2
    rw [wX_turn_34]
    refine pk_le ((j - i + 1) / 2) k (fun e => ?_) (fun e => ?_)
    · have : k = (j - i + 1) / 2 := by omega
      rw [this, so_tk_e A hij]; exact K
    · rw [nI_add, pk_sub (a := j) (b := k) (by omega)]
      refine xswn (by omega) (by omega) ?_
      rw [so_tk_s A (by omega)]
      exact nm_r (nI_1 k) (ih (k + 1) (by omega) (by omega))
theorem ytu54 {post : Int32 → SY → Prop} {i j : Nat} (hj : j < 40) (K : post 1 (fc, so_cp A cp i (j + 1), cp)) :
    ∀ n k : Nat, j + 1 < n + k → i ≤ k → k ≤ j + 1 → wY_turn_54 post (nI j) fc n (nI k) (so_cp A cp i k) cp := by
  intro n
  induction n with
  | zero => intro k h1 h2; omega
  | succ n ih =>
    intro k h1 h2 h3
    rw [wY_turn_54]
    have ck : (nI k).toNatClampNeg = k := nI_clamp (by omega)
    refine pk_lt j k (fun e => ?_) (fun e => ⟨vp_in_nI (by omega) (by omega), vp_in_nI (by omega) (by omega), nm_r (e' := so_cp A cp i (k + 1)) (by rw [ck, so_cp_s A cp h2]) (nm_r (nI_1 k) (ih (k + 1) (by omega) (by omega) (by omega)))⟩)
    have : k = j + 1 := by omega
    rw [this]; exact K
theorem ytu25 {post : Int32 → SY → Prop} {i j : Nat} (hij : i ≤ j) (hj : j < 40) (K : ∀ cp', post 1 (fc, so_tu A i j, cp')) :
    ∀ (n k : Nat) (cp : Nat → Int32), j + 1 < n + k → i ≤ k → k ≤ j + 1 → (∀ m, i ≤ m → m < k → cp m = A (i + j - m)) → wY_turn_25 post (nI i) (nI j) fc n (nI k) A cp := by
  intro n
  induction n with
  | zero => intro k cp h1 h2 h3; omega
  | succ n ih =>
    intro k cp h1 h2 h3 hq
    rw [wY_turn_25]
    have ck : (nI k).toNatClampNeg = k := nI_clamp (by omega)
    refine pk_lt j k (fun e => ⟨j + 2, ?_⟩) (fun e => ?_)
    · have hfin : so_cp A cp i (j + 1) = so_tu A i j := by
        funext m
        unfold so_tu
        by_cases z : i ≤ m ∧ m ≤ j
        · rw [if_pos z, so_cp_i A cp z.1 (by omega)]; exact hq m z.1 (by omega)
        · rw [if_neg z, so_cp_o A cp (by omega)]
      have hy := ytu54 (A := A) (cp := cp) (fc := fc) (post := post) (i := i) hj (by rw [hfin]; exact K cp) (j + 2) i (by omega) (by omega) (by omega)
      rw [so_cp_0] at hy; exact hy
    · have e1 : nI i + nI j - nI k = nI (i + j - k) := by rw [nI_add, pk_sub (by omega)]
      refine ⟨by rw [e1]; exact vp_in_nI (by omega) (by omega), vp_in_nI (by omega) (by omega), nm_r (e' := upd cp k (A (i + j - k))) (by rw [e1, nI_clamp (n := i + j - k) (by omega), ck]) (nm_r (nI_1 k) (ih (k + 1) _ (by omega) (by omega) (by omega) (fun m a b => ?_)))⟩
      by_cases q : m = k
      · rw [q, so_uS]
      · rw [so_uN q]; exact hq m a (by omega)
end
theorem i_vc_turn {k : Nat} {u : SX} {v : SY} (I : i_Rel k u v) (hk : k + 4 ≤ 2048) (v1 : Int32) (v2 : Int32) : wpX_turn (fun r u' => wpY_turn (fun r' v' => r' = r ∧ i_Rel (k + 4) u' v') v v1 v2) u v1 v2 := by
  obtain ⟨c, A, F, G, sp, rl, rh, st, ec, lc, pe, se, le, cp, rfl, rfl, hc, hR⟩ := I
  unfold wpX_turn wpY_turn
  dsimp only
  refine xpl hc (fun i hi ei => br_f xe_n10 (xpl hc (fun j hj ej => br_f xe_n10 ?_) (fun h => br_t rfl ?_))) (fun h => br_t rfl ?_)
  · subst ei ej
    refine pk_le i j (fun e => ⟨xe_n20, nm_r (e' := nI ((j - i + 1) / 2)) ?_ ⟨j + 2, ?_⟩⟩) (fun e => ?_)
    · rw [pk_sub e, nI_1]
      exact pk_div (d := 2) (by omega) (by omega) (by omega)
    · have hx := xtu34 (A := A) (F := F) (G := G) (sp := sp) (rl := rl) (rh := rh) (st := st) (ec := ec) (lc := lc) (pe := pe) (se := se) (le := le) (fc := nI c) (i := i) (j := j)
        (post := fun r u' => wpY_is (fun r_1 => (((r_1 = 0 → ((0 : Int32) = r ∧ i_Rel (k + 4) u' (nI c, A, cp))) ∧ (¬ r_1 = 0 → (wpY_is (fun r_6 => (((r_6 = 0 → ((0 : Int32) = r ∧ i_Rel (k + 4) u' (nI c, A, cp))) ∧ (¬ r_6 = 0 → (((nI i ≤ nI j → (∃ n25 : Nat, wY_turn_25 (fun r' v' => r' = r ∧ i_Rel (k + 4) u' v') (nI i) (nI j) (nI c) n25 (nI i) A cp)) ∧ (¬ nI i ≤ nI j → ((0 : Int32) = r ∧ i_Rel (k + 4) u' (nI c, A, cp))))))))) (nI c, A, cp) (nI j)))))) (nI c, A, cp) (nI i)) e (by omega) ?_ (j + 2) 0 (by omega) (by omega)
      · rw [so_tk_0] at hx; exact hx
      · exact ypl hc (fun _ _ _ => br_f xe_n10 (ypl hc (fun _ _ _ => br_f xe_n10 (br_t (nI_le e (by omega)) ⟨j + 2, ytu25 e (by omega) (fun cp' => ⟨rfl, i_mk hc (so_tu_R hR hj)⟩) (j + 2) i cp (by omega) (by omega) (by omega) (fun m a b => by omega)⟩)) (fun h => (h j hj rfl).elim))) (fun h => (h i hi rfl).elim)
    · exact ypl hc (fun _ _ _ => br_f xe_n10 (ypl hc (fun _ _ _ => br_f xe_n10 (br_f (nI_ge e (by omega)) ⟨rfl, i_mk hc hR⟩)) (fun h => (h j hj rfl).elim))) (fun h => (h i hi rfl).elim)
  · exact ypl hc (fun _ _ _ => br_f xe_n10 (ypl hc (fun j hj e => (h j hj e).elim) (fun _ => br_t rfl ⟨rfl, i_mk hc hR⟩))) (fun h => (h i hi ei).elim)
  · exact ypl hc (fun j hj e => (h j hj e).elim) (fun _ => br_t rfl ⟨rfl, i_mk hc hR⟩)
/-- the place i taken out, as far as k -/
def so_rm (A : Nat → Int32) (i k : Nat) : Nat → Int32 := fun m => if i ≤ m ∧ m + 1 < k then A (m + 1) else A m
theorem so_rm_0 (A : Nat → Int32) (i : Nat) : so_rm A i (i + 1) = A := funext fun m => if_neg (by omega)
theorem so_rm_s (A : Nat → Int32) {i k : Nat} (h : i ≤ k) : upd (so_rm A i (k + 1)) k (A (k + 1)) = so_rm A i (k + 2) := by
  funext m
  show (if m = k then A (k + 1) else so_rm A i (k + 1) m) = so_rm A i (k + 2) m
  unfold so_rm
  by_cases a : m = k
  · rw [if_pos a, if_pos (show i ≤ m ∧ m + 1 < k + 2 by omega), a]
  · rw [if_neg a]
    by_cases b : i ≤ m ∧ m + 1 < k + 1
    · rw [if_pos b, if_pos (show i ≤ m ∧ m + 1 < k + 2 by omega)]
    · rw [if_neg b, if_neg (show ¬ (i ≤ m ∧ m + 1 < k + 2) by omega)]
theorem so_rm_n (A : Nat → Int32) (i k : Nat) : so_rm A i (k + 1) (k + 1) = A (k + 1) := if_neg (by omega)
theorem so_rm_R {A : Nat → Int32} {i c : Nat} (hR : so_R A (c + 1)) : so_R (so_rm A i (c + 1)) c := by
  intro m hm
  unfold so_rm
  by_cases b : i ≤ m ∧ m + 1 < c + 1
  · rw [if_pos b]; exact hR _ (by omega)
  · rw [if_neg b]; exact hR m (by omega)
section
variable {A F G sp rl rh st ec lc pe se le cp : Nat → Int32} {fc : Int32} {c : Nat}
theorem xrm23 {post : Int32 → SX → Prop} {x : Int32} {i : Nat} (hc : c + 1 ≤ 40) (K : post x (nI c, so_rm A i (c + 1), F, G, sp, rl, rh, st, ec, lc, pe, se, le)) :
    ∀ n k : Nat, c < n + k → i ≤ k → k ≤ c → wX_remove_23 post x (nI (c + 1)) n (nI (k + 1)) (so_rm A i (k + 1)) F G sp rl rh st ec lc pe se le := by
  intro n
  induction n with
  | zero => intro k h1 h2; omega
  | succ n ih =>
    intro k h1 h2 h3
    rw [wX_remove_23]
    have ck : (nI (k + 1)).toNatClampNeg = k + 1 := nI_clamp (by omega)
    have e1 : nI (k + 1) - 1 = nI k := nI_pred k
    refine pk_le (c + 1) (k + 1) (fun e => nm_r (nI_pred c) ?_) (fun e => ⟨vp_in_nI (by omega) (by omega), by rw [e1]; exact vp_in_nI (by omega) (by omega), nm_r (e' := so_rm A i (k + 2)) (by rw [e1, nI_clamp (n := k) (by omega), ck, so_rm_n, so_rm_s A h2]) (nm_r (nI_1 (k + 1)) (ih (k + 1) (by omega) (by omega) (by omega)))⟩)
    have : k = c := by omega
    rw [this]; exact K
theorem yrm31 {post : Int32 → SY → Prop} {x : Int32} {i : Nat} (hc : c + 1 ≤ 40) (K : post x (nI c, so_rm A i (c + 1), cp)) :
    ∀ n k : Nat, c < n + k → i ≤ k → k ≤ c → wY_remove_31 post x (nI c) n (nI k) (so_rm A i (k + 1)) cp := by
  intro n
  induction n with
  | zero => intro k h1 h2; omega
  | succ n ih =>
    intro k h1 h2 h3
    rw [wY_remove_31]
    have ck : (nI k).toNatClampNeg = k := nI_clamp (by omega)
    have e1 : nI k + 1 = nI (k + 1) := nI_1 k
    refine pk_le c k (fun e => ?_) (fun e => ⟨by rw [e1]; exact vp_in_nI (by omega) (by omega), vp_in_nI (by omega) (by omega), nm_r (e' := so_rm A i (k + 2)) (by rw [e1, nI_clamp (n := k + 1) (by omega), ck, so_rm_n, so_rm_s A h2]) (nm_r e1 (ih (k + 1) (by omega) (by omega) (by omega)))⟩)
    have : k = c := by omega
    rw [this]; exact K
end
theorem i_vc_remove {k : Nat} {u : SX} {v : SY} (I : i_Rel k u v) (hk : k + 4 ≤ 2048) (v1 : Int32) : wpX_remove (fun r u' => wpY_remove (fun r' v' => r' = r ∧ i_Rel (k + 4) u' v') v v1) u v1 := by
  obtain ⟨c, A, F, G, sp, rl, rh, st, ec, lc, pe, se, le, cp, rfl, rfl, hc, hR⟩ := I
  unfold wpX_remove
  dsimp only
  refine xpl hc (fun i hi ei => br_f xe_n10 ?_) (fun h => br_t rfl ?_)
  · subst ei
    obtain ⟨c, rfl⟩ : ∃ d, c = d + 1 := ⟨c - 1, by omega⟩
    have ci : (nI i).toNatClampNeg = i := nI_clamp (by omega)
    have vi : vp_in (nI i) 40 := vp_in_nI (by omega) (by omega)
    refine ⟨vi, nm_r (e' := A i) (by rw [ci]) (nm_r (nI_1 i) ⟨c + 1, ?_⟩)⟩
    have hx := xrm23 (A := A) (F := F) (G := G) (sp := sp) (rl := rl) (rh := rh) (st := st) (ec := ec) (lc := lc) (pe := pe) (se := se) (le := le) (c := c) (i := i) (x := A i)
      (post := fun r u' => wpY_remove (fun r' v' => r' = r ∧ i_Rel (k + 4) u' v') (nI (c + 1), A, cp) (nI i)) hc ?_ (c + 1) i (by omega) (by omega) (by omega)
    · rw [so_rm_0] at hx; exact hx
    · unfold wpY_remove
      dsimp only
      refine ypl hc (fun _ _ _ => br_f xe_n10 ⟨vi, nm_r (e' := A i) (by rw [ci]) (nm_r (nI_pred c) ⟨c + 1, ?_⟩)⟩) (fun h => (h i hi rfl).elim)
      have hy := yrm31 (A := A) (cp := cp) (c := c) (i := i) (x := A i)
        (post := fun r' v' => r' = A i ∧ i_Rel (k + 4) (nI c, so_rm A i (c + 1), F, G, sp, rl, rh, st, ec, lc, pe, se, le) v') hc ⟨rfl, i_mk (by omega) (so_rm_R hR)⟩ (c + 1) i (by omega) (by omega) (by omega)
      rw [so_rm_0] at hy; exact hy
  · unfold wpY_remove
    dsimp only
    exact ypl hc (fun j hj e => (h j hj e).elim) (fun _ => br_t rfl ⟨rfl, i_mk hc hR⟩)
