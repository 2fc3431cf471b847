section
variable {A F G sp rl rh st ec lc pe se le cp : Nat → Int32} {fc : Int32} {c : Nat}
theorem xfi4 {post : Int32 → Prop} {v : Int32} (hc : c ≤ 40) (K : post (nI (so_c (fun m => decide (¬ v ≤ A m)) c))) : ∀ n k r : Nat, c < n + k → k ≤ c → r = so_c (fun m => decide (¬ v ≤ A m)) k →
    wX_find_4 post v (nI c) A F G sp rl rh st ec lc pe se le n (nI r) (nI k) := by
  intro n
  induction n with
  | zero => intro k r h1 h2; omega
  | succ n ih =>
    intro k r h1 h2 hr
    rw [wX_find_4]
    have ck : (nI k).toNatClampNeg = k := nI_clamp (by omega)
    refine pk_le c k (fun e => ?_) (fun e => ⟨vp_in_nI (by omega) (by omega), br_c (fun z => nm_r (nI_1 k) (ih (k + 1) r (by omega) (by omega) ?_)) (fun z => nm_r (nI_1 r) (nm_r (nI_1 k) (ih (k + 1) (r + 1) (by omega) (by omega) ?_)))⟩)
    · have : k = c := by omega
      rw [hr, this]; exact K
    · rw [ck] at z
      rw [so_cs, decide_eq_false (fun y => y z), so_f0, hr]; rfl
    · rw [ck] at z
      rw [so_cs, decide_eq_true z, so_t1, hr]
theorem yfi4 {post : Int32 → Prop} {v : Int32} (hc : c ≤ 40) (K : post (nI (so_c (fun m => decide (¬ v ≤ A m)) c))) : ∀ n k r : Nat, c < n + k → k ≤ c → r = so_c (fun m => decide (¬ v ≤ A m)) k →
    wY_find_4 post v (nI c) A cp n (nI r) (nI k) := by
  intro n
  induction n with
  | zero => intro k r h1 h2; omega
  | succ n ih =>
    intro k r h1 h2 hr
    rw [wY_find_4]
    have ck : (nI k).toNatClampNeg = k := nI_clamp (by omega)
    refine pk_le c k (fun e => ?_) (fun e => ⟨vp_in_nI (by omega) (by omega), br_c (fun z => nm_r (nI_1 k) (ih (k + 1) r (by omega) (by omega) ?_)) (fun z => nm_r (nI_1 r) (nm_r (nI_1 k) (ih (k + 1) (r + 1) (by omega) (by omega) ?_)))⟩)
    · have : k = c := by omega
      rw [hr, this]; exact K
    · rw [ck] at z
      rw [so_cs, decide_eq_false (fun y => y z), so_f0, hr]; rfl
    · rw [ck] at z
      rw [so_cs, decide_eq_true z, so_t1, hr]
end
theorem i_vc_find {k : Nat} {u : SX} {v : SY} (I : i_Rel k u v) (hk : k + 4 ≤ 2048) (v1 : Int32) : wpX_find (fun r => wpY_find (fun r' => r' = r ∧ i_Rel (k + 4) u v) v v1) u v1 := by
  obtain ⟨c, A, F, G, sp, rl, rh, st, ec, lc, pe, se, le, cp, rfl, rfl, hc, hR⟩ := I
  exact ⟨c + 1, xfi4 hc ⟨c + 1, yfi4 hc ⟨rfl, i_mk hc hR⟩ (c + 1) 0 0 (by omega) (by omega) rfl⟩ (c + 1) 0 0 (by omega) (by omega) rfl⟩
/-- the pairs of i with j, j + 1 .. (d of them) -/
def so_v1 (A : Nat → Int32) (i : Nat) : Nat → Nat → Nat
  | 0, _ => 0
  | d + 1, j => (if A i ≤ A j then 0 else 1) + so_v1 A i d (j + 1)
def so_v2 (A : Nat → Int32) (c : Nat) : Nat → Nat → Nat
  | 0, _ => 0
  | d + 1, i => so_v1 A i (c - (i + 1)) (i + 1) + so_v2 A c d (i + 1)
section
variable {A F G sp rl rh st ec lc pe se le cp : Nat → Int32} {fc : Int32} {c : Nat}
theorem xiv16 {post : Int32 → Prop} {J : Int32 → Int32 → Prop} {i : Nat} (hc : c ≤ 40) (hi : i < c) : ∀ d j r : Nat, j + d = c → J (nI (r + so_v1 A i d j)) (nI (i + 1)) →
    wX_inversions_16 post J (nI i) (nI c) A F G sp rl rh st ec lc pe se le (d + 1) (nI r) (nI j) := by
  intro d
  induction d with
  | zero =>
    intro j r h1 K
    rw [wX_inversions_16]
    exact br_t (nI_le (by omega) (by omega)) (nm_r (nI_1 i) K)
  | succ d ih =>
    intro j r h1 K
    rw [wX_inversions_16]
    have cj : (nI j).toNatClampNeg = j := nI_clamp (by omega)
    have ci : (nI i).toNatClampNeg = i := nI_clamp (by omega)
    refine br_f (nI_ge (by omega) (by omega)) ⟨vp_in_nI (by omega) (by omega), vp_in_nI (by omega) (by omega), ?_⟩
    rw [ci, cj]
    have e : r + so_v1 A i (d + 1) j = r + ((if A i ≤ A j then 0 else 1) + so_v1 A i d (j + 1)) := rfl
    rw [e] at K
    refine br_c (fun z => nm_r (nI_1 j) (ih (j + 1) r (by omega) ?_)) (fun z => nm_r (nI_1 r) (nm_r (nI_1 j) (ih (j + 1) (r + 1) (by omega) ?_)))
    · rw [if_pos z, Nat.zero_add] at K; exact K
    · rw [if_neg z, ← Nat.add_assoc] at K; exact K
theorem yiv16 {post : Int32 → Prop} {J : Int32 → Int32 → Prop} {i : Nat} (hc : c ≤ 40) (hi : i < c) : ∀ d j r : Nat, j + d = c → J (nI (r + so_v1 A i d j)) (nI (i + 1)) →
    wY_inversions_16 post J (nI i) (nI c) A cp (d + 1) (nI r) (nI j) := by
  intro d
  induction d with
  | zero =>
    intro j r h1 K
    rw [wY_inversions_16]
    exact br_t (nI_le (by omega) (by omega)) (nm_r (nI_1 i) K)
  | succ d ih =>
    intro j r h1 K
    rw [wY_inversions_16]
    have cj : (nI j).toNatClampNeg = j := nI_clamp (by omega)
    have ci : (nI i).toNatClampNeg = i := nI_clamp (by omega)
    refine br_f (nI_ge (by omega) (by omega)) ⟨vp_in_nI (by omega) (by omega), vp_in_nI (by omega) (by omega), ?_⟩
    rw [ci, cj]
    have e : r + so_v1 A i (d + 1) j = r + ((if A i ≤ A j then 0 else 1) + so_v1 A i d (j + 1)) := rfl
    rw [e] at K
    refine br_c (fun z => nm_r (nI_1 j) (ih (j + 1) r (by omega) ?_)) (fun z => nm_r (nI_1 r) (nm_r (nI_1 j) (ih (j + 1) (r + 1) (by omega) ?_)))
    · rw [if_pos z, Nat.zero_add] at K; exact K
    · rw [if_neg z, ← Nat.add_assoc] at K; exact K
theorem xiv4 {post : Int32 → Prop} (hc : c ≤ 40) : ∀ d i r : Nat, i + d = c → post (nI (r + so_v2 A c d i)) →
    wX_inversions_4 post (nI c) A F G sp rl rh st ec lc pe se le (d + 1) (nI r) (nI i) := by
  intro d
  induction d with
  | zero =>
    intro i r h1 K
    rw [wX_inversions_4]
    exact br_t (nI_le (by omega) (by omega)) K
  | succ d ih =>
    intro i r h1 K
    rw [wX_inversions_4]
    have e : r + so_v2 A c (d + 1) i = r + (so_v1 A i (c - (i + 1)) (i + 1) + so_v2 A c d (i + 1)) := rfl
    rw [e, ← Nat.add_assoc] at K
    exact br_f (nI_ge (by omega) (by omega)) (nm_r (nI_1 i) ⟨c - (i + 1) + 1, xiv16 hc (by omega) (c - (i + 1)) (i + 1) r (by omega) (ih (i + 1) _ (by omega) K)⟩)
theorem yiv4 {post : Int32 → Prop} (hc : c ≤ 40) : ∀ d i r : Nat, i + d = c → post (nI (r + so_v2 A c d i)) →
    wY_inversions_4 post (nI c) A cp (d + 1) (nI r) (nI i) := by
  intro d
  induction d with
  | zero =>
    intro i r h1 K
    rw [wY_inversions_4]
    exact br_t (nI_le (by omega) (by omega)) K
  | succ d ih =>
    intro i r h1 K
    rw [wY_inversions_4]
    have e : r + so_v2 A c (d + 1) i = r + (so_v1 A i (c - (i + 1)) (i + 1) + so_v2 A c d (i + 1)) := rfl
    rw [e, ← Nat.add_assoc] at K
    exact br_f (nI_ge (by omega) (by omega)) (nm_r (nI_1 i) ⟨c - (i + 1) + 1, yiv16 hc (by omega) (c - (i + 1)) (i + 1) r (by omega) (ih (i + 1) _ (by omega) K)⟩)
end
theorem i_vc_inversions {k : Nat} {u : SX} {v : SY} (I : i_Rel k u v) (hk : k + 4 ≤ 2048) : wpX_inversions (fun r => wpY_inversions (fun r' => r' = r ∧ i_Rel (k + 4) u v) v) u := by
  obtain ⟨c, A, F, G, sp, rl, rh, st, ec, lc, pe, se, le, cp, rfl, rfl, hc, hR⟩ := I
  exact ⟨c + 1, xiv4 hc c 0 0 (by omega) ⟨c + 1, yiv4 hc c 0 0 (by omega) ⟨rfl, i_mk hc hR⟩⟩⟩
/-- growing: the length that ends at i, when the first j have been looked at -/
def so_g1 (A : Nat → Int32) (g : Nat → Nat) (i : Nat) : Nat → Nat
  | 0 => 1
  | j + 1 => if A i ≤ A j then so_g1 A g i j else if g j < so_g1 A g i j then so_g1 A g i j else g j + 1
def so_gt (A : Nat → Int32) : Nat → Nat → Nat
  | 0 => fun _ => 0
  | i + 1 => so_pu (so_gt A i) i (so_g1 A (so_gt A i) i i)
def so_gm (A : Nat → Int32) : Nat → Nat
  | 0 => 0
  | i + 1 => if so_g1 A (so_gt A i) i i ≤ so_gm A i then so_gm A i else so_g1 A (so_gt A i) i i
theorem so_g1_b {A : Nat → Int32} {g : Nat → Nat} {i : Nat} (hg : ∀ m, g m ≤ m + 1) : ∀ j, so_g1 A g i j ≤ j + 1 := by
  intro j
  induction j with
  | zero => exact Nat.le_refl _
  | succ j ih =>
    show (if A i ≤ A j then so_g1 A g i j else if g j < so_g1 A g i j then so_g1 A g i j else g j + 1) ≤ j + 1 + 1
    have := hg j
    split
    · omega
    · split <;> omega
theorem so_gt_b (A : Nat → Int32) : ∀ i m, so_gt A i m ≤ m + 1 := by
  intro i
  induction i with
  | zero => intro m; exact Nat.zero_le _
  | succ i ih =>
    intro m
    show so_pu (so_gt A i) i (so_g1 A (so_gt A i) i i) m ≤ m + 1
    by_cases q : m = i
    · rw [q, so_pu_r]; exact so_g1_b ih i
    · rw [so_pu_n _ _ q]; exact ih m
theorem so_gm_b (A : Nat → Int32) : ∀ i, so_gm A i ≤ i := by
  intro i
  induction i with
  | zero => exact Nat.le_refl _
  | succ i ih =>
    show (if so_g1 A (so_gt A i) i i ≤ so_gm A i then so_gm A i else so_g1 A (so_gt A i) i i) ≤ i + 1
    have := so_g1_b (A := A) (i := i) (so_gt_b A i) i
    split <;> omega
section
variable {A F G sp rl rh st ec lc pe se le cp : Nat → Int32} {fc : Int32} {c : Nat}
theorem xgr21 {post : Int32 → SX → Prop} {J : Int32 → Int32 → (Nat → Int32) → (Nat → Int32) → (Nat → Int32) → (Nat → Int32) → (Nat → Int32) → (Nat → Int32) → (Nat → Int32) → (Nat → Int32) → (Nat → Int32) → (Nat → Int32) → (Nat → Int32) → (Nat → Int32) → Prop} {i : Nat}
    (hi : i < 40) (K : ∀ le', (∀ j, j < i + 1 → le' j = nI (so_gt A (i + 1) j)) → J (nI (so_gm A (i + 1))) (nI (i + 1)) A F G sp rl rh st ec lc pe se le') :
    ∀ (n j : Nat) (le : Nat → Int32), i < n + j → j ≤ i → (∀ m, m < i → le m = nI (so_gt A i m)) → le i = nI (so_g1 A (so_gt A i) i j) →
    wX_growing_21 post J (nI (so_gm A i)) (nI i) (nI c) n (nI j) A F G sp rl rh st ec lc pe se le := by
  intro n
  induction n with
  | zero => intro j le h1 h2; omega
  | succ n ih =>
    intro j le h1 h2 h3 h4
    rw [wX_growing_21]
    have cj : (nI j).toNatClampNeg = j := nI_clamp (by omega)
    have ci : (nI i).toNatClampNeg = i := nI_clamp (by omega)
    have vi : vp_in (nI i) 40 := vp_in_nI hi (by omega)
    have b1 := so_g1_b (A := A) (i := i) (so_gt_b A i) j
    have b2 := so_gm_b A i
    refine pk_le i j (fun e => ⟨vi, ?_⟩) (fun e => ⟨vp_in_nI (by omega) (by omega), vi, ?_⟩)
    · have ej : j = i := by omega
      rw [ej] at h4
      rw [ci, h4]
      have hle : ∀ m, m < i + 1 → le m = nI (so_gt A (i + 1) m) := fun m hm => by
        show le m = nI (so_pu (so_gt A i) i (so_g1 A (so_gt A i) i i) m)
        by_cases q : m = i
        · rw [q, so_pu_r, h4]
        · rw [so_pu_n _ _ q]; exact h3 m (by omega)
      have b3 := so_g1_b (A := A) (i := i) (so_gt_b A i) i
      have hm : so_gm A (i + 1) = if so_g1 A (so_gt A i) i i ≤ so_gm A i then so_gm A i else so_g1 A (so_gt A i) i i := rfl
      refine pk_le (so_g1 A (so_gt A i) i i) (so_gm A i) (fun z => nm_r (nI_1 i) ?_) (fun z => ⟨vi, nm_e (nm_r (nI_1 i) ?_)⟩)
      · have := K le hle
        rw [hm, if_pos z] at this; exact this
      · have := K le hle
        rw [hm, if_neg (by omega)] at this; exact this
    · rw [ci, cj]
      have hs : so_g1 A (so_gt A i) i (j + 1) = if A i ≤ A j then so_g1 A (so_gt A i) i j else if so_gt A i j < so_g1 A (so_gt A i) i j then so_g1 A (so_gt A i) i j else so_gt A i j + 1 := rfl
      have b4 := so_gt_b A i j
      refine br_c (fun z => nm_r (nI_1 j) (ih (j + 1) le (by omega) (by omega) h3 ?_)) (fun z => ⟨vp_in_nI (by omega) (by omega), vi, ?_⟩)
      · rw [hs, if_pos z]; exact h4
      · rw [h3 j e, h4]
        refine pk_lt (so_gt A i j) (so_g1 A (so_gt A i) i j) (fun y => nm_r (nI_1 j) (ih (j + 1) le (by omega) (by omega) h3 ?_)) (fun y => ⟨vp_in_nI (by omega) (by omega), vi, nm_r (e' := upd le i (nI (so_gt A i j + 1))) (by rw [nI_1]) (nm_r (nI_1 j) (ih (j + 1) _ (by omega) (by omega) (fun m hm => ?_) ?_))⟩)
        · rw [hs, if_neg z, if_pos y]; exact h4
        · rw [so_uN (by omega)]; exact h3 m hm
        · rw [so_uS, hs, if_neg z, if_neg (by omega)]
theorem xgr4 {post : Int32 → SX → Prop} (hc : c ≤ 40) (K : ∀ le', post (nI (so_gm A c)) (nI c, A, F, G, sp, rl, rh, st, ec, lc, pe, se, le')) :
    ∀ (n i : Nat) (le : Nat → Int32), c < n + i → i ≤ c → (∀ m, m < i → le m = nI (so_gt A i m)) → wX_growing_4 post (nI c) n (nI (so_gm A i)) (nI i) A F G sp rl rh st ec lc pe se le := by
  intro n
  induction n with
  | zero => intro i le h1 h2; omega
  | succ n ih =>
    intro i le h1 h2 h3
    rw [wX_growing_4]
    have ci : (nI i).toNatClampNeg = i := nI_clamp (by omega)
    refine pk_le c i (fun e => ?_) (fun e => ⟨vp_in_nI (by omega) (by omega), nm_r (e' := upd le i 1) (by rw [ci]) ⟨i + 1, xgr21 (by omega) (fun le' q => ih (i + 1) le' (by omega) (by omega) q) (i + 1) 0 (upd le i 1) (by omega) (by omega) (fun m hm => ?_) ?_⟩⟩)
    · have : i = c := by omega
      rw [this]; exact K le
    · rw [so_uN (by omega)]; exact h3 m hm
    · rw [so_uS]; rfl
theorem ygr17 {post : Int32 → SY → Prop} {J : Int32 → Int32 → (Nat → Int32) → (Nat → Int32) → Prop} {i : Nat}
    (hi : i < 40) (h3 : ∀ m, m < i → cp m = nI (so_gt A i m)) (K : ∀ cp', (∀ j, j < i + 1 → cp' j = nI (so_gt A (i + 1) j)) → J (nI (so_gm A (i + 1))) (nI (i + 1)) A cp') :
    ∀ (n j : Nat), i < n + j → j ≤ i → wY_growing_17 post J (nI (so_gm A i)) (nI i) (nI c) A cp n (nI (so_g1 A (so_gt A i) i j)) (nI j) := by
  intro n
  induction n with
  | zero => intro j h1 h2; omega
  | succ n ih =>
    intro j h1 h2
    rw [wY_growing_17]
    have cj : (nI j).toNatClampNeg = j := nI_clamp (by omega)
    have ci : (nI i).toNatClampNeg = i := nI_clamp (by omega)
    have vi : vp_in (nI i) 40 := vp_in_nI hi (by omega)
    have b1 := so_g1_b (A := A) (i := i) (so_gt_b A i) j
    have b2 := so_gm_b A i
    refine pk_le i j (fun e => ⟨vi, nm_r (e' := upd cp i (nI (so_g1 A (so_gt A i) i i))) ?_ ?_⟩) (fun e => ⟨vp_in_nI (by omega) (by omega), vi, ?_⟩)
    · have ej : j = i := by omega
      rw [ci, ej]
    · have ej : j = i := by omega
      rw [ej]
      have hle : ∀ m, m < i + 1 → upd cp i (nI (so_g1 A (so_gt A i) i i)) m = nI (so_gt A (i + 1) m) := fun m hm => by
        show upd cp i (nI (so_g1 A (so_gt A i) i i)) m = nI (so_pu (so_gt A i) i (so_g1 A (so_gt A i) i i) m)
        by_cases q : m = i
        · rw [q, so_pu_r, so_uS]
        · rw [so_pu_n _ _ q, so_uN q]; exact h3 m (by omega)
      have b3 := so_g1_b (A := A) (i := i) (so_gt_b A i) i
      have hm : so_gm A (i + 1) = if so_g1 A (so_gt A i) i i ≤ so_gm A i then so_gm A i else so_g1 A (so_gt A i) i i := rfl
      refine pk_le (so_g1 A (so_gt A i) i i) (so_gm A i) (fun z => nm_r (nI_1 i) ?_) (fun z => nm_r (nI_1 i) ?_)
      · have := K _ hle
        rw [hm, if_pos z] at this; exact this
      · have := K _ hle
        rw [hm, if_neg (by omega)] at this; exact this
    · rw [ci, cj]
      have hs : so_g1 A (so_gt A i) i (j + 1) = if A i ≤ A j then so_g1 A (so_gt A i) i j else if so_gt A i j < so_g1 A (so_gt A i) i j then so_g1 A (so_gt A i) i j else so_gt A i j + 1 := rfl
      have b4 := so_gt_b A i j
      have ih' := ih (j + 1) (by omega) (by omega)
      rw [hs] at ih'
      refine br_c (fun z => nm_r (nI_1 j) ?_) (fun z => ⟨vp_in_nI (by omega) (by omega), ?_⟩)
      · rw [if_pos z] at ih'; exact ih'
      · rw [if_neg z] at ih'
        rw [h3 j e, nI_1]
        refine pk_le (so_gt A i j + 1) (so_g1 A (so_gt A i) i j) (fun y => nm_r (nI_1 j) ?_) (fun y => ⟨vp_in_nI (by omega) (by omega), nm_e (nm_r (nI_1 j) ?_)⟩)
        · rw [if_pos (by omega)] at ih'; exact ih'
        · rw [if_neg (by omega)] at ih'; exact ih'
theorem ygr4 {post : Int32 → SY → Prop} (hc : c ≤ 40) (K : ∀ cp', post (nI (so_gm A c)) (nI c, A, cp')) :
    ∀ (n i : Nat) (cp : Nat → Int32), c < n + i → i ≤ c → (∀ m, m < i → cp m = nI (so_gt A i m)) → wY_growing_4 post (nI c) n (nI (so_gm A i)) (nI i) A cp := by
  intro n
  induction n with
  | zero => intro i cp h1 h2; omega
  | succ n ih =>
    intro i cp h1 h2 h3
    rw [wY_growing_4]
    refine pk_le c i (fun e => ?_) (fun e => ⟨i + 1, ygr17 (by omega) h3 (fun cp' q => ih (i + 1) cp' (by omega) (by omega) q) (i + 1) 0 (by omega) (by omega)⟩)
    have : i = c := by omega
    rw [this]; exact K cp
end
theorem i_vc_growing {k : Nat} {u : SX} {v : SY} (I : i_Rel k u v) (hk : k + 4 ≤ 2048) : wpX_growing (fun r u' => wpY_growing (fun r' v' => r' = r ∧ i_Rel (k + 4) u' v') v) u := by
  obtain ⟨c, A, F, G, sp, rl, rh, st, ec, lc, pe, se, le, cp, rfl, rfl, hc, hR⟩ := I
  exact ⟨c + 1, xgr4 hc (fun le' => ⟨c + 1, ygr4 hc (fun cp' => ⟨rfl, i_mk hc hR⟩) (c + 1) 0 cp (by omega) (by omega) (fun m hm => by omega)⟩) (c + 1) 0 le (by omega) (by omega) (fun m hm => by omega)⟩
