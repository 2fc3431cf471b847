/-- one count, one list of numbers within their bounds -/
def i_Rel (_ : Nat) (u : SX) (v : SY) : Prop :=
  ∃ (c : Nat) (A F G sp rl rh st ec lc pe se le cp : Nat → Int32), u = (nI c, A, F, G, sp, rl, rh, st, ec, lc, pe, se, le) ∧ v = (nI c, A, cp) ∧ c ≤ 40 ∧ so_R A c
theorem i_up {k : Nat} {u : SX} {v : SY} (h : i_Rel k u v) : i_Rel (k + 4) u v := h
theorem i_vc0 : wpX_init (fun u => wpY_init (fun v => i_Rel 0 u v)) :=
  ⟨0, _, _, _, _, _, _, _, _, _, _, _, _, _, rfl, rfl, by omega, fun i hi => by omega⟩
section
variable {A F G sp rl rh st ec lc pe se le cp : Nat → Int32} {fc : Int32} {c : Nat}
theorem i_mk {k : Nat} (hc : c ≤ 40) (hR : so_R A c) : i_Rel k (nI c, A, F, G, sp, rl, rh, st, ec, lc, pe, se, le) (nI c, A, cp) :=
  ⟨c, A, F, G, sp, rl, rh, st, ec, lc, pe, se, le, cp, rfl, rfl, hc, hR⟩
/-- a number that the document lets in -/
def so_ok (x : Int32) : Prop := -99 ≤ x.toInt ∧ x.toInt ≤ 99
theorem xnu {post : Int32 → Prop} {x : Int32} (h1 : so_ok x → post 1) (h0 : ¬ so_ok x → post 0) : wpX_isNumber post (fc, A, F, G, sp, rl, rh, st, ec, lc, pe, se, le) x := by
  refine br_c (fun l => h0 fun z => ?_) (fun l => br_c (fun m => h0 fun z => ?_) (fun m => h1 ⟨?_, ?_⟩))
  · rw [Int32.lt_iff_toInt_lt, so_m99] at l; have := z.1; omega
  · rw [Int32.lt_iff_toInt_lt, so_99] at m; have := z.2; omega
  · rw [Int32.lt_iff_toInt_lt, so_m99] at l; omega
  · rw [Int32.lt_iff_toInt_lt, so_99] at m; omega
theorem ynu {post : Int32 → Prop} {x : Int32} (h1 : so_ok x → post 1) (h0 : ¬ so_ok x → post 0) : wpY_fits post (fc, A, cp) x := by
  refine br_c (fun l => h0 fun z => ?_) (fun l => br_c (fun m => h0 fun z => ?_) (fun m => h1 ⟨?_, ?_⟩))
  · rw [Int32.lt_iff_toInt_lt, so_m99] at l; have := z.1; omega
  · rw [Int32.lt_iff_toInt_lt, so_99] at m; have := z.2; omega
  · rw [Int32.lt_iff_toInt_lt, so_m99] at l; omega
  · rw [Int32.lt_iff_toInt_lt, so_99] at m; omega
theorem xpl {post : Int32 → Prop} {x : Int32} (hc : c ≤ 40) (h1 : ∀ j, j < c → x = nI j → post 1) (h0 : (∀ j, j < c → x ≠ nI j) → post 0) : wpX_isPlace post (nI c, A, F, G, sp, rl, rh, st, ec, lc, pe, se, le) x := by
  rcases pk_ix x (n := c) (by omega) with a | a | ⟨j, hj, a⟩
  · exact br_t a (h0 fun j hj e => by rw [e] at a; exact nI_pos (by omega) a)
  · refine br_f (fun z => ?_) (br_t a (h0 fun j hj e => by rw [e] at a; exact nI_ge hj (by omega) a))
    rw [Int32.le_iff_toInt_le, nI_toInt (by omega)] at a
    rw [Int32.lt_iff_toInt_lt, show (0 : Int32).toInt = 0 from by decide] at z
    omega
  · rw [a]
    exact br_f (nI_pos (by omega)) (br_f (nI_ge hj (by omega)) (h1 j hj a))
theorem ypl {post : Int32 → Prop} {x : Int32} (hc : c ≤ 40) (h1 : ∀ j, j < c → x = nI j → post 1) (h0 : (∀ j, j < c → x ≠ nI j) → post 0) : wpY_is post (nI c, A, cp) x := by
  rcases pk_ix x (n := c) (by omega) with a | a | ⟨j, hj, a⟩
  · exact br_t a (h0 fun j hj e => by rw [e] at a; exact nI_pos (by omega) a)
  · refine br_f (fun z => ?_) (br_t a (h0 fun j hj e => by rw [e] at a; exact nI_ge hj (by omega) a))
    rw [Int32.le_iff_toInt_le, nI_toInt (by omega)] at a
    rw [Int32.lt_iff_toInt_lt, show (0 : Int32).toInt = 0 from by decide] at z
    omega
  · rw [a]
    exact br_f (nI_pos (by omega)) (br_f (nI_ge hj (by omega)) (h1 j hj a))
theorem xen {post : Int32 → Prop} {x : Int32} (h1 : ∀ j, j < 12 → x = nI j → post 1) (h0 : (∀ j, j < 12 → x ≠ nI j) → post 0) : wpX_isEngine post (fc, A, F, G, sp, rl, rh, st, ec, lc, pe, se, le) x := by
  rcases pk_ix x (n := 12) (by omega) with a | a | ⟨j, hj, a⟩
  · exact br_t a (h0 fun j hj e => by rw [e] at a; exact nI_pos (by omega) a)
  · have h11 : (11 : Int32).toInt = 11 := by decide
    rw [Int32.le_iff_toInt_le, nI_toInt (by omega)] at a
    refine br_f (fun z => ?_) (br_t ?_ (h0 fun j hj e => by rw [e, nI_toInt (by omega)] at a; omega))
    · rw [Int32.lt_iff_toInt_lt, show (0 : Int32).toInt = 0 from by decide] at z
      omega
    · rw [Int32.lt_iff_toInt_lt, h11]; omega
  · rw [a]
    exact br_f (nI_pos (by omega)) (br_f (nI_nlt (a := 11) (by omega) (by omega)) (h1 j hj a))
theorem yen {post : Int32 → Prop} {x : Int32} (h1 : ∀ j, j < 12 → x = nI j → post 1) (h0 : (∀ j, j < 12 → x ≠ nI j) → post 0) : wpY_engine post (fc, A, cp) x := by
  rcases pk_ix x (n := 12) (by omega) with a | a | ⟨j, hj, a⟩
  · exact br_t a (h0 fun j hj e => by rw [e] at a; exact nI_pos (by omega) a)
  · have h11 : (11 : Int32).toInt = 11 := by decide
    rw [Int32.le_iff_toInt_le, nI_toInt (by omega)] at a
    refine br_f (fun z => ?_) (br_t ?_ (h0 fun j hj e => by rw [e, nI_toInt (by omega)] at a; omega))
    · rw [Int32.lt_iff_toInt_lt, show (0 : Int32).toInt = 0 from by decide] at z
      omega
    · rw [Int32.lt_iff_toInt_lt, h11]; omega
  · rw [a]
    exact br_f (nI_pos (by omega)) (br_f (nI_nlt (a := 11) (by omega) (by omega)) (h1 j hj a))
end
theorem i_vc_size {k : Nat} {u : SX} {v : SY} (I : i_Rel k u v) (hk : k + 4 ≤ 2048) : wpX_size (fun r => wpY_size (fun r' => r' = r ∧ i_Rel (k + 4) u v) v) u := by
  obtain ⟨c, A, F, G, sp, rl, rh, st, ec, lc, pe, se, le, cp, rfl, rfl, hc, hR⟩ := I
  exact ⟨rfl, i_mk hc hR⟩
theorem i_vc_at {k : Nat} {u : SX} {v : SY} (I : i_Rel k u v) (hk : k + 4 ≤ 2048) (v1 : Int32) : wpX_at (fun r => wpY_at (fun r' => r' = r ∧ i_Rel (k + 4) u v) v v1) u v1 := by
  obtain ⟨c, A, F, G, sp, rl, rh, st, ec, lc, pe, se, le, cp, rfl, rfl, hc, hR⟩ := I
  unfold wpX_at wpY_at
  dsimp only
  refine xpl hc (fun j hj e => br_f xe_n10 ⟨by rw [e]; exact vp_in_nI (by omega) (by omega), ?_⟩) (fun h => br_t rfl ?_)
  · refine ypl hc (fun _ _ _ => br_f xe_n10 ⟨by rw [e]; exact vp_in_nI (by omega) (by omega), rfl, i_mk hc hR⟩) (fun h => (h j hj e).elim)
  · exact ypl hc (fun j hj e => (h j hj e).elim) (fun _ => br_t rfl ⟨rfl, i_mk hc hR⟩)
theorem so_R_u {A : Nat → Int32} {c j : Nat} {x : Int32} (hR : so_R A c) (hx : so_ok x) : so_R (upd A j x) c := by
  intro i hi
  by_cases q : i = j
  · rw [q, so_uS]; exact hx
  · rw [so_uN q]; exact hR i hi
theorem i_vc_change {k : Nat} {u : SX} {v : SY} (I : i_Rel k u v) (hk : k + 4 ≤ 2048) (v1 : Int32) (v2 : Int32) : wpX_change (fun r u' => wpY_change (fun r' v' => r' = r ∧ i_Rel (k + 4) u' v') v v1 v2) u v1 v2 := by
  obtain ⟨c, A, F, G, sp, rl, rh, st, ec, lc, pe, se, le, cp, rfl, rfl, hc, hR⟩ := I
  unfold wpX_change wpY_change
  dsimp only
  refine xpl hc (fun j hj e => br_f xe_n10 (xnu (fun g => br_f xe_n10 ?_) (fun g => br_t rfl ?_))) (fun h => br_t rfl ?_)
  · have vj : vp_in v1 40 := by rw [e]; exact vp_in_nI (by omega) (by omega)
    refine ⟨vj, nm_e ⟨vj, nm_e ?_⟩⟩
    exact ypl hc (fun _ _ _ => br_f xe_n10 (ynu (fun _ => br_f xe_n10 ⟨vj, nm_e ⟨vj, nm_e ⟨rfl, i_mk hc (so_R_u hR g)⟩⟩⟩) (fun g' => (g' g).elim))) (fun h => (h j hj e).elim)
  · exact ypl hc (fun _ _ _ => br_f xe_n10 (ynu (fun g' => (g g').elim) (fun _ => br_t rfl ⟨rfl, i_mk hc hR⟩))) (fun h => (h j hj e).elim)
  · exact ypl hc (fun j hj e => (h j hj e).elim) (fun _ => br_t rfl ⟨rfl, i_mk hc hR⟩)
