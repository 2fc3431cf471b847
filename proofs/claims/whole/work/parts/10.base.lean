theorem xe_n10 : ¬ (1 : Int32) = 0 := by decide
theorem xe_n20 : ¬ (2 : Int32) = 0 := by decide
theorem so_Bi (A : Nat → Int32) (x y : Int32) : so_B A x y = true ↔ (A x.toNatClampNeg).toInt < (A y.toNatClampNeg).toInt ∨ ((A x.toNatClampNeg).toInt = (A y.toNatClampNeg).toInt ∧ x.toInt < y.toInt) := so_Li _ x y
theorem so_P_v {c k : Nat} {o : Nat → Int32} (h : so_P c o) (hc : c ≤ 40) (hk : k < c) : vp_in (o k) 40 := by
  obtain ⟨i, hi, e⟩ := so_P_in h hk
  rw [e]; exact vp_in_nI (by omega) (by omega)
section
variable {A F G sp rl rh st ec lc pe se le : Nat → Int32} {fc : Int32} {c : Nat}
theorem xb {post : Int32 → Prop} {x y : Int32} (hx : vp_in x 40) (hy : vp_in y 40) (ht : so_B A x y = true → post 1) (hf : so_B A x y = false → post 0) :
    wpX_isBefore post (fc, A, F, G, sp, rl, rh, st, ec, lc, pe, se, le) x y := by
  have hi := so_Bi A x y
  refine ⟨hx, hy, br_c (fun e => br_c (fun l => hf (so_nt fun z => ?_)) (fun l => ht ?_)) (fun e => ⟨hx, hy, br_c (fun l => hf (so_nt fun z => ?_)) (fun l => ht ?_)⟩)⟩
  · rw [Int32.le_iff_toInt_le] at l
    rw [hi, e] at z
    omega
  · rw [Int32.le_iff_toInt_le] at l
    rw [hi, e]
    omega
  · rw [Int32.le_iff_toInt_le] at l
    have e' : (A x.toNatClampNeg).toInt ≠ (A y.toNatClampNeg).toInt := fun q => e (Int32.toInt_inj.1 q)
    rw [hi] at z
    omega
  · rw [Int32.le_iff_toInt_le] at l
    rw [hi]
    omega
theorem xrk4 {post : Int32 → Prop} {i : Nat} (hc : c ≤ 40) (hi : i < 40) (K : post (nI (so_rk (so_B A) c (nI i)))) : ∀ n k r : Nat, c < n + k → k ≤ c → r = so_c (fun m => so_B A (nI m) (nI i)) k →
    wX_rankOf_4 post (nI i) (nI c) A F G sp rl rh st ec lc pe se le n (nI r) (nI k) := by
  intro n
  induction n with
  | zero => intro k r h1 h2; omega
  | succ n ih =>
    intro k r h1 h2 hr
    rw [wX_rankOf_4]
    refine pk_le c k (fun e => ?_) (fun e => xb (vp_in_nI (by omega) (by omega)) (vp_in_nI hi (by omega)) (fun t => br_f xe_n10 (nm_r (nI_1 r) (nm_r (nI_1 k) (ih (k + 1) (r + 1) (by omega) (by omega) ?_)))) (fun f => br_t rfl (nm_r (nI_1 k) (ih (k + 1) r (by omega) (by omega) ?_))))
    · have : k = c := by omega
      rw [hr, this]; exact K
    · rw [so_cs, t, so_t1, hr]
    · rw [so_cs, f, so_f0, hr]; rfl
theorem xrk {post : Int32 → Prop} {i : Nat} (hc : c ≤ 40) (hi : i < 40) (K : post (nI (so_rk (so_B A) c (nI i)))) :
    wpX_rankOf post (nI c, A, F, G, sp, rl, rh, st, ec, lc, pe, se, le) (nI i) :=
  ⟨c + 1, xrk4 hc hi K (c + 1) 0 0 (by omega) (by omega) rfl⟩
theorem xky {post : Int32 → Prop} {i : Nat} (hi : i < 40) (K : post (A i - (-99))) : wpX_keyOf post (fc, A, F, G, sp, rl, rh, st, ec, lc, pe, se, le) (nI i) := by
  have e : (nI i).toNatClampNeg = i := nI_clamp (by omega)
  refine ⟨vp_in_nI hi (by omega), ?_⟩
  rw [e]; exact K
theorem xswn {post : SX → Prop} {i j : Nat} (hi : i < 40) (hj : j < 40) (h : post (fc, so_w A i j, F, G, sp, rl, rh, st, ec, lc, pe, se, le)) :
    wpX_swap__numbers post (fc, A, F, G, sp, rl, rh, st, ec, lc, pe, se, le) (nI i) (nI j) := by
  have ei : (nI i).toNatClampNeg = i := nI_clamp (by omega)
  have ej : (nI j).toNatClampNeg = j := nI_clamp (by omega)
  have vi : vp_in (nI i) 40 := vp_in_nI hi (by omega)
  have vj : vp_in (nI j) 40 := vp_in_nI hj (by omega)
  exact ⟨vi, nm_r (e' := A i) (by rw [ei]) ⟨vj, vi, nm_r (e' := upd A i (A j)) (by rw [ei, ej]) ⟨vj, nm_r (e' := so_w A i j) (by rw [ej]; rfl) h⟩⟩⟩
theorem xcpn3 {post : SX → Prop} {b : Nat} (hb : b ≤ 40) {a : Nat} {A0 : Nat → Int32} (K : post (fc, so_cp A0 sp a b, F, G, sp, rl, rh, st, ec, lc, pe, se, le)) : ∀ n k : Nat, b < n + k → a ≤ k → k ≤ b →
    wX_copyRange__spare_numbers_3 post (nI b) fc n (nI k) (so_cp A0 sp a k) F G sp rl rh st ec lc pe se le := by
  intro n
  induction n with
  | zero => intro k h1 h2; omega
  | succ n ih =>
    intro k h1 h2 h3
    rw [wX_copyRange__spare_numbers_3]
    have ck : (nI k).toNatClampNeg = k := nI_clamp (by omega)
    refine pk_le b k (fun e => ?_) (fun e => ⟨vp_in_nI (by omega) (by omega), vp_in_nI (by omega) (by omega), nm_r (e' := so_cp A0 sp a (k + 1)) (by rw [ck, so_cp_s A0 sp h2]) (nm_r (nI_1 k) (ih (k + 1) (by omega) (by omega) (by omega)))⟩)
    have : k = b := by omega
    rw [this]; exact K
theorem xcpn {post : SX → Prop} {a b : Nat} (hab : a ≤ b) (hb : b ≤ 40) (K : post (fc, so_cp A sp a b, F, G, sp, rl, rh, st, ec, lc, pe, se, le)) :
    wpX_copyRange__spare_numbers post (fc, A, F, G, sp, rl, rh, st, ec, lc, pe, se, le) (nI a) (nI b) := by
  refine ⟨b + 1, ?_⟩
  have h := xcpn3 (fc := fc) hb K (b + 1) a (by omega) (by omega) hab
  rw [so_cp_0] at h
  exact h
theorem xar_t {post : Int32 → SX → Prop} {r a b : Nat} (hr : r < 40) (hab : a < b) (hb : b < 40) (K : post (nI (r + 1)) (fc, A, F, G, sp, upd rl r (nI a), upd rh r (nI b), st, ec, lc, pe, se, le)) :
    wpX_addRange post (fc, A, F, G, sp, rl, rh, st, ec, lc, pe, se, le) (nI r) (nI a) (nI b) := by
  have er : (nI r).toNatClampNeg = r := nI_clamp (by omega)
  have vr : vp_in (nI r) 40 := vp_in_nI hr (by omega)
  refine br_t (nI_lt hab (by omega)) ⟨vr, nm_r (e' := upd rl r (nI a)) (by rw [er]) ⟨vr, nm_r (e' := upd rh r (nI b)) (by rw [er]) ?_⟩⟩
  rw [nI_1]; exact K
theorem xar_f {post : Int32 → SX → Prop} {r x y : Int32} (hxy : ¬ x < y) (K : post r (fc, A, F, G, sp, rl, rh, st, ec, lc, pe, se, le)) :
    wpX_addRange post (fc, A, F, G, sp, rl, rh, st, ec, lc, pe, se, le) r x y := br_f hxy K
/-- a place hung into the tree -/
theorem xht4 {post : SX → Prop} {ρ : Nat → Nat} {lo hi : Nat → Nat} {p : Nat} (hc : c ≤ 40) (hρ : ∀ i, i < c → ρ i = so_rk (so_B A) c (nI i)) (hp0 : 0 < p) (hp : p < c) (hT : so_T c p ρ ec lc lo hi)
    (K : ∀ ec' lc' lo' hi', so_T c (p + 1) ρ ec' lc' lo' hi' → post (nI c, A, F, G, sp, rl, rh, st, ec', lc', pe, se, le)) :
    ∀ n v d : Nat, c < n + d → d ≤ v → v < p → lo v ≤ ρ p → ρ p < hi v → wX_hangInTree_4 post (nI p) (nI c) A F G sp rl rh st ec lc pe se le n (nI v) (nI d) := by
  intro n
  induction n with
  | zero => intro v d h1 h2 h3; omega
  | succ n ih =>
    intro v d h1 h2 h3 h4 h5
    rw [wX_hangInTree_4]
    have cv : (nI v).toNatClampNeg = v := nI_clamp (by omega)
    have vv : vp_in (nI v) 40 := vp_in_nI (by omega) (by omega)
    have hB := so_BO A
    have hne : ρ v ≠ ρ p := fun e => by
      rw [hρ v (by omega), hρ p hp] at e
      have := so_rk_inj hB (by omega) (by omega) hp e
      omega
    have hiff := so_rk_iff hB (n := c) hp (show v < c by omega)
    rw [← hρ p hp, ← hρ v (by omega)] at hiff
    refine br_f (nI_ge (by omega) (by omega)) (xb (vp_in_nI (by omega) (by omega)) vv (fun t => ?_) (fun f => ?_))
    · have hlt := hiff.1 t
      refine br_f xe_n10 ⟨vv, ?_⟩
      rw [cv]
      rcases hT.2.2.1 v h3 with ⟨a1, a2⟩ | ⟨x, a1, a2, a3, a4, a5⟩
      · exact br_t a1 (br_f xe_n10 ⟨vv, nm_r (e' := upd ec v (nI p)) (by rw [cv]) (K _ _ _ _ (so_T_e hT h3 hp (by omega) hp0 a1 h4 hlt))⟩)
      · rw [a3]
        exact br_f (so_m1 (by omega)) (br_f (so_m1 (by omega)) (nm_r (nI_1 d) (ih x (d + 1) (by omega) (by omega) a2 (by omega) (by omega))))
    · have hlt : ρ v < ρ p := by
        have : ¬ ρ p < ρ v := fun z => so_tf (hiff.2 z) f
        omega
      refine br_t rfl ⟨vv, ?_⟩
      rw [cv]
      rcases hT.2.2.2.1 v h3 with ⟨a1, a2⟩ | ⟨x, a1, a2, a3, a4, a5⟩
      · exact br_t a1 (br_t rfl (br_t a1 ⟨vv, nm_r (e' := upd lc v (nI p)) (by rw [cv]) (K _ _ _ _ (so_T_l hT h3 hp (by omega) hp0 a1 hlt h5))⟩))
      · rw [a3]
        exact br_f (so_m1 (by omega)) (br_f (so_m1 (by omega)) (nm_r (nI_1 d) (ih x (d + 1) (by omega) (by omega) a2 (by omega) (by omega))))
theorem xht {post : SX → Prop} {ρ : Nat → Nat} {lo hi : Nat → Nat} {p : Nat} (hc : c ≤ 40) (hρ : ∀ i, i < c → ρ i = so_rk (so_B A) c (nI i)) (hp0 : 0 < p) (hp : p < c) (hT : so_T c p ρ ec lc lo hi)
    (K : ∀ ec' lc' lo' hi', so_T c (p + 1) ρ ec' lc' lo' hi' → post (nI c, A, F, G, sp, rl, rh, st, ec', lc', pe, se, le)) :
    wpX_hangInTree post (nI c, A, F, G, sp, rl, rh, st, ec, lc, pe, se, le) (nI p) := by
  refine ⟨c + 1, xht4 hc hρ hp0 hp hT K (c + 1) 0 0 (by omega) (by omega) hp0 ?_ ?_⟩
  · rw [hT.1.1]; omega
  · rw [hT.1.2, hρ p hp]; exact so_rk_lt (so_BO A) hp
end
def so_kn (x : Int32) : Nat := (x - (-99)).toNatClampNeg
theorem so_knk {x : Int32} (h1 : -99 ≤ x.toInt) (h2 : x.toInt ≤ 99) : so_kn x < 199 ∧ x - (-99) = nI (so_kn x) ∧ x.toInt = (so_kn x : Int) - 99 := by
  obtain ⟨k, hk, e1, e2⟩ := so_key h1 h2
  have e3 : so_kn x = k := by unfold so_kn; rw [e1]; exact nI_clamp (by omega)
  rw [e3]; exact ⟨hk, e1, e2⟩
/-- the numbers are within their bounds -/
def so_R (A : Nat → Int32) (c : Nat) : Prop := ∀ i, i < c → -99 ≤ (A i).toInt ∧ (A i).toInt ≤ 99
def so_kf (A : Nat → Int32) (x : Int32) : Nat := so_kn (A x.toNatClampNeg)
theorem so_kfn {A : Nat → Int32} {i : Nat} (hi : i < 2 ^ 31) : so_kf A (nI i) = so_kn (A i) := by unfold so_kf; rw [nI_clamp hi]
theorem so_P_x {n : Nat} {o s : Nat → Int32} (h : ∀ m, m < n → o m = s m) (hP : so_P n s) : so_P n o := fun p => by
  rw [← hP p]; exact so_c_ext (fun m hm => by rw [h m hm])
theorem so_S_x {B : Int32 → Int32 → Bool} {n : Nat} {o s : Nat → Int32} (h : ∀ m, m < n → o m = s m) (hS : so_S B s 0 n) : so_S B o 0 n := fun i j a b d => by
  rw [h i (by omega), h j d]; exact hS i j a b d
theorem so_bit {k b : Nat} (hk : k < 199) (hb : b < 8) : (nI k >>> (nI b &&& 31)) &&& 1 = nI (k / 2 ^ b % 2) := by
  rw [pk_shrN (by omega) (nI b &&& 31) b (s_l b (by omega))]
  exact pk_andN (Nat.lt_of_le_of_lt (Nat.div_le_self _ _) (by omega)) 1 (by decide)
/-- counting, third loop -/
def so_c3 (ky : Nat → Nat) (c k j : Nat) : Nat := if j < k then so_c (fun m => decide (ky m < j)) c else so_c (fun m => decide (ky m + 1 = j)) c
theorem so_c3_1 (ky : Nat → Nat) (c j : Nat) : so_c3 ky c 1 j = so_c (fun m => decide (ky m + 1 = j)) c := by
  unfold so_c3
  by_cases h : j < 1
  · rw [if_pos h]
    refine so_c_ext (fun m _ => ?_)
    rw [decide_eq_false (by omega), decide_eq_false (by omega)]
  · rw [if_neg h]
theorem so_c3_s (ky : Nat → Nat) (c k : Nat) : so_c3 ky c (k + 1) (k + 1) + so_c3 ky c (k + 1) k = so_c3 ky c (k + 2) (k + 1) := by
  unfold so_c3
  rw [if_neg (by omega), if_pos (by omega), if_pos (by omega)]
  symm
  refine so_c_or (fun m _ => ?_)
  by_cases a : ky m < k
  · rw [decide_eq_true (show ky m < k + 1 by omega), decide_eq_false (show ¬ ky m + 1 = k + 1 by omega), decide_eq_true a]; rfl
  · by_cases b : ky m = k
    · rw [decide_eq_true (show ky m < k + 1 by omega), decide_eq_true (show ky m + 1 = k + 1 by omega), decide_eq_false a]; rfl
    · rw [decide_eq_false (show ¬ ky m < k + 1 by omega), decide_eq_false (show ¬ ky m + 1 = k + 1 by omega), decide_eq_false a]; rfl
theorem so_c3_o (ky : Nat → Nat) (c k j : Nat) (h : j ≠ k + 1) : so_c3 ky c (k + 2) j = so_c3 ky c (k + 1) j := by
  unfold so_c3
  by_cases a : j < k + 1
  · rw [if_pos a, if_pos (by omega)]
  · rw [if_neg a, if_neg (by omega)]
theorem so_c3_e (ky : Nat → Nat) (c j : Nat) (h : j < 200) : so_c3 ky c 200 j = so_c (fun m => decide (ky m < j)) c := if_pos h
