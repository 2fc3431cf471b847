section
variable {A h sp rl rh st ec lc pe se le : Nat → Int32} {fc : Int32} {c : Nat}
theorem xfo2_1 {post : SX → Prop} {e : Nat} (hc : c ≤ 40) (hR : so_R A c) (he : e < 12)
    (K : ∀ o' sp' rl' rh' st' ec' lc' pe', so_D (so_B A) c o' → post (nI c, A, o', h, sp', rl', rh', st', ec', lc', pe', se, le)) :
    ∀ (n k : Nat) (o : Nat → Int32), c < n + k → k ≤ c → (∀ m, m < k → o m = nI m) → wX_findOrder__firstOrder_2 post (nI e) (nI c) n (nI k) A o h sp rl rh st ec lc pe se le := by
  intro n
  induction n with
  | zero => intro k o h1 h2; omega
  | succ n ih =>
    intro k o h1 h2 hI
    rw [wX_findOrder__firstOrder_2]
    have ck : (nI k).toNatClampNeg = k := nI_clamp (by omega)
    have hB := so_BO A
    refine pk_le c k (fun z => ?_) (fun z => ⟨vp_in_nI (by omega) (by omega), nm_r (e' := upd o k (nI k)) (by rw [ck]) (nm_r (nI_1 k) (ih (k + 1) _ (by omega) (by omega) (fun m hm => ?_)))⟩)
    · have hI' : ∀ m, m < c → o m = nI m := fun m hm => hI m (by omega)
      have hP : so_P c o := so_P_id hI'
      have hn : c < 2 ^ 31 := by omega
      refine br_f (nI_pos (by omega)) (br_f (nI_nlt (a := 11) (by omega) (by omega)) ?_)
      refine pk_eq e 0 (fun _ => xin1 hc hP (fun o' p1 p2 => K o' sp rl rh st ec lc pe (so_D_of hB hn p1 p2))) (fun _ => ?_)
      refine pk_eq e 1 (fun _ => xse1 hc hP (fun o' p1 p2 => K o' sp rl rh st ec lc pe (so_D_of hB hn p1 p2))) (fun _ => ?_)
      refine pk_eq e 2 (fun _ => xbu1 hc hP (fun o' p1 p2 => K o' sp rl rh st ec lc pe (so_D_of hB hn p1 p2))) (fun _ => ?_)
      refine pk_eq e 3 (fun _ => xmg1 hc hP (fun o' s' p1 p2 => K o' s' rl rh st ec lc pe (so_D_of hB hn p1 p2))) (fun _ => ?_)
      refine pk_eq e 4 (fun _ => xhe1 hc hP (fun o' p1 p2 => K o' sp rl rh st ec lc pe (so_D_of hB hn p1 p2))) (fun _ => ?_)
      refine pk_eq e 5 (fun _ => xqu1 hc hP (fun o' rl' rh' p1 p2 => K o' sp rl' rh' st ec lc pe (so_D_of hB hn p1 p2))) (fun _ => ?_)
      refine pk_eq e 6 (fun _ => xga1 hc hP (fun o' p1 p2 => K o' sp rl rh st ec lc pe (so_D_of hB hn p1 p2))) (fun _ => ?_)
      refine pk_eq e 7 (fun _ => xco1 hc hR (fun o' st' p1 => K o' sp rl rh st' ec lc pe p1)) (fun _ => ?_)
      refine pk_eq e 8 (fun _ => xbi1 hc hR hI' (fun o' s' p1 p2 => K o' s' rl rh st ec lc pe (so_D_of hB hn p1 p2))) (fun _ => ?_)
      refine pk_eq e 9 (fun _ => xra1 hc (fun o' p1 => K o' sp rl rh st ec lc pe p1)) (fun _ => ?_)
      refine pk_eq e 10 (fun _ => xtr1 hc (fun o' ec' lc' pe' p1 => K o' sp rl rh st ec' lc' pe' p1)) (fun _ => ?_)
      exact pk_eq e 11 (fun _ => xod1 hc hP (fun o' p1 p2 => K o' sp rl rh st ec lc pe (so_D_of hB hn p1 p2))) (fun _ => trivial)
    · by_cases q : m = k
      · rw [q]; exact so_uS
      · rw [so_uN q]; exact hI m (by omega)
theorem xfo1 {post : SX → Prop} {o : Nat → Int32} {e : Nat} (hc : c ≤ 40) (hR : so_R A c) (he : e < 12)
    (K : ∀ o' sp' rl' rh' st' ec' lc' pe', so_D (so_B A) c o' → post (nI c, A, o', h, sp', rl', rh', st', ec', lc', pe', se, le)) : wpX_findOrder__firstOrder post (nI c, A, o, h, sp, rl, rh, st, ec, lc, pe, se, le) (nI e) :=
  ⟨c + 1, xfo2_1 hc hR he K (c + 1) 0 o (by omega) (by omega) (fun m hm => by omega)⟩
end
