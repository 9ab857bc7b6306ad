/-! the reference's questions that walk over documents and positions -/
section
variable {D T P : Nat} {L : Nat → Nat} {tx ty pt : Nat → Int32}
theorem fy_64 (d p : Nat) : 64 * nI d + nI p = nI (64 * d + p) := by rw [fi_m64, nI_add]
theorem fy_occurrence {post : Int32 → Prop} {i : Int32} (H : fi_inv D T P L tx ty) (h0 : P = 0 → post (-1)) (h1 : ¬ P = 0 → post (fi_oi tx pt D P L i)) : wpY_occurrence post (nI D, nI T, nI P, ty, fi_A L, pt) i := by
  have hP := H.2.2.1
  have hD := H.1.2
  have hl := fi_L60 H
  refine pk_eq P 0 h0 (fun g => ⟨D + 1, ?_⟩)
  refine fi_Y (fun n d s => wY_occurrence_13 post i (nI D) (nI T) (nI P) ty (fi_A L) pt n s (nI d)) (fun n d m p s => wY_occurrence_29 post (wY_occurrence_13 post i (nI D) (nI T) (nI P) ty (fi_A L) pt n) i (nI d) (nI D) (nI T) (nI P) ty (fi_A L) pt m s (nI p)) post D L (fun q s => match fi_oc tx pt L 0 P q with | true => (if s = i then .inl (nI q) else .inr (s + 1)) | false => .inr s) (fun _ => -2) hD hl ?_ ?_ ?_ ?_ (D + 1) 0 0 (by omega) (by omega) (h1 g)
  · intro n s h
    rw [wY_occurrence_13]
    exact pk_le D D (fun _ => h) (fun g => absurd g (by omega))
  · intro n d s hd h
    rw [wY_occurrence_13]
    exact pk_le D d (fun g => absurd g (by omega)) (fun _ => pk_le 5 d (fun g => absurd g (by omega)) (fun _ => h))
  · intro n m d s hd h
    have hld := hl d
    rw [wY_occurrence_29]
    exact ⟨pk_in d 5 (by omega), pk_le (L d) (L d) (fun _ => nm_r (nI_1 d) h) (fun g => absurd g (by omega)) (fi_Ac (by omega)) rfl (by omega) (by omega)⟩
  · intro n m d p s hd hp k1 k2
    have hld := hl d
    rw [wY_occurrence_29]
    refine ⟨pk_in d 5 (by omega), pk_le (L d) p (fun g => absurd g (by omega)) (fun _ => ?_) (fi_Ac (by omega)) rfl (by omega) (by omega)⟩
    rw [fy_64]
    exact fy_st (a := 0) (b := P) H (by omega) hP (by omega) (by omega) (fi_br (fun c => nm_r (nI_1 p) (k2 s (by rw [c]))) (fun c => br_c (fun z => k1 _ (by rw [c]; exact if_pos z)) (fun z => nm_e (nm_r (nI_1 p) (k2 _ (by rw [c]; exact if_neg z))))))
theorem fy_po {post : Int32 → Prop} {a b : Nat} (H : fi_inv D T P L tx ty) (hab : a ≤ b) (hb : b ≤ 8) (h : post (fi_po tx pt D L a b)) : wpY_occurs post (nI D, nI T, nI P, ty, fi_A L, pt) (nI a) (nI b) := by
  have hD := H.1.2
  have hl := fi_L60 H
  refine ⟨D + 1, ?_⟩
  refine fi_Y (fun n d _ => wY_occurs_2 post (nI a) (nI b) (nI D) (nI T) (nI P) ty (fi_A L) pt n (nI d)) (fun n d m p _ => wY_occurs_18 post (wY_occurs_2 post (nI a) (nI b) (nI D) (nI T) (nI P) ty (fi_A L) pt n) (nI a) (nI b) (nI d) (nI D) (nI T) (nI P) ty (fi_A L) pt m (nI p)) post D L (fun q s => match fi_oc tx pt L a b q with | true => .inl 1 | false => .inr s) (fun _ => 0) hD hl ?_ ?_ ?_ ?_ (D + 1) 0 0 (by omega) (by omega) h
  · intro n s h
    rw [wY_occurs_2]
    exact pk_le D D (fun _ => h) (fun g => absurd g (by omega))
  · intro n d s hd h
    rw [wY_occurs_2]
    exact pk_le D d (fun g => absurd g (by omega)) (fun _ => pk_le 5 d (fun g => absurd g (by omega)) (fun _ => h))
  · intro n m d s hd h
    have hld := hl d
    rw [wY_occurs_18]
    exact ⟨pk_in d 5 (by omega), pk_le (L d) (L d) (fun _ => nm_r (nI_1 d) h) (fun g => absurd g (by omega)) (fi_Ac (by omega)) rfl (by omega) (by omega)⟩
  · intro n m d p s hd hp k1 k2
    have hld := hl d
    rw [wY_occurs_18]
    refine ⟨pk_in d 5 (by omega), pk_le (L d) p (fun g => absurd g (by omega)) (fun _ => ?_) (fi_Ac (by omega)) rfl (by omega) (by omega)⟩
    exact fy_st H hab hb (by omega) (by omega) (fi_br (fun c => nm_r (nI_1 p) (k2 s (by rw [c]))) (fun c => k1 _ (by rw [c])))
theorem fy_le_l {post : Int32 → Prop} (H : fi_inv D T P L tx ty) : ∀ k n, k ≤ P → k < n → post (fi_lg (fun j => fi_po tx pt D L (P - j) P) k) → wY_longestEnd_5 post (nI D) (nI T) (nI P) ty (fi_A L) pt n (nI k) := by
  have hP := H.2.2.1
  intro k
  induction k with
  | zero =>
    intro n h1 h2 h
    obtain ⟨n, rfl⟩ : ∃ j, n = j + 1 := ⟨n - 1, by omega⟩
    rw [wY_longestEnd_5]
    exact pk_le 0 0 (fun _ => h) (fun g => absurd g (by omega))
  | succ k ih =>
    intro n h1 h2 h
    obtain ⟨n, rfl⟩ : ∃ j, n = j + 1 := ⟨n - 1, by omega⟩
    rw [wY_longestEnd_5]
    refine pk_le (k + 1) 0 (fun g => absurd g (by omega)) (fun _ => ?_)
    rw [pk_sub h1]
    rw [fi_lg] at h
    refine fy_po H (by omega) hP (br_c (fun c => nm_r (pk_m1 k) (ih n (by omega) (by omega) ?_)) (fun c => ?_))
    · rw [if_pos c] at h; exact h
    · rw [if_neg c] at h; exact h
theorem fy_longestEnd {post : Int32 → Prop} (H : fi_inv D T P L tx ty) (h : post (fi_lg (fun j => fi_po tx pt D L (P - j) P) P)) : wpY_longestEnd post (nI D, nI T, nI P, ty, fi_A L, pt) :=
  ⟨P + 1, fy_le_l H P (P + 1) (by omega) (by omega) h⟩
theorem fy_lb_l {post : Int32 → Prop} (H : fi_inv D T P L tx ty) : ∀ k n, k ≤ P → k < n → post (fi_lg (fun j => fi_po tx pt D L 0 j) k) → wY_longestBegin_5 post (nI D) (nI T) (nI P) ty (fi_A L) pt n (nI k) := by
  have hP := H.2.2.1
  intro k
  induction k with
  | zero =>
    intro n h1 h2 h
    obtain ⟨n, rfl⟩ : ∃ j, n = j + 1 := ⟨n - 1, by omega⟩
    rw [wY_longestBegin_5]
    exact pk_le 0 0 (fun _ => h) (fun g => absurd g (by omega))
  | succ k ih =>
    intro n h1 h2 h
    obtain ⟨n, rfl⟩ : ∃ j, n = j + 1 := ⟨n - 1, by omega⟩
    rw [wY_longestBegin_5]
    refine pk_le (k + 1) 0 (fun g => absurd g (by omega)) (fun _ => ?_)
    rw [fi_lg] at h
    refine fy_po (a := 0) (b := k + 1) H (by omega) (by omega) (br_c (fun c => nm_r (pk_m1 k) (ih n (by omega) (by omega) ?_)) (fun c => ?_))
    · rw [if_pos c] at h; exact h
    · rw [if_neg c] at h; exact h
theorem fy_longestBegin {post : Int32 → Prop} (H : fi_inv D T P L tx ty) (h : post (fi_lg (fun j => fi_po tx pt D L 0 j) P)) : wpY_longestBegin post (nI D, nI T, nI P, ty, fi_A L, pt) :=
  ⟨P + 1, fy_lb_l H P (P + 1) (by omega) (by omega) h⟩
theorem fy_rk {post : Int32 → Prop} {e q : Nat} (H : fi_inv D T P L tx ty) (he : e < 5) (hq : q ≤ L e) (h : post (fi_rk tx D L (64 * e + q))) : wpY_rank post (nI D, nI T, nI P, ty, fi_A L, pt) (nI e) (nI q) := by
  have hD := H.1.2
  have hl := fi_L60 H
  refine ⟨D + 1, ?_⟩
  refine fi_Y (fun n d s => wY_rank_5 post (nI e) (nI q) (nI D) (nI T) (nI P) ty (fi_A L) pt n s (nI d)) (fun n d m p s => wY_rank_23 post (wY_rank_5 post (nI e) (nI q) (nI D) (nI T) (nI P) ty (fi_A L) pt n) (nI e) (nI q) (nI d) (nI D) (nI T) (nI P) ty (fi_A L) pt m s (nI p)) post D L (fun r s => .inr (match fi_bf tx L r (64 * e + q) with | true => s + 1 | false => s)) (fun s => s) hD hl ?_ ?_ ?_ ?_ (D + 1) 0 0 (by omega) (by omega) h
  · intro n s h
    rw [wY_rank_5]
    exact pk_le D D (fun _ => h) (fun g => absurd g (by omega))
  · intro n d s hd h
    rw [wY_rank_5]
    exact pk_le D d (fun g => absurd g (by omega)) (fun _ => pk_le 5 d (fun g => absurd g (by omega)) (fun _ => h))
  · intro n m d s hd h
    have hld := hl d
    rw [wY_rank_23]
    exact ⟨pk_in d 5 (by omega), pk_le (L d) (L d) (fun _ => nm_r (nI_1 d) h) (fun g => absurd g (by omega)) (fi_Ac (by omega)) rfl (by omega) (by omega)⟩
  · intro n m d p s hd hp k1 k2
    have hld := hl d
    rw [wY_rank_23]
    refine ⟨pk_in d 5 (by omega), pk_le (L d) p (fun g => absurd g (by omega)) (fun _ => ?_) (fi_Ac (by omega)) rfl (by omega) (by omega)⟩
    exact fy_bf H (by omega) he (by omega) hq (fi_br (fun c => nm_r (nI_1 p) (k2 s (by rw [c]))) (fun c => nm_e (nm_r (nI_1 p) (k2 (s + 1) (by rw [c])))))
theorem fy_ranked {post : Int32 → Prop} {i : Int32} (H : fi_inv D T P L tx ty) (h : post (fi_ra tx D L i)) : wpY_ranked post (nI D, nI T, nI P, ty, fi_A L, pt) i := by
  have hD := H.1.2
  have hl := fi_L60 H
  refine ⟨D + 1, ?_⟩
  refine fi_Y (fun n d _ => wY_ranked_2 post i (nI D) (nI T) (nI P) ty (fi_A L) pt n (nI d)) (fun n d m p _ => wY_ranked_17 post (wY_ranked_2 post i (nI D) (nI T) (nI P) ty (fi_A L) pt n) i (nI d) (nI D) (nI T) (nI P) ty (fi_A L) pt m (nI p)) post D L (fun q s => if fi_rk tx D L q = i then .inl (nI q) else .inr s) (fun _ => -1) hD hl ?_ ?_ ?_ ?_ (D + 1) 0 0 (by omega) (by omega) h
  · intro n s h
    rw [wY_ranked_2]
    exact pk_le D D (fun _ => h) (fun g => absurd g (by omega))
  · intro n d s hd h
    rw [wY_ranked_2]
    exact pk_le D d (fun g => absurd g (by omega)) (fun _ => pk_le 5 d (fun g => absurd g (by omega)) (fun _ => h))
  · intro n m d s hd h
    have hld := hl d
    rw [wY_ranked_17]
    exact ⟨pk_in d 5 (by omega), pk_le (L d) (L d) (fun _ => nm_r (nI_1 d) h) (fun g => absurd g (by omega)) (fi_Ac (by omega)) rfl (by omega) (by omega)⟩
  · intro n m d p s hd hp k1 k2
    have hld := hl d
    rw [wY_ranked_17]
    refine ⟨pk_in d 5 (by omega), pk_le (L d) p (fun g => absurd g (by omega)) (fun _ => ?_) (fi_Ac (by omega)) rfl (by omega) (by omega)⟩
    rw [fy_64]
    exact fy_rk H (by omega) (by omega) (br_c (fun c => k1 _ (if_pos c)) (fun c => nm_r (nI_1 p) (k2 s (if_neg c))))
theorem fy_se {post : Int32 → Prop} {e q : Nat} (H : fi_inv D T P L tx ty) (he : e < D) (hq : q ≤ L e) (h : post (fi_se tx L (64 * e + q))) : wpY_seen post (nI D, nI T, nI P, ty, fi_A L, pt) (nI e) (nI q) := by
  have hD := H.1.2
  have hl := fi_L60 H
  have hle := hl e
  unfold fi_se at h
  rw [fi_dv (by omega)] at h
  refine ⟨e + 2, ?_⟩
  refine fi_Y (fun n d s => wY_seen_5 post (nI e) (nI q) (nI D) (nI T) (nI P) ty (fi_A L) pt n s (nI d)) (fun n d m p s => wY_seen_14 post (wY_seen_5 post (nI e) (nI q) (nI D) (nI T) (nI P) ty (fi_A L) pt n) (nI e) (nI q) (nI d) (nI D) (nI T) (nI P) ty (fi_A L) pt m s (nI p)) post (e + 1) L (fun r s => if r < 64 * e + q then .inr (fi_mx s (nI (fi_sh tx L r (64 * e + q)))) else .inr s) (fun s => s) (by omega) hl ?_ ?_ ?_ ?_ (e + 2) 0 0 (by omega) (by omega) h
  · intro n s h
    rw [wY_seen_5]
    exact pk_lt e (e + 1) (fun _ => h) (fun g => absurd g (by omega))
  · intro n d s hd h
    rw [wY_seen_5]
    exact pk_lt e d (fun g => absurd g (by omega)) (fun _ => h)
  · intro n m d s hd h
    have hld := hl d
    rw [wY_seen_14]
    exact ⟨pk_in d 5 (by omega), pk_le (L d) (L d) (fun _ => nm_r (nI_1 d) h) (fun g => absurd g (by omega)) (fi_Ac (by omega)) rfl (by omega) (by omega)⟩
  · intro n m d p s hd hp k1 k2
    have hld := hl d
    have key : 64 * d + p < 64 * e + q → wY_seen_38 post (wY_seen_5 post (nI e) (nI q) (nI D) (nI T) (nI P) ty (fi_A L) pt n) (wY_seen_14 post (wY_seen_5 post (nI e) (nI q) (nI D) (nI T) (nI P) ty (fi_A L) pt n) (nI e) (nI q) (nI d) (nI D) (nI T) (nI P) ty (fi_A L) pt m) (nI e) (nI q) s (nI d) (nI p) (nI D) (nI T) (nI P) ty (fi_A L) pt := by
      intro z
      unfold wY_seen_38
      exact fy_sh H (by omega) (by omega) (by omega) hq (br_c (fun c => nm_r (nI_1 p) (k2 s (by rw [if_pos z, fi_mx_l c]))) (fun c => nm_r (nI_1 p) (k2 _ (by rw [if_pos z, fi_mx_g c]))))
    rw [wY_seen_14]
    refine ⟨pk_in d 5 (by omega), pk_le (L d) p (fun g => absurd g (by omega)) (fun _ => ?_) (fi_Ac (by omega)) rfl (by omega) (by omega)⟩
    exact pk_lt d e (fun g => key (by omega)) (fun g => pk_le q p (fun g2 => nm_r (nI_1 p) (k2 s (if_neg (by omega)))) (fun g2 => key (by omega)))
theorem fy_repeated {post : Int32 → Prop} (H : fi_inv D T P L tx ty) (h : post (fi_re tx D L)) : wpY_repeated post (nI D, nI T, nI P, ty, fi_A L, pt) := by
  have hD := H.1.2
  have hl := fi_L60 H
  refine ⟨D + 1, ?_⟩
  refine fi_Y (fun n d s => wY_repeated_4 post (nI D) (nI T) (nI P) ty (fi_A L) pt n s (nI d)) (fun n d m p s => wY_repeated_19 post (wY_repeated_4 post (nI D) (nI T) (nI P) ty (fi_A L) pt n) (nI d) (nI D) (nI T) (nI P) ty (fi_A L) pt m s (nI p)) post D L (fun q s => .inr (fi_mx s (fi_se tx L q))) (fun s => s) hD hl ?_ ?_ ?_ ?_ (D + 1) 0 0 (by omega) (by omega) h
  · intro n s h
    rw [wY_repeated_4]
    exact pk_le D D (fun _ => h) (fun g => absurd g (by omega))
  · intro n d s hd h
    rw [wY_repeated_4]
    exact pk_le D d (fun g => absurd g (by omega)) (fun _ => pk_le 5 d (fun g => absurd g (by omega)) (fun _ => h))
  · intro n m d s hd h
    have hld := hl d
    rw [wY_repeated_19]
    exact ⟨pk_in d 5 (by omega), pk_le (L d) (L d) (fun _ => nm_r (nI_1 d) h) (fun g => absurd g (by omega)) (fi_Ac (by omega)) rfl (by omega) (by omega)⟩
  · intro n m d p s hd hp k1 k2
    have hld := hl d
    rw [wY_repeated_19]
    refine ⟨pk_in d 5 (by omega), pk_le (L d) p (fun g => absurd g (by omega)) (fun _ => ?_) (fi_Ac (by omega)) rfl (by omega) (by omega)⟩
    exact fy_se H hd (by omega) (br_c (fun c => nm_r (nI_1 p) (k2 s (by rw [fi_mx_l c]))) (fun c => nm_r (nI_1 p) (k2 _ (by rw [fi_mx_g c]))))
theorem fy_different {post : Int32 → Prop} (H : fi_inv D T P L tx ty) (h : post (fi_di tx D L)) : wpY_different post (nI D, nI T, nI P, ty, fi_A L, pt) := by
  have hD := H.1.2
  have hl := fi_L60 H
  refine ⟨D + 1, ?_⟩
  refine fi_Y (fun n d s => wY_different_4 post (nI D) (nI T) (nI P) ty (fi_A L) pt n s (nI d)) (fun n d m p s => wY_different_19 post (wY_different_4 post (nI D) (nI T) (nI P) ty (fi_A L) pt n) (nI d) (nI D) (nI T) (nI P) ty (fi_A L) pt m s (nI p)) post D L (fun q s => .inr (s + (nI (fi_rl L q) - fi_se tx L q))) (fun s => s) hD hl ?_ ?_ ?_ ?_ (D + 1) 0 0 (by omega) (by omega) h
  · intro n s h
    rw [wY_different_4]
    exact pk_le D D (fun _ => h) (fun g => absurd g (by omega))
  · intro n d s hd h
    rw [wY_different_4]
    exact pk_le D d (fun g => absurd g (by omega)) (fun _ => pk_le 5 d (fun g => absurd g (by omega)) (fun _ => h))
  · intro n m d s hd h
    have hld := hl d
    rw [wY_different_19]
    exact ⟨pk_in d 5 (by omega), pk_le (L d) (L d) (fun _ => nm_r (nI_1 d) h) (fun g => absurd g (by omega)) (fi_Ac (by omega)) rfl (by omega) (by omega)⟩
  · intro n m d p s hd hp k1 k2
    have hld := hl d
    have e1 : fi_A L (nI d).toNatClampNeg - nI p = nI (fi_rl L (64 * d + p)) := by
      rw [fi_Ac (by omega), pk_sub (by omega), fi_rl_dp (by omega)]
    rw [wY_different_19]
    refine ⟨pk_in d 5 (by omega), pk_le (L d) p (fun g => absurd g (by omega)) (fun _ => ?_) (fi_Ac (by omega)) rfl (by omega) (by omega)⟩
    rw [e1]
    exact ⟨pk_in d 5 (by omega), fy_se H hd (by omega) (nm_e (nm_r (nI_1 p) (k2 _ rfl)))⟩
theorem fy_ld {post : Int32 → Prop} {c : Int32} (H : fi_inv D T P L tx ty) (h : post (fi_ld tx pt D P L c)) : wpY_led post (nI D, nI T, nI P, ty, fi_A L, pt) c := by
  have hP := H.2.2.1
  have hD := H.1.2
  have hl := fi_L60 H
  refine ⟨D + 1, ?_⟩
  refine fi_Y (fun n d _ => wY_led_2 post c (nI D) (nI T) (nI P) ty (fi_A L) pt n (nI d)) (fun n d m p _ => wY_led_17 post (wY_led_2 post c (nI D) (nI T) (nI P) ty (fi_A L) pt n) c (nI d) (nI D) (nI T) (nI P) ty (fi_A L) pt m (nI p)) post D L (fun q s => if tx q = c then (match fi_oc tx pt L 0 P (q + 1) with | true => .inl 1 | false => .inr s) else .inr s) (fun _ => 0) hD hl ?_ ?_ ?_ ?_ (D + 1) 0 0 (by omega) (by omega) h
  · intro n s h
    rw [wY_led_2]
    exact pk_le D D (fun _ => h) (fun g => absurd g (by omega))
  · intro n d s hd h
    rw [wY_led_2]
    exact pk_le D d (fun g => absurd g (by omega)) (fun _ => pk_le 5 d (fun g => absurd g (by omega)) (fun _ => h))
  · intro n m d s hd h
    have hld := hl d
    rw [wY_led_17]
    exact ⟨pk_in d 5 (by omega), pk_le (L d) (L d) (fun _ => nm_r (nI_1 d) h) (fun g => absurd g (by omega)) (fi_Ac (by omega)) rfl (by omega) (by omega)⟩
  · intro n m d p s hd hp k1 k2
    have hld := hl d
    have e1 : 60 * nI d + nI p = nI (60 * d + p) := by rw [fi_m60, nI_add]
    rw [wY_led_17]
    refine ⟨pk_in d 5 (by omega), pk_le (L d) p (fun g => absurd g (by omega)) (fun _ => ?_) (fi_Ac (by omega)) rfl (by omega) (by omega)⟩
    rw [e1, nI_clamp (n := 60 * d + p) (by omega), fi_tx H hp, nI_1 p]
    refine ⟨pk_in (60 * d + p) 300 (by omega), br_c (fun z => ?_) (fun z => nm_e (k2 s (if_neg z)))⟩
    exact fy_st (a := 0) (b := P) (d := d) (p := p + 1) H (by omega) hP (by omega) (by omega) (fi_br (fun b => nm_e (k2 s (by rw [if_pos z]; show (match fi_oc tx pt L 0 P (64 * d + (p + 1)) with | true => _ | false => _) = _; rw [b]))) (fun b => k1 1 (by rw [if_pos z]; show (match fi_oc tx pt L 0 P (64 * d + (p + 1)) with | true => _ | false => _) = _; rw [b])))
theorem fy_ext_l {post : Int32 → Prop} (H : fi_inv D T P L tx ty) : ∀ m n c s, c + m = 5 → m < n → post (fi_cz (fun j => fi_ld tx pt D P L (nI j)) m c s) → wY_extensions_4 post (nI D) (nI T) (nI P) ty (fi_A L) pt n s (nI c) := by
  intro m
  induction m with
  | zero =>
    intro n c s h1 h2 h
    obtain ⟨n, rfl⟩ : ∃ j, n = j + 1 := ⟨n - 1, by omega⟩
    rw [wY_extensions_4]
    exact pk_le 5 c (fun _ => h) (fun g => absurd g (by omega))
  | succ m ih =>
    intro n c s h1 h2 h
    obtain ⟨n, rfl⟩ : ∃ j, n = j + 1 := ⟨n - 1, by omega⟩
    rw [wY_extensions_4]
    refine pk_le 5 c (fun g => absurd g (by omega)) (fun _ => ?_)
    rw [fi_cz] at h
    refine fy_ld H (br_c (fun z => nm_r (nI_1 c) (ih n (c + 1) _ (by omega) (by omega) ?_)) (fun z => nm_e (nm_r (nI_1 c) (ih n (c + 1) _ (by omega) (by omega) ?_))))
    · rw [if_pos z] at h; exact h
    · rw [if_neg z] at h; exact h
theorem fy_extensions {post : Int32 → Prop} (H : fi_inv D T P L tx ty) (h : post (fi_cz (fun j => fi_ld tx pt D P L (nI j)) 5 0 0)) : wpY_extensions post (nI D, nI T, nI P, ty, fi_A L, pt) :=
  ⟨6, fy_ext_l H 5 6 0 0 (by omega) (by omega) h⟩
end
