/-! the reference's questions: each answers the same pure value -/
section
variable {D T P : Nat} {L : Nat → Nat} {tx ty pt : Nat → Int32}
theorem fy_badSym_n {post : Int32 → Prop} {x : Int32} (hx : x < 0) (h : post 1) : wpY_badSymbol post (nI D, nI T, nI P, ty, fi_A L, pt) x := br_t hx h
theorem fy_badSym {post : Int32 → Prop} {j : Nat} (hj : j < 2 ^ 31) (h0 : j < 5 → post 0) (h1 : ¬ j < 5 → post 1) : wpY_badSymbol post (nI D, nI T, nI P, ty, fi_A L, pt) (nI j) :=
  br_f (nI_pos hj) (pk_le j 4 (fun g => h0 (by omega)) (fun g => h1 (by omega)))
theorem fy_bad_n {post : Int32 → Prop} {x : Int32} (hx : x < 0) (h : post 1) : wpY_bad post (nI D, nI T, nI P, ty, fi_A L, pt) x := br_t hx h
theorem fy_bad {post : Int32 → Prop} {d : Nat} (H : fi_inv D T P L tx ty) (hd : d < 2 ^ 31) (h0 : d < D → post 0) (h1 : ¬ d < D → post 1) : wpY_bad post (nI D, nI T, nI P, ty, fi_A L, pt) (nI d) :=
  have hD := H.1.2
  br_f (nI_pos hd) (pk_le D d (fun g => h1 (by omega)) (fun g => pk_le d 4 (fun _ => h0 g) (fun z => absurd z (by omega))))
theorem fy_badPlace_n {post : Int32 → Prop} {x : Int32} (hx : x < 0) (h : post 1) : wpY_badPlace post (nI D, nI T, nI P, ty, fi_A L, pt) x := br_t hx h
theorem fy_badPlace {post : Int32 → Prop} {q : Nat} (H : fi_inv D T P L tx ty) (hq : q < 2 ^ 31) (h0 : fi_ok D L q = true → post 0) (h1 : fi_ok D L q = false → post 1) : wpY_badPlace post (nI D, nI T, nI P, ty, fi_A L, pt) (nI q) := by
  have hD := H.1.2
  have hl := fi_L60 H (q / 64)
  unfold wpY_badPlace
  refine br_f (nI_pos hq) ⟨fi_640, ?_⟩
  rw [fi_r64' hq, fi_d64 hq]
  refine fy_bad H (by omega) (fun hd => ?_) (fun hd => ?_)
  · refine br_t rfl ⟨fi_640, fi_640, pk_in (q / 64) 5 (by omega), ?_⟩
    exact pk_lt (q % 64) (L (q / 64)) (fun g => h0 (fi_ok_i hd g)) (fun g => h1 (fi_ok_f (by omega))) rfl (fi_Ac (by omega)) (by omega) (by omega)
  · exact br_f fi_10 (h1 (fi_ok_f (by omega)))
theorem fy_st_l {post : Int32 → Prop} {a b d p : Nat} (H : fi_inv D T P L tx ty) (hb : b ≤ 8) (hd : d < 5) (hp : p + b ≤ L d + a) : ∀ m n k, k + m = b → a ≤ k → m < n → post (fi_b (fi_oa tx pt m (64 * d + p + k - a) k)) → wY_stands_20 post (nI d) (nI p) (nI a) (nI b) (nI D) (nI T) (nI P) ty (fi_A L) pt n (nI k) := by
  have hl := fi_L60 H d
  intro m
  induction m with
  | zero =>
    intro n k h1 h2 h3 h
    obtain ⟨n, rfl⟩ : ∃ j, n = j + 1 := ⟨n - 1, by omega⟩
    rw [wY_stands_20]
    exact pk_le b k (fun _ => h) (fun g => absurd g (by omega))
  | succ m ih =>
    intro n k h1 h2 h3 h
    obtain ⟨n, rfl⟩ : ∃ j, n = j + 1 := ⟨n - 1, by omega⟩
    have e : 60 * nI d + nI p + nI k - nI a = nI (60 * d + (p + k - a)) := by
      rw [fi_m60, nI_add, nI_add, pk_sub (by omega)]
      exact congrArg nI (by omega)
    have ht : ty (60 * d + (p + k - a)) = tx (64 * d + p + k - a) := by
      rw [fi_tx H (by omega), show 64 * d + (p + k - a) = 64 * d + p + k - a by omega]
    rw [wY_stands_20]
    refine pk_le b k (fun g => absurd g (by omega)) (fun _ => pk_le 8 k (fun g => absurd g (by omega)) (fun _ => ?_))
    rw [e, nI_clamp (n := 60 * d + (p + k - a)) (by omega), nI_clamp (n := k) (by omega), ht]
    refine ⟨pk_in (60 * d + (p + k - a)) 300 (by omega), pk_in k 8 (by omega), ?_⟩
    by_cases c : tx (64 * d + p + k - a) = pt k
    · rw [fi_oa_t c] at h
      refine br_t c (nm_r (nI_1 k) (ih n (k + 1) (by omega) (by omega) (by omega) ?_))
      rw [show 64 * d + p + (k + 1) - a = 64 * d + p + k - a + 1 by omega]
      exact h
    · exact br_f c (fi_pf h (fi_oa_f c))
theorem fy_st {post : Int32 → Prop} {a b d p : Nat} (H : fi_inv D T P L tx ty) (hab : a ≤ b) (hb : b ≤ 8) (hd : d < 5) (hp : p ≤ L d) (h : post (fi_b (fi_oc tx pt L a b (64 * d + p)))) : wpY_stands post (nI D, nI T, nI P, ty, fi_A L, pt) (nI d) (nI p) (nI a) (nI b) := by
  have hl := fi_L60 H d
  have hr : fi_rl L (64 * d + p) = L d - p := fi_rl_dp (by omega)
  have e : nI p + nI b - nI a = nI (p + b - a) := by rw [nI_add, pk_sub (by omega)]
  unfold wpY_stands
  refine ⟨pk_in d 5 hd, pk_le (p + b - a) (L d) (fun g => ⟨b - a + 1, ?_⟩) (fun g => fi_pf h (fi_oc_f (by omega))) e (fi_Ac (by omega)) (by omega) (by omega)⟩
  rw [fi_oc_t (by omega)] at h
  refine fy_st_l H hb hd (by omega) (b - a) (b - a + 1) a (by omega) (by omega) (by omega) ?_
  rw [show 64 * d + p + a - a = 64 * d + p by omega]
  exact h
theorem fy_occ_l {post : Int32 → Prop} {d : Nat} (H : fi_inv D T P L tx ty) (hd : d < 5) : ∀ m n p s, p + m = L d → m < n → post (fi_ci tx pt P L d m p s) → wY_countOf_4 post (nI d) (nI D) (nI T) (nI P) ty (fi_A L) pt n s (nI p) := by
  have hl := fi_L60 H d
  have hP := H.2.2.1
  intro m
  induction m with
  | zero =>
    intro n p s h1 h2 h
    obtain ⟨n, rfl⟩ : ∃ j, n = j + 1 := ⟨n - 1, by omega⟩
    rw [wY_countOf_4]
    exact ⟨pk_in d 5 hd, pk_le (L d) p (fun _ => h) (fun g => absurd g (by omega)) (fi_Ac (by omega)) rfl (by omega) (by omega)⟩
  | succ m ih =>
    intro n p s h1 h2 h
    obtain ⟨n, rfl⟩ : ∃ j, n = j + 1 := ⟨n - 1, by omega⟩
    rw [wY_countOf_4]
    refine ⟨pk_in d 5 hd, pk_le (L d) p (fun g => absurd g (by omega)) (fun _ => ?_) (fi_Ac (by omega)) rfl (by omega) (by omega)⟩
    refine fy_st (a := 0) (b := P) (d := d) (p := p) H (by omega) hP hd (by omega) ?_
    refine fi_br (fun e => nm_r (nI_1 p) (ih n (p + 1) s (by omega) (by omega) ?_)) (fun e => nm_e (nm_r (nI_1 p) (ih n (p + 1) (s + 1) (by omega) (by omega) ?_)))
    · rw [fi_ci_f e] at h; exact h
    · rw [fi_ci_t e] at h; exact h
theorem fy_occ {post : Int32 → Prop} {d : Nat} (H : fi_inv D T P L tx ty) (hd : d < 5) (h : post (fi_cd tx pt P L d)) : wpY_countOf post (nI D, nI T, nI P, ty, fi_A L, pt) (nI d) :=
  ⟨L d + 1, fy_occ_l H hd (L d) (L d + 1) 0 0 (by omega) (by omega) h⟩
theorem fy_cnt_l {post : Int32 → Prop} (H : fi_inv D T P L tx ty) : ∀ m n d s, d + m = D → m < n → post (fi_cs (fi_cd tx pt P L) m d s) → wY_count_13 post (nI D) (nI T) (nI P) ty (fi_A L) pt n s (nI d) := by
  have hD := H.1.2
  intro m
  induction m with
  | zero =>
    intro n d s h1 h2 h
    obtain ⟨n, rfl⟩ : ∃ j, n = j + 1 := ⟨n - 1, by omega⟩
    rw [wY_count_13]
    exact pk_le D d (fun _ => h) (fun g => absurd g (by omega))
  | succ m ih =>
    intro n d s h1 h2 h
    obtain ⟨n, rfl⟩ : ∃ j, n = j + 1 := ⟨n - 1, by omega⟩
    rw [wY_count_13]
    refine pk_le D d (fun g => absurd g (by omega)) (fun _ => ?_)
    exact fy_occ H (by omega) (nm_e (nm_r (nI_1 d) (ih n (d + 1) _ (by omega) (by omega) h)))
theorem fy_count {post : Int32 → Prop} (H : fi_inv D T P L tx ty) (h0 : P = 0 → post (-1)) (h1 : ¬ P = 0 → post (fi_cs (fi_cd tx pt P L) D 0 0)) : wpY_count post (nI D, nI T, nI P, ty, fi_A L, pt) :=
  have hP := H.2.2.1
  pk_eq P 0 h0 (fun g => ⟨D + 1, fy_cnt_l H D (D + 1) 0 0 (by omega) (by omega) (h1 g)⟩)
theorem fy_spr_l {post : Int32 → Prop} (H : fi_inv D T P L tx ty) : ∀ m n d s, d + m = D → m < n → post (fi_cp (fi_cd tx pt P L) m d s) → wY_spread_13 post (nI D) (nI T) (nI P) ty (fi_A L) pt n s (nI d) := by
  have hD := H.1.2
  intro m
  induction m with
  | zero =>
    intro n d s h1 h2 h
    obtain ⟨n, rfl⟩ : ∃ j, n = j + 1 := ⟨n - 1, by omega⟩
    rw [wY_spread_13]
    exact pk_le D d (fun _ => h) (fun g => absurd g (by omega))
  | succ m ih =>
    intro n d s h1 h2 h
    obtain ⟨n, rfl⟩ : ∃ j, n = j + 1 := ⟨n - 1, by omega⟩
    rw [wY_spread_13]
    refine pk_le D d (fun g => absurd g (by omega)) (fun _ => ?_)
    rw [fi_cp] at h
    refine fy_occ H (by omega) (br_c (fun c => nm_r (nI_1 d) (ih n (d + 1) _ (by omega) (by omega) ?_)) (fun c => nm_e (nm_r (nI_1 d) (ih n (d + 1) _ (by omega) (by omega) ?_))))
    · rw [if_pos c] at h; exact h
    · rw [if_neg c] at h; exact h
theorem fy_spread {post : Int32 → Prop} (H : fi_inv D T P L tx ty) (h0 : P = 0 → post (-1)) (h1 : ¬ P = 0 → post (fi_cp (fi_cd tx pt P L) D 0 0)) : wpY_spread post (nI D, nI T, nI P, ty, fi_A L, pt) :=
  have hP := H.2.2.1
  pk_eq P 0 h0 (fun g => ⟨D + 1, fy_spr_l H D (D + 1) 0 0 (by omega) (by omega) (h1 g)⟩)
/-- the reference's loop of 60 once the rests have parted -/
theorem fy_sh_2 {post : Int32 → Prop} {d p e q k : Nat} (h : post (nI k)) : ∀ m n i, i + m = 60 → k < i → m < n → wY_shared_6 post (nI d) (nI p) (nI e) (nI q) (nI D) (nI T) (nI P) ty (fi_A L) pt n (nI k) (nI i) := by
  intro m
  induction m with
  | zero =>
    intro n i h1 h2 h3
    obtain ⟨n, rfl⟩ : ∃ j, n = j + 1 := ⟨n - 1, by omega⟩
    rw [wY_shared_6]
    exact pk_le 60 i (fun _ => h) (fun g => absurd g (by omega))
  | succ m ih =>
    intro n i h1 h2 h3
    obtain ⟨n, rfl⟩ : ∃ j, n = j + 1 := ⟨n - 1, by omega⟩
    rw [wY_shared_6]
    exact pk_le 60 i (fun g => absurd g (by omega)) (fun _ => pk_eq k i (fun g => absurd g (by omega)) (fun _ => nm_r (nI_1 i) (ih n (i + 1) (by omega) (by omega) (by omega))))
theorem fy_sh_l {post : Int32 → Prop} {d p e q : Nat} (H : fi_inv D T P L tx ty) (hd : d < 5) (he : e < 5) (hp : p ≤ L d) (hq : q ≤ L e) : ∀ m n k, k + m = 60 → m < n → post (nI (fi_sp tx (L d - p) (L e - q) (64 * d + p) (64 * e + q) m k)) → wY_shared_6 post (nI d) (nI p) (nI e) (nI q) (nI D) (nI T) (nI P) ty (fi_A L) pt n (nI k) (nI k) := by
  have hl := fi_L60 H d
  have hl2 := fi_L60 H e
  intro m
  induction m with
  | zero =>
    intro n k h1 h2 h
    obtain ⟨n, rfl⟩ : ∃ j, n = j + 1 := ⟨n - 1, by omega⟩
    rw [wY_shared_6]
    exact pk_le 60 k (fun _ => h) (fun g => absurd g (by omega))
  | succ m ih =>
    intro n k h1 h2 h
    obtain ⟨n, rfl⟩ : ∃ j, n = j + 1 := ⟨n - 1, by omega⟩
    rw [wY_shared_6]
    refine pk_le 60 k (fun g => absurd g (by omega)) (fun _ => br_t rfl ⟨pk_in d 5 hd, ?_⟩)
    refine pk_le (L d) (p + k) (fun g => ?_) (fun g => ⟨pk_in e 5 he, pk_le (L e) (q + k) (fun g2 => ?_) (fun g2 => ?_) (fi_Ac (by omega)) (nI_add q k) (by omega) (by omega)⟩) (fi_Ac (by omega)) (nI_add p k) (by omega) (by omega)
    · rw [fi_sp_stop (by omega)] at h
      exact nm_r (nI_1 k) (fy_sh_2 h m n (k + 1) (by omega) (by omega) (by omega))
    · rw [fi_sp_stop (by omega)] at h
      exact nm_r (nI_1 k) (fy_sh_2 h m n (k + 1) (by omega) (by omega) (by omega))
    · have e1 : 60 * nI d + nI p + nI k = nI (60 * d + (p + k)) := by
        rw [fi_m60, nI_add, nI_add]
        exact congrArg nI (by omega)
      have e2 : 60 * nI e + nI q + nI k = nI (60 * e + (q + k)) := by
        rw [fi_m60, nI_add, nI_add]
        exact congrArg nI (by omega)
      have t1 : ty (60 * d + (p + k)) = tx (64 * d + p + k) := by
        rw [fi_tx H (by omega), show 64 * d + (p + k) = 64 * d + p + k by omega]
      have t2 : ty (60 * e + (q + k)) = tx (64 * e + q + k) := by
        rw [fi_tx H (by omega), show 64 * e + (q + k) = 64 * e + q + k by omega]
      rw [e1, e2, nI_clamp (n := 60 * d + (p + k)) (by omega), nI_clamp (n := 60 * e + (q + k)) (by omega), t1, t2]
      refine ⟨pk_in (60 * d + (p + k)) 300 (by omega), pk_in (60 * e + (q + k)) 300 (by omega), ?_⟩
      by_cases c : tx (64 * d + p + k) = tx (64 * e + q + k)
      · rw [fi_sp_go ⟨by omega, by omega, c⟩] at h
        exact br_t c (nm_r (nI_1 k) (nm_r (nI_1 k) (ih n (k + 1) (by omega) (by omega) h)))
      · rw [fi_sp_stop (fun z => c z.2.2)] at h
        exact br_f c (nm_r (nI_1 k) (fy_sh_2 h m n (k + 1) (by omega) (by omega) (by omega)))
theorem fy_sh {post : Int32 → Prop} {d p e q : Nat} (H : fi_inv D T P L tx ty) (hd : d < 5) (he : e < 5) (hp : p ≤ L d) (hq : q ≤ L e) (h : post (nI (fi_sh tx L (64 * d + p) (64 * e + q)))) : wpY_shared post (nI D, nI T, nI P, ty, fi_A L, pt) (nI d) (nI p) (nI e) (nI q) := by
  have hl := fi_L60 H d
  have hl2 := fi_L60 H e
  unfold fi_sh at h
  rw [fi_rl_dp (by omega), fi_rl_dp (by omega)] at h
  exact ⟨61, fy_sh_l H hd he hp hq 60 61 0 rfl (by decide) h⟩
theorem fy_bf {post : Int32 → Prop} {d p e q : Nat} (H : fi_inv D T P L tx ty) (hd : d < 5) (he : e < 5) (hp : p ≤ L d) (hq : q ≤ L e) (h : post (fi_b (fi_bf tx L (64 * d + p) (64 * e + q)))) : wpY_before post (nI D, nI T, nI P, ty, fi_A L, pt) (nI d) (nI p) (nI e) (nI q) := by
  have hl := fi_L60 H d
  have hl2 := fi_L60 H e
  have hs := fi_sh_le tx L (64 * d + p) (64 * e + q)
  unfold fi_bf at h
  rw [fi_rl_dp (by omega), fi_rl_dp (by omega)] at h
  rw [fi_rl_dp (by omega), fi_rl_dp (by omega)] at hs
  unfold wpY_before
  refine fy_sh H hd he hp hq ?_
  generalize fi_sh tx L (64 * d + p) (64 * e + q) = s at h hs
  refine ⟨pk_in d 5 hd, pk_eq (p + s) (L d) (fun a1 => ?_) (fun a1 => ?_) (nI_add p s) (fi_Ac (by omega)) (by omega) (by omega)⟩
  · refine ⟨pk_in e 5 he, pk_eq (q + s) (L e) (fun a2 => ?_) (fun a2 => ?_) (nI_add q s) (fi_Ac (by omega)) (by omega) (by omega)⟩
    · rw [fi_bs_e (by omega) (by omega)] at h
      have hde : d = e → L d = L e := fun z => by rw [z]
      exact br_f fi_10 (br_f fi_10 (pk_le e d (fun g => fi_pf h (decide_eq_false (by omega))) (fun g => fi_pt h (decide_eq_true (by omega)))))
    · rw [fi_bs_n (by omega) (by omega)] at h
      exact br_f fi_10 (br_t rfl (br_f fi_10 ⟨rfl, fi_pt h (decide_eq_true (by omega))⟩))
  · refine ⟨pk_in e 5 he, pk_eq (q + s) (L e) (fun a2 => ?_) (fun a2 => ?_) (nI_add q s) (fi_Ac (by omega)) (by omega) (by omega)⟩
    · rw [fi_bs_n (by omega) (by omega)] at h
      exact br_t rfl (br_t rfl (br_f fi_10 ⟨rfl, fi_pf h (decide_eq_false (by omega))⟩))
    · rw [fi_bs_l (by omega)] at h
      have e1 : 60 * nI d + nI p + nI s = nI (60 * d + (p + s)) := by
        rw [fi_m60, nI_add, nI_add]
        exact congrArg nI (by omega)
      have e2 : 60 * nI e + nI q + nI s = nI (60 * e + (q + s)) := by
        rw [fi_m60, nI_add, nI_add]
        exact congrArg nI (by omega)
      have t1 : ty (60 * d + (p + s)) = tx (64 * d + p + s) := by
        rw [fi_tx H (by omega), show 64 * d + (p + s) = 64 * d + p + s by omega]
      have t2 : ty (60 * e + (q + s)) = tx (64 * e + q + s) := by
        rw [fi_tx H (by omega), show 64 * e + (q + s) = 64 * e + q + s by omega]
      refine br_t rfl (br_t rfl (br_t rfl ?_))
      rw [e1, e2, nI_clamp (n := 60 * d + (p + s)) (by omega), nI_clamp (n := 60 * e + (q + s)) (by omega), t1, t2]
      refine ⟨pk_in (60 * d + (p + s)) 300 (by omega), pk_in (60 * e + (q + s)) 300 (by omega), ?_⟩
      exact br_c (fun c => fi_pf h (decide_eq_false (fun z => z c))) (fun c => fi_pt h (decide_eq_true c))
end
