/-! the component's questions: each answers the pure value -/
section
variable {D T P : Nat} {L : Nat → Nat} {tx ty pt : Nat → Int32}
theorem fx_isSym_n {post : Int32 → Prop} {x : Int32} (hx : x < 0) (h : post 0) : wpX_isSymbol post (nI D, nI T, nI P, tx, fi_A L, pt) x := br_t hx h
theorem fx_isSym {post : Int32 → Prop} {j : Nat} (hj : j < 2 ^ 31) (h1 : j < 5 → post 1) (h0 : ¬ j < 5 → post 0) : wpX_isSymbol post (nI D, nI T, nI P, tx, fi_A L, pt) (nI j) :=
  br_f (nI_pos hj) (pk_le 5 j (fun g => h0 (by omega)) (fun g => h1 g))
theorem fx_isDoc_n {post : Int32 → Prop} {x : Int32} (hx : x < 0) (h : post 0) : wpX_isDocument post (nI D, nI T, nI P, tx, fi_A L, pt) x := br_t hx h
theorem fx_isDoc {post : Int32 → Prop} {d : Nat} (H : fi_inv D T P L tx ty) (hd : d < 2 ^ 31) (h1 : d < D → post 1) (h0 : ¬ d < D → post 0) : wpX_isDocument post (nI D, nI T, nI P, tx, fi_A L, pt) (nI d) :=
  have hD := H.1.2
  br_f (nI_pos hd) (pk_le D d (fun g => h0 (by omega)) (fun g => h1 g))
theorem fx_isPlace_n {post : Int32 → Prop} {x : Int32} (hx : x < 0) (h : post 0) : wpX_isPlace post (nI D, nI T, nI P, tx, fi_A L, pt) x := br_t hx h
theorem fx_isPlace {post : Int32 → Prop} {q : Nat} (H : fi_inv D T P L tx ty) (hq : q < 2 ^ 31) (h1 : fi_ok D L q = true → post 1) (h0 : fi_ok D L q = false → post 0) : wpX_isPlace post (nI D, nI T, nI P, tx, fi_A L, pt) (nI q) := by
  have hD := H.1.2
  have hl := fi_L60 H (q / 64)
  unfold wpX_isPlace
  refine br_f (nI_pos hq) ⟨fi_640, ?_⟩
  rw [fi_r64' hq, fi_d64 hq]
  refine fx_isDoc H (by omega) (fun hd => ?_) (fun hd => ?_)
  · refine br_f fi_10 ⟨fi_640, fi_640, pk_in (q / 64) 5 (by omega), ?_⟩
    exact pk_le (L (q / 64)) (q % 64) (fun g => h0 (fi_ok_f (by omega))) (fun g => h1 (fi_ok_i hd g)) (fi_Ac (by omega)) rfl (by omega) (by omega)
  · exact br_t rfl (h0 (fi_ok_f (by omega)))
theorem fx_rest {post : Int32 → Prop} {q : Nat} (hq : q / 64 < 5) (hm : q % 64 ≤ L (q / 64)) (h : post (nI (fi_rl L q))) : wpX_restLength post (nI D, nI T, nI P, tx, fi_A L, pt) (nI q) := by
  have hq2 : q < 2 ^ 31 := by omega
  have e : nI (L (q / 64)) - nI (q % 64) = nI (fi_rl L q) := pk_sub hm
  unfold wpX_restLength
  dsimp only
  rw [fi_r64' hq2, fi_d64 hq2, fi_Ac (by omega), e]
  exact ⟨fi_640, pk_in (q / 64) 5 hq, fi_640, h⟩
theorem fx_poa_l {post : Int32 → Prop} {a b q : Nat} (hb : b ≤ 8) (hq : q + b ≤ 320 + a) : ∀ m n k, k + m = b → a ≤ k → m < n → post (fi_b (fi_oa tx pt m (q + k - a) k)) → wX_partOccursAt_16 post (nI a) (nI b) (nI q) (nI D) (nI T) (nI P) tx (fi_A L) pt n (nI k) := by
  intro m
  induction m with
  | zero =>
    intro n k h1 h2 h3 h
    obtain ⟨n, rfl⟩ : ∃ j, n = j + 1 := ⟨n - 1, by omega⟩
    rw [wX_partOccursAt_16]
    exact pk_le b k (fun _ => h) (fun g => absurd g (by omega))
  | succ m ih =>
    intro n k h1 h2 h3 h
    obtain ⟨n, rfl⟩ : ∃ j, n = j + 1 := ⟨n - 1, by omega⟩
    have e : nI q + nI k - nI a = nI (q + k - a) := by rw [nI_add, pk_sub (by omega)]
    rw [wX_partOccursAt_16]
    refine pk_le b k (fun g => absurd g (by omega)) (fun _ => ?_)
    rw [e, nI_clamp (n := q + k - a) (by omega), nI_clamp (n := k) (by omega)]
    refine ⟨pk_in (q + k - a) 320 (by omega), pk_in k 8 (by omega), ?_⟩
    by_cases c : tx (q + k - a) = pt k
    · rw [fi_oa_t c] at h
      refine br_t c (nm_r (nI_1 k) (ih n (k + 1) (by omega) (by omega) (by omega) ?_))
      rw [show q + (k + 1) - a = q + k - a + 1 by omega]
      exact h
    · exact br_f c (fi_pf h (fi_oa_f c))
theorem fx_poa {post : Int32 → Prop} {a b q : Nat} (H : fi_inv D T P L tx ty) (hab : a ≤ b) (hb : b ≤ 8) (hq : q / 64 < 5) (hm : q % 64 ≤ L (q / 64)) (h : post (fi_b (fi_oc tx pt L a b q))) : wpX_partOccursAt post (nI D, nI T, nI P, tx, fi_A L, pt) (nI a) (nI b) (nI q) := by
  have hl := fi_L60 H (q / 64)
  have hr : fi_rl L q = L (q / 64) - q % 64 := rfl
  unfold wpX_partOccursAt
  refine fx_rest hq hm ?_
  refine pk_le (b - a) (fi_rl L q) (fun g => ⟨b - a + 1, ?_⟩) (fun g => fi_pf h (fi_oc_f (by omega))) (pk_sub hab) rfl (by omega) (by omega)
  rw [fi_oc_t g] at h
  refine fx_poa_l hb (by omega) (b - a) (b - a + 1) a (by omega) (by omega) (by omega) ?_
  rw [show q + a - a = q by omega]
  exact h
theorem fx_occ_l {post : Int32 → Prop} {d : Nat} (H : fi_inv D T P L tx ty) (hd : d < 5) : ∀ m n p s, p + m = L d → m < n → post (fi_ci tx pt P L d m p s) → wX_occurrencesIn_4 post (nI d) (nI D) (nI T) (nI P) tx (fi_A L) pt n s (nI p) := by
  have hl := fi_L60 H d
  have hP := H.2.2.1
  intro m
  induction m with
  | zero =>
    intro n p s h1 h2 h
    obtain ⟨n, rfl⟩ : ∃ j, n = j + 1 := ⟨n - 1, by omega⟩
    rw [wX_occurrencesIn_4]
    exact ⟨pk_in d 5 hd, pk_le (L d) p (fun _ => h) (fun g => absurd g (by omega)) (fi_Ac (by omega)) rfl (by omega) (by omega)⟩
  | succ m ih =>
    intro n p s h1 h2 h
    obtain ⟨n, rfl⟩ : ∃ j, n = j + 1 := ⟨n - 1, by omega⟩
    rw [wX_occurrencesIn_4]
    refine ⟨pk_in d 5 hd, pk_le (L d) p (fun g => absurd g (by omega)) (fun _ => ?_) (fi_Ac (by omega)) rfl (by omega) (by omega)⟩
    rw [fi_m64, nI_add]
    refine fx_poa (a := 0) (b := P) (q := 64 * d + p) H (by omega) hP (by omega) (by rw [fi_dv (by omega), fi_md (by omega)]; omega) ?_
    refine fi_br (fun e => nm_r (nI_1 p) (ih n (p + 1) s (by omega) (by omega) ?_)) (fun e => nm_e (nm_r (nI_1 p) (ih n (p + 1) (s + 1) (by omega) (by omega) ?_)))
    · rw [fi_ci_f e] at h; exact h
    · rw [fi_ci_t e] at h; exact h
theorem fx_occ {post : Int32 → Prop} {d : Nat} (H : fi_inv D T P L tx ty) (hd : d < 5) (h : post (fi_cd tx pt P L d)) : wpX_occurrencesIn post (nI D, nI T, nI P, tx, fi_A L, pt) (nI d) :=
  ⟨L d + 1, fx_occ_l H hd (L d) (L d + 1) 0 0 (by omega) (by omega) h⟩
theorem fx_cnt_l {post : Int32 → Prop} (H : fi_inv D T P L tx ty) : ∀ m n d s, d + m = D → m < n → post (fi_cs (fi_cd tx pt P L) m d s) → wX_count_13 post (nI D) (nI T) (nI P) tx (fi_A L) pt n s (nI d) := by
  have hD := H.1.2
  intro m
  induction m with
  | zero =>
    intro n d s h1 h2 h
    obtain ⟨n, rfl⟩ : ∃ j, n = j + 1 := ⟨n - 1, by omega⟩
    rw [wX_count_13]
    exact pk_le D d (fun _ => h) (fun g => absurd g (by omega))
  | succ m ih =>
    intro n d s h1 h2 h
    obtain ⟨n, rfl⟩ : ∃ j, n = j + 1 := ⟨n - 1, by omega⟩
    rw [wX_count_13]
    refine pk_le D d (fun g => absurd g (by omega)) (fun _ => ?_)
    exact fx_occ H (by omega) (nm_e (nm_r (nI_1 d) (ih n (d + 1) _ (by omega) (by omega) h)))
theorem fx_count {post : Int32 → Prop} (H : fi_inv D T P L tx ty) (h0 : P = 0 → post (-1)) (h1 : ¬ P = 0 → post (fi_cs (fi_cd tx pt P L) D 0 0)) : wpX_count post (nI D, nI T, nI P, tx, fi_A L, pt) :=
  have hP := H.2.2.1
  pk_eq P 0 h0 (fun g => ⟨D + 1, fx_cnt_l H D (D + 1) 0 0 (by omega) (by omega) (h1 g)⟩)
theorem fx_spr_l {post : Int32 → Prop} (H : fi_inv D T P L tx ty) : ∀ m n d s, d + m = D → m < n → post (fi_cp (fi_cd tx pt P L) m d s) → wX_spread_13 post (nI D) (nI T) (nI P) tx (fi_A L) pt n s (nI d) := by
  have hD := H.1.2
  intro m
  induction m with
  | zero =>
    intro n d s h1 h2 h
    obtain ⟨n, rfl⟩ : ∃ j, n = j + 1 := ⟨n - 1, by omega⟩
    rw [wX_spread_13]
    exact pk_le D d (fun _ => h) (fun g => absurd g (by omega))
  | succ m ih =>
    intro n d s h1 h2 h
    obtain ⟨n, rfl⟩ : ∃ j, n = j + 1 := ⟨n - 1, by omega⟩
    rw [wX_spread_13]
    refine pk_le D d (fun g => absurd g (by omega)) (fun _ => ?_)
    rw [fi_cp] at h
    refine fx_occ H (by omega) (br_c (fun c => nm_r (nI_1 d) (ih n (d + 1) _ (by omega) (by omega) ?_)) (fun c => nm_e (nm_r (nI_1 d) (ih n (d + 1) _ (by omega) (by omega) ?_))))
    · rw [if_pos c] at h; exact h
    · rw [if_neg c] at h; exact h
theorem fx_spread {post : Int32 → Prop} (H : fi_inv D T P L tx ty) (h0 : P = 0 → post (-1)) (h1 : ¬ P = 0 → post (fi_cp (fi_cd tx pt P L) D 0 0)) : wpX_spread post (nI D, nI T, nI P, tx, fi_A L, pt) :=
  have hP := H.2.2.1
  pk_eq P 0 h0 (fun g => ⟨D + 1, fx_spr_l H D (D + 1) 0 0 (by omega) (by omega) (h1 g)⟩)
theorem fx_sh_l {post : Int32 → Prop} {a b q r M : Nat} (hM : M ≤ 60) (ha : M ≤ a) (hb : M ≤ b) (hab : M = a ∨ M = b) (hq : q + M ≤ 320) (hr : r + M ≤ 320) : ∀ m n k, k + m = M → m < n → post (nI (fi_sp tx a b q r (60 - k) k)) → wX_sharedLength_30 post (nI q) (nI r) (nI M) (nI D) (nI T) (nI P) tx (fi_A L) pt n (nI k) := by
  intro m
  induction m with
  | zero =>
    intro n k h1 h2 h
    obtain ⟨n, rfl⟩ : ∃ j, n = j + 1 := ⟨n - 1, by omega⟩
    rw [fi_sp_stop (by omega)] at h
    rw [wX_sharedLength_30]
    have e : k = M := by omega
    subst e
    exact pk_le k k (fun _ => h) (fun g => absurd g (by omega))
  | succ m ih =>
    intro n k h1 h2 h
    obtain ⟨n, rfl⟩ : ∃ j, n = j + 1 := ⟨n - 1, by omega⟩
    rw [wX_sharedLength_30]
    refine pk_le M k (fun g => absurd g (by omega)) (fun _ => ?_)
    rw [nI_add, nI_add, nI_clamp (n := q + k) (by omega), nI_clamp (n := r + k) (by omega)]
    refine ⟨pk_in (q + k) 320 (by omega), pk_in (r + k) 320 (by omega), ?_⟩
    by_cases c : tx (q + k) = tx (r + k)
    · rw [show 60 - k = 60 - (k + 1) + 1 by omega, fi_sp_go ⟨by omega, by omega, c⟩] at h
      exact br_t c (nm_r (nI_1 k) (ih n (k + 1) (by omega) (by omega) h))
    · rw [fi_sp_stop (fun z => c z.2.2)] at h
      exact br_f c h
theorem fx_sh {post : Int32 → Prop} {q r : Nat} (H : fi_inv D T P L tx ty) (hq : q / 64 < 5) (hm : q % 64 ≤ L (q / 64)) (hr : r / 64 < 5) (hn : r % 64 ≤ L (r / 64)) (h : post (nI (fi_sh tx L q r))) : wpX_sharedLength post (nI D, nI T, nI P, tx, fi_A L, pt) (nI q) (nI r) := by
  have hl := fi_L60 H (q / 64)
  have hl2 := fi_L60 H (r / 64)
  have e1 : fi_rl L q = L (q / 64) - q % 64 := rfl
  have e2 : fi_rl L r = L (r / 64) - r % 64 := rfl
  unfold wpX_sharedLength
  refine fx_rest hq hm ?_
  refine fx_rest hr hn ?_
  refine pk_le (fi_rl L r) (fi_rl L q) (fun g => ⟨fi_rl L r + 1, ?_⟩) (fun g => ⟨fi_rl L q + 1, ?_⟩)
  · exact fx_sh_l (a := fi_rl L q) (b := fi_rl L r) (by omega) (by omega) (by omega) (by omega) (by omega) (by omega) (fi_rl L r) (fi_rl L r + 1) 0 (by omega) (by omega) h
  · exact fx_sh_l (a := fi_rl L q) (b := fi_rl L r) (by omega) (by omega) (by omega) (by omega) (by omega) (by omega) (fi_rl L q) (fi_rl L q + 1) 0 (by omega) (by omega) h
theorem fx_58 {post : Int32 → Prop} {a b q r : Nat} (ha : a < 2 ^ 31) (hb : b < 2 ^ 31) (hq : q < 2 ^ 31) (hr : r < 2 ^ 31) (he : a = b → post (fi_b (decide (q < r)))) (hn : ¬ a = b → post (fi_b (decide (a < b)))) : wX_comesBefore_58 post (nI q) (nI r) (nI a) (nI b) (nI D) (nI T) (nI P) tx (fi_A L) pt :=
  pk_eq a b
    (fun e => pk_le r q (fun g => fi_pf (he e) (decide_eq_false (by omega))) (fun g => fi_pt (he e) (decide_eq_true g)))
    (fun e => pk_le b a (fun g => fi_pf (hn e) (decide_eq_false (by omega))) (fun g => fi_pt (hn e) (decide_eq_true g)))
theorem fx_bf {post : Int32 → Prop} {q r : Nat} (H : fi_inv D T P L tx ty) (hq : q / 64 < 5) (hm : q % 64 ≤ L (q / 64)) (hr : r / 64 < 5) (hn : r % 64 ≤ L (r / 64)) (h : post (fi_b (fi_bf tx L q r))) : wpX_comesBefore post (nI D, nI T, nI P, tx, fi_A L, pt) (nI q) (nI r) := by
  have hl := fi_L60 H (q / 64)
  have hl2 := fi_L60 H (r / 64)
  have e1 : fi_rl L q = L (q / 64) - q % 64 := rfl
  have e2 : fi_rl L r = L (r / 64) - r % 64 := rfl
  have hs := fi_sh_le tx L q r
  unfold fi_bf at h
  unfold wpX_comesBefore
  refine fx_sh H hq hm hr hn ?_
  refine fx_rest hq hm ?_
  refine fx_rest hr hn ?_
  refine pk_le (fi_rl L q) (fi_sh tx L q r) (fun g => ?_) (fun g => pk_le (fi_rl L r) (fi_sh tx L q r) (fun g2 => ?_) (fun g2 => ?_))
  · refine fx_58 (by omega) (by omega) (by omega) (by omega) (fun e => ?_) (fun e => ?_)
    · rw [fi_bs_e (by omega) e] at h; exact h
    · rw [fi_bs_n (by omega) e] at h; exact h
  · refine fx_58 (by omega) (by omega) (by omega) (by omega) (fun e => ?_) (fun e => ?_)
    · rw [fi_bs_e (by omega) e] at h; exact h
    · rw [fi_bs_n (by omega) e] at h; exact h
  · rw [fi_bs_l ⟨g, g2⟩] at h
    rw [nI_add, nI_add, nI_clamp (n := q + fi_sh tx L q r) (by omega), nI_clamp (n := r + fi_sh tx L q r) (by omega)]
    refine ⟨pk_in (q + fi_sh tx L q r) 320 (by omega), pk_in (r + fi_sh tx L q r) 320 (by omega), ?_⟩
    exact br_c (fun c => fi_pf h (decide_eq_false (fun z => z c))) (fun c => fi_pt h (decide_eq_true c))
end
