/-! the component's questions that walk over all numbers below 320 -/
section
variable {D T P : Nat} {L : Nat → Nat} {tx ty pt : Nat → Int32}
theorem fi_okl {q : Nat} (H : fi_inv D T P L tx ty) (e : fi_ok D L q = true) : q / 64 < 5 ∧ q % 64 ≤ L (q / 64) ∧ q % 64 < L (q / 64) := by
  have h := fi_ok_t e
  have hD := H.1.2
  omega
theorem fx_occurrence {post : Int32 → Prop} {i : Int32} (H : fi_inv D T P L tx ty) (h0 : P = 0 → post (-1)) (h1 : ¬ P = 0 → post (fi_oi tx pt D P L i)) : wpX_occurrence post (nI D, nI T, nI P, tx, fi_A L, pt) i := by
  have hP := H.2.2.1
  refine pk_eq P 0 h0 (fun g => ⟨321, ?_⟩)
  refine fi_X (fun n q s => wX_occurrence_13 post i (nI D) (nI T) (nI P) tx (fi_A L) pt n s (nI q)) post 320 (fi_ok D L) (fun q s => match fi_oc tx pt L 0 P q with | true => (if s = i then .inl (nI q) else .inr (s + 1)) | false => .inr s) (fun _ => -2) ?_ ?_ 320 321 0 0 rfl (by decide) (h1 g)
  · intro n s h
    rw [wX_occurrence_13]
    exact pk_le 320 320 (fun _ => h) (fun g => absurd g (by omega))
  · intro n q s hq k0 k1 k2
    rw [wX_occurrence_13]
    refine pk_le 320 q (fun g => absurd g (by omega)) (fun _ => ?_)
    refine fx_isPlace H (by omega) (fun e => br_f fi_10 ?_) (fun e => br_t rfl (nm_r (nI_1 q) (k0 e)))
    have hk := fi_okl H e
    refine fx_poa (a := 0) (b := P) H (by omega) hP hk.1 hk.2.1 (fi_br (fun c => nm_r (nI_1 q) (k2 s e (by rw [c]))) (fun c => br_c (fun z => k1 _ e (by rw [c]; exact if_pos z)) (fun z => nm_e (nm_r (nI_1 q) (k2 _ e (by rw [c]; exact if_neg z))))))
theorem fx_po {post : Int32 → Prop} {a b : Nat} (H : fi_inv D T P L tx ty) (hab : a ≤ b) (hb : b ≤ 8) (h : post (fi_po tx pt D L a b)) : wpX_partOccurs post (nI D, nI T, nI P, tx, fi_A L, pt) (nI a) (nI b) := by
  refine ⟨321, ?_⟩
  refine fi_X (fun n q _ => wX_partOccurs_2 post (nI a) (nI b) (nI D) (nI T) (nI P) tx (fi_A L) pt n (nI q)) post 320 (fi_ok D L) (fun q s => match fi_oc tx pt L a b q with | true => .inl 1 | false => .inr s) (fun _ => 0) ?_ ?_ 320 321 0 0 rfl (by decide) h
  · intro n s h
    rw [wX_partOccurs_2]
    exact pk_le 320 320 (fun _ => h) (fun g => absurd g (by omega))
  · intro n q s hq k0 k1 k2
    rw [wX_partOccurs_2]
    refine pk_le 320 q (fun g => absurd g (by omega)) (fun _ => ?_)
    refine fx_isPlace H (by omega) (fun e => br_f fi_10 ?_) (fun e => br_t rfl (nm_r (nI_1 q) (k0 e)))
    have hk := fi_okl H e
    exact fx_poa H hab hb hk.1 hk.2.1 (fi_br (fun c => nm_r (nI_1 q) (k2 s e (by rw [c]))) (fun c => k1 _ e (by rw [c])))
theorem fx_le_l {post : Int32 → Prop} (H : fi_inv D T P L tx ty) : ∀ k n, k ≤ P → k < n → post (fi_lg (fun j => fi_po tx pt D L (P - j) P) k) → wX_longestEnd_5 post (nI D) (nI T) (nI P) tx (fi_A L) pt n (nI k) := by
  have hP := H.2.2.1
  intro k
  induction k with
  | zero =>
    intro n h1 h2 h
    obtain ⟨n, rfl⟩ : ∃ j, n = j + 1 := ⟨n - 1, by omega⟩
    rw [wX_longestEnd_5]
    exact pk_le 0 0 (fun _ => h) (fun g => absurd g (by omega))
  | succ k ih =>
    intro n h1 h2 h
    obtain ⟨n, rfl⟩ : ∃ j, n = j + 1 := ⟨n - 1, by omega⟩
    rw [wX_longestEnd_5]
    refine pk_le (k + 1) 0 (fun g => absurd g (by omega)) (fun _ => ?_)
    rw [pk_sub h1]
    rw [fi_lg] at h
    refine fx_po H (by omega) hP (br_c (fun c => nm_r (pk_m1 k) (ih n (by omega) (by omega) ?_)) (fun c => ?_))
    · rw [if_pos c] at h; exact h
    · rw [if_neg c] at h; exact h
theorem fx_longestEnd {post : Int32 → Prop} (H : fi_inv D T P L tx ty) (h : post (fi_lg (fun j => fi_po tx pt D L (P - j) P) P)) : wpX_longestEnd post (nI D, nI T, nI P, tx, fi_A L, pt) :=
  ⟨P + 1, fx_le_l H P (P + 1) (by omega) (by omega) h⟩
theorem fx_lb_l {post : Int32 → Prop} (H : fi_inv D T P L tx ty) : ∀ k n, k ≤ P → k < n → post (fi_lg (fun j => fi_po tx pt D L 0 j) k) → wX_longestBegin_5 post (nI D) (nI T) (nI P) tx (fi_A L) pt n (nI k) := by
  have hP := H.2.2.1
  intro k
  induction k with
  | zero =>
    intro n h1 h2 h
    obtain ⟨n, rfl⟩ : ∃ j, n = j + 1 := ⟨n - 1, by omega⟩
    rw [wX_longestBegin_5]
    exact pk_le 0 0 (fun _ => h) (fun g => absurd g (by omega))
  | succ k ih =>
    intro n h1 h2 h
    obtain ⟨n, rfl⟩ : ∃ j, n = j + 1 := ⟨n - 1, by omega⟩
    rw [wX_longestBegin_5]
    refine pk_le (k + 1) 0 (fun g => absurd g (by omega)) (fun _ => ?_)
    rw [fi_lg] at h
    refine fx_po (a := 0) (b := k + 1) H (by omega) (by omega) (br_c (fun c => nm_r (pk_m1 k) (ih n (by omega) (by omega) ?_)) (fun c => ?_))
    · rw [if_pos c] at h; exact h
    · rw [if_neg c] at h; exact h
theorem fx_longestBegin {post : Int32 → Prop} (H : fi_inv D T P L tx ty) (h : post (fi_lg (fun j => fi_po tx pt D L 0 j) P)) : wpX_longestBegin post (nI D, nI T, nI P, tx, fi_A L, pt) :=
  ⟨P + 1, fx_lb_l H P (P + 1) (by omega) (by omega) h⟩
theorem fx_rk {post : Int32 → Prop} {r : Nat} (H : fi_inv D T P L tx ty) (er : fi_ok D L r = true) (h : post (fi_rk tx D L r)) : wpX_restsBefore post (nI D, nI T, nI P, tx, fi_A L, pt) (nI r) := by
  have hr := fi_okl H er
  refine ⟨321, ?_⟩
  refine fi_X (fun n q s => wX_restsBefore_4 post (nI r) (nI D) (nI T) (nI P) tx (fi_A L) pt n s (nI q)) post 320 (fi_ok D L) (fun q s => .inr (match fi_bf tx L q r with | true => s + 1 | false => s)) (fun s => s) ?_ ?_ 320 321 0 0 rfl (by decide) h
  · intro n s h
    rw [wX_restsBefore_4]
    exact pk_le 320 320 (fun _ => h) (fun g => absurd g (by omega))
  · intro n q s hq k0 k1 k2
    rw [wX_restsBefore_4]
    refine pk_le 320 q (fun g => absurd g (by omega)) (fun _ => ?_)
    refine fx_isPlace H (by omega) (fun e => br_f fi_10 ?_) (fun e => br_t rfl (nm_r (nI_1 q) (k0 e)))
    have hk := fi_okl H e
    exact fx_bf H hk.1 hk.2.1 hr.1 hr.2.1 (fi_br (fun c => nm_r (nI_1 q) (k2 s e (by rw [c]))) (fun c => nm_e (nm_r (nI_1 q) (k2 (s + 1) e (by rw [c])))))
theorem fx_ranked {post : Int32 → Prop} {i : Int32} (H : fi_inv D T P L tx ty) (h : post (fi_ra tx D L i)) : wpX_ranked post (nI D, nI T, nI P, tx, fi_A L, pt) i := by
  refine ⟨321, ?_⟩
  refine fi_X (fun n q _ => wX_ranked_2 post i (nI D) (nI T) (nI P) tx (fi_A L) pt n (nI q)) post 320 (fi_ok D L) (fun q s => if fi_rk tx D L q = i then .inl (nI q) else .inr s) (fun _ => -1) ?_ ?_ 320 321 0 0 rfl (by decide) h
  · intro n s h
    rw [wX_ranked_2]
    exact pk_le 320 320 (fun _ => h) (fun g => absurd g (by omega))
  · intro n q s hq k0 k1 k2
    rw [wX_ranked_2]
    refine pk_le 320 q (fun g => absurd g (by omega)) (fun _ => ?_)
    refine fx_isPlace H (by omega) (fun e => br_f fi_10 ?_) (fun e => br_t rfl (nm_r (nI_1 q) (k0 e)))
    exact fx_rk H e (br_c (fun c => k1 _ e (if_pos c)) (fun c => nm_r (nI_1 q) (k2 s e (if_neg c))))
theorem fi_ok_eq {q Q : Nat} (h : q < Q) (hQ : Q / 64 < D) : fi_ok D L q = fi_ok (Q / 64 + 1) L q := by
  have h1 : q / 64 < D := by omega
  have h2 : q / 64 < Q / 64 + 1 := by omega
  unfold fi_ok
  rw [decide_eq_true h1, decide_eq_true h2]
theorem fx_se {post : Int32 → Prop} {Q : Nat} (H : fi_inv D T P L tx ty) (eQ : fi_ok D L Q = true) (h : post (fi_se tx L Q)) : wpX_longestSharedEarlier post (nI D, nI T, nI P, tx, fi_A L, pt) (nI Q) := by
  have hQ := fi_okl H eQ
  have hQ2 := fi_ok_t eQ
  have hl := fi_L60 H (Q / 64)
  unfold fi_se at h
  rw [show (320 : Nat) = Q + (320 - Q) by omega, fi_cut _ _ _ Q (320 - Q) 0 0 (fun j t hj => if_neg (by omega))] at h
  refine ⟨Q + 1, ?_⟩
  refine fi_X (fun n q s => wX_longestSharedEarlier_4 post (nI Q) (nI D) (nI T) (nI P) tx (fi_A L) pt n s (nI q)) post Q (fi_ok (Q / 64 + 1) L) (fun q s => if q < Q then .inr (fi_mx s (nI (fi_sh tx L q Q))) else .inr s) (fun s => s) ?_ ?_ Q (Q + 1) 0 0 (by omega) (by omega) h
  · intro n s h
    rw [wX_longestSharedEarlier_4]
    exact pk_le Q Q (fun _ => h) (fun g => absurd g (by omega))
  · intro n q s hq k0 k1 k2
    rw [wX_longestSharedEarlier_4]
    refine pk_le Q q (fun g => absurd g (by omega)) (fun _ => ?_)
    have hoq := fi_ok_eq (L := L) hq hQ2.1
    refine fx_isPlace H (by omega) (fun e => br_f fi_10 ?_) (fun e => br_t rfl (nm_r (nI_1 q) (k0 (hoq.symm.trans e))))
    have hk := fi_okl H e
    have e' := hoq.symm.trans e
    refine fx_sh H hQ.1 hQ.2.1 hk.1 hk.2.1 ?_
    rw [fi_sh_sym tx L Q q]
    exact br_c (fun c => nm_r (nI_1 q) (k2 s e' (by rw [if_pos hq, fi_mx_l c]))) (fun c => nm_r (nI_1 q) (k2 _ e' (by rw [if_pos hq, fi_mx_g c])))
theorem fx_repeated {post : Int32 → Prop} (H : fi_inv D T P L tx ty) (h : post (fi_re tx D L)) : wpX_repeated post (nI D, nI T, nI P, tx, fi_A L, pt) := by
  refine ⟨321, ?_⟩
  refine fi_X (fun n q s => wX_repeated_4 post (nI D) (nI T) (nI P) tx (fi_A L) pt n s (nI q)) post 320 (fi_ok D L) (fun q s => .inr (fi_mx s (fi_se tx L q))) (fun s => s) ?_ ?_ 320 321 0 0 rfl (by decide) h
  · intro n s h
    rw [wX_repeated_4]
    exact pk_le 320 320 (fun _ => h) (fun g => absurd g (by omega))
  · intro n q s hq k0 k1 k2
    rw [wX_repeated_4]
    refine pk_le 320 q (fun g => absurd g (by omega)) (fun _ => ?_)
    refine fx_isPlace H (by omega) (fun e => br_f fi_10 ?_) (fun e => br_t rfl (nm_r (nI_1 q) (k0 e)))
    exact fx_se H e (br_c (fun c => nm_r (nI_1 q) (k2 s e (by rw [fi_mx_l c]))) (fun c => nm_r (nI_1 q) (k2 _ e (by rw [fi_mx_g c]))))
theorem fx_different {post : Int32 → Prop} (H : fi_inv D T P L tx ty) (h : post (fi_di tx D L)) : wpX_different post (nI D, nI T, nI P, tx, fi_A L, pt) := by
  refine ⟨321, ?_⟩
  refine fi_X (fun n q s => wX_different_4 post (nI D) (nI T) (nI P) tx (fi_A L) pt n s (nI q)) post 320 (fi_ok D L) (fun q s => .inr (s + (nI (fi_rl L q) - fi_se tx L q))) (fun s => s) ?_ ?_ 320 321 0 0 rfl (by decide) h
  · intro n s h
    rw [wX_different_4]
    exact pk_le 320 320 (fun _ => h) (fun g => absurd g (by omega))
  · intro n q s hq k0 k1 k2
    rw [wX_different_4]
    refine pk_le 320 q (fun g => absurd g (by omega)) (fun _ => ?_)
    refine fx_isPlace H (by omega) (fun e => br_f fi_10 ?_) (fun e => br_t rfl (nm_r (nI_1 q) (k0 e)))
    have hk := fi_okl H e
    exact fx_rest hk.1 hk.2.1 (fx_se H e (nm_e (nm_r (nI_1 q) (k2 _ e rfl))))
theorem fx_ld {post : Int32 → Prop} {c : Int32} (H : fi_inv D T P L tx ty) (h : post (fi_ld tx pt D P L c)) : wpX_extensionOccurs post (nI D, nI T, nI P, tx, fi_A L, pt) c := by
  have hP := H.2.2.1
  refine ⟨321, ?_⟩
  refine fi_X (fun n q _ => wX_extensionOccurs_2 post c (nI D) (nI T) (nI P) tx (fi_A L) pt n (nI q)) post 320 (fi_ok D L) (fun q s => if tx q = c then (match fi_oc tx pt L 0 P (q + 1) with | true => .inl 1 | false => .inr s) else .inr s) (fun _ => 0) ?_ ?_ 320 321 0 0 rfl (by decide) h
  · intro n s h
    rw [wX_extensionOccurs_2]
    exact pk_le 320 320 (fun _ => h) (fun g => absurd g (by omega))
  · intro n q s hq k0 k1 k2
    rw [wX_extensionOccurs_2]
    refine pk_le 320 q (fun g => absurd g (by omega)) (fun _ => ?_)
    refine fx_isPlace H (by omega) (fun e => br_f fi_10 ?_) (fun e => br_t rfl (nm_r (nI_1 q) (k0 e)))
    have hk := fi_okl H e
    have hl := fi_L60 H (q / 64)
    have a1 : (q + 1) / 64 = q / 64 := by omega
    have a2 : (q + 1) % 64 = q % 64 + 1 := by omega
    rw [nI_clamp (n := q) (by omega), nI_1 q]
    refine ⟨pk_in q 320 (by omega), br_c (fun z => ?_) (fun z => nm_e (k2 s e (if_neg z)))⟩
    refine fx_poa (a := 0) (b := P) (q := q + 1) H (by omega) hP (by omega) (by rw [a1, a2]; omega) (fi_br (fun b => nm_e (k2 s e (by rw [if_pos z, b]))) (fun b => k1 _ e (by rw [if_pos z, b])))
theorem fx_ext_l {post : Int32 → Prop} (H : fi_inv D T P L tx ty) : ∀ m n c s, c + m = 5 → m < n → post (fi_cz (fun j => fi_ld tx pt D P L (nI j)) m c s) → wX_extensions_4 post (nI D) (nI T) (nI P) tx (fi_A L) pt n s (nI c) := by
  intro m
  induction m with
  | zero =>
    intro n c s h1 h2 h
    obtain ⟨n, rfl⟩ : ∃ j, n = j + 1 := ⟨n - 1, by omega⟩
    rw [wX_extensions_4]
    exact pk_le 5 c (fun _ => h) (fun g => absurd g (by omega))
  | succ m ih =>
    intro n c s h1 h2 h
    obtain ⟨n, rfl⟩ : ∃ j, n = j + 1 := ⟨n - 1, by omega⟩
    rw [wX_extensions_4]
    refine pk_le 5 c (fun g => absurd g (by omega)) (fun _ => ?_)
    rw [fi_cz] at h
    refine fx_ld H (br_c (fun z => nm_r (nI_1 c) (ih n (c + 1) _ (by omega) (by omega) ?_)) (fun z => nm_e (nm_r (nI_1 c) (ih n (c + 1) _ (by omega) (by omega) ?_))))
    · rw [if_pos z] at h; exact h
    · rw [if_neg z] at h; exact h
theorem fx_extensions {post : Int32 → Prop} (H : fi_inv D T P L tx ty) (h : post (fi_cz (fun j => fi_ld tx pt D P L (nI j)) 5 0 0)) : wpX_extensions post (nI D, nI T, nI P, tx, fi_A L, pt) :=
  ⟨6, fx_ext_l H 5 6 0 0 (by omega) (by omega) h⟩
end
