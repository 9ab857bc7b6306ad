/-! the calls that change the state -/
section
variable {D E T P : Nat} {L : Nat → Nat} {tx ty pt : Nat → Int32}
theorem fi_A_0 {k : Nat} (h : L k = 0) : upd (fi_A L) k 0 = fi_A L := by
  funext j
  unfold fi_A upd
  by_cases e : j = k
  · rw [if_pos e, e, h]; rfl
  · rw [if_neg e]
theorem fi_A_up0 {k : Nat} : upd (fi_A L) k 0 = fi_A (fi_up L k 0) := fi_A_up (x := 0)
theorem fx_app {post : SX → Prop} {c : Int32} (H : fi_inv (E + 1) T P L tx ty) (hT : T < 60) (h : post (nI (E + 1), nI (T + 1), nI P, upd tx (64 * E + L E) c, fi_A (fi_up L E (L E + 1)), pt)) : wpX_append post (nI (E + 1), nI T, nI P, tx, fi_A L, pt) c := by
  have hE := H.1.2
  have hl := fi_LT H E
  have e1 : 64 * nI E + fi_A L (nI E).toNatClampNeg = nI (64 * E + L E) := by rw [fi_m64, fi_Ac (by omega), nI_add]
  unfold wpX_append
  refine nm_r (nI_pred E) ?_
  rw [e1, fi_Ac (d := E) (by omega), nI_1 (L E), nI_clamp (n := 64 * E + L E) (by omega), nI_clamp (n := E) (by omega), fi_A_up, nI_1 T]
  exact ⟨pk_in E 5 (by omega), pk_in (64 * E + L E) 320 (by omega), nm_e ⟨pk_in E 5 (by omega), pk_in E 5 (by omega), nm_e (nm_e h)⟩⟩
theorem fy_app {post : SY → Prop} {c : Int32} (H : fi_inv (E + 1) T P L tx ty) (hT : T < 60) (h : post (nI (E + 1), nI (T + 1), nI P, upd ty (60 * E + L E) c, fi_A (fi_up L E (L E + 1)), pt)) : wpY_append post (nI (E + 1), nI T, nI P, ty, fi_A L, pt) c := by
  have hE := H.1.2
  have hl := fi_LT H E
  have e1 : 60 * nI E + fi_A L (nI E).toNatClampNeg = nI (60 * E + L E) := by rw [fi_m60, fi_Ac (by omega), nI_add]
  unfold wpY_append
  refine nm_r (nI_pred E) ?_
  rw [e1, fi_Ac (d := E) (by omega), nI_1 (L E), nI_clamp (n := 60 * E + L E) (by omega), nI_clamp (n := E) (by omega), fi_A_up, nI_1 T]
  exact ⟨pk_in E 5 (by omega), pk_in (60 * E + L E) 300 (by omega), nm_e ⟨pk_in E 5 (by omega), pk_in E 5 (by omega), nm_e (nm_e h)⟩⟩
/-- what a spec asks for stands in document d -/
def fi_sd (L : Nat → Nat) (d w : Nat) : Prop := 1 ≤ w % 64 ∧ w % 64 ≤ 60 ∧ w / 64 + w % 64 ≤ L d
theorem fx_paste {post : Int32 → SX → Prop} {d w : Nat} (H : fi_inv D T P L tx ty) (hd : d < D) (hw : w < 2 ^ 31) (h2 : ¬ fi_sd L d w → post (-2) (nI D, nI T, nI P, tx, fi_A L, pt)) (h3 : fi_sd L d w → ¬ T + w % 64 ≤ 60 → post (-3) (nI D, nI T, nI P, tx, fi_A L, pt)) (h4 : fi_sd L d w → T + w % 64 ≤ 60 → ∃ n, wX_paste_83 post (nI (w % 64)) (nI (64 * d + w / 64)) n 0 (nI D) (nI T) (nI P) tx (fi_A L) pt) : wpX_paste post (nI D, nI T, nI P, tx, fi_A L, pt) (nI d) (nI w) := by
  have hD := H.1.2
  have hT := H.2.1.2
  have hl := fi_L60 H d
  unfold wpX_paste
  refine fx_isDoc H (by omega) (fun _ => br_f fi_10 (br_t (nI_pos' hw) ⟨fi_640, nm_r (fi_d64 hw) ⟨fi_640, nm_r (fi_r64' hw) ?_⟩⟩)) (fun g => absurd hd g)
  refine pk_lt (w % 64) 1 (fun g => h2 (fun z => by have := z.1; omega)) (fun g1 => pk_lt 60 (w % 64) (fun g => h2 (fun z => by have := z.2.1; omega)) (fun g2 => ⟨pk_in d 5 (by omega), ?_⟩))
  refine pk_le (w / 64 + w % 64) (L d) (fun g3 => ?_) (fun g => h2 (fun z => by have := z.2.2; omega)) (nI_add _ _) (fi_Ac (by omega)) (by omega) (by omega)
  refine pk_le (T + w % 64) 60 (fun g4 => ?_) (fun g => h3 ⟨g1, g2, g3⟩ (by omega)) (nI_add _ _) rfl (by omega) (by omega)
  refine nm_r (e' := nI (64 * d + w / 64)) (by rw [fi_m64, nI_add]) (h4 ⟨g1, g2, g3⟩ g4)
theorem fy_paste {post : Int32 → SY → Prop} {d w : Nat} (H : fi_inv D T P L tx ty) (hd : d < D) (hw : w < 2 ^ 31) (h2 : ¬ fi_sd L d w → post (-2) (nI D, nI T, nI P, ty, fi_A L, pt)) (h3 : fi_sd L d w → ¬ T + w % 64 ≤ 60 → post (-3) (nI D, nI T, nI P, ty, fi_A L, pt)) (h4 : fi_sd L d w → T + w % 64 ≤ 60 → ∃ n, wY_paste_81 post (nI d) (nI (w / 64)) (nI (w % 64)) n 0 (nI D) (nI T) (nI P) ty (fi_A L) pt) : wpY_paste post (nI D, nI T, nI P, ty, fi_A L, pt) (nI d) (nI w) := by
  have hD := H.1.2
  have hT := H.2.1.2
  have hl := fi_L60 H d
  unfold wpY_paste
  refine fy_bad H (by omega) (fun _ => br_t rfl (br_t (nI_pos' hw) ⟨fi_640, nm_r (fi_d64 hw) ⟨fi_640, nm_r (fi_r64' hw) ?_⟩⟩)) (fun g => absurd hd g)
  refine pk_lt (w % 64) 1 (fun g => h2 (fun z => by have := z.1; omega)) (fun g1 => pk_lt 60 (w % 64) (fun g => h2 (fun z => by have := z.2.1; omega)) (fun g2 => ?_))
  refine pk_lt 60 (w / 64) (fun g => h2 (fun z => by have := z.2.2; omega)) (fun g5 => ⟨pk_in d 5 (by omega), ?_⟩)
  refine pk_le (w / 64 + w % 64) (L d) (fun g3 => ?_) (fun g => h2 (fun z => by have := z.2.2; omega)) (nI_add _ _) (fi_Ac (by omega)) (by omega) (by omega)
  exact pk_le (T + w % 64) 60 (fun g4 => h4 ⟨g1, g2, g3⟩ g4) (fun g => h3 ⟨g1, g2, g3⟩ (by omega)) (nI_add _ _) rfl (by omega) (by omega)
theorem fi_paste {d f M : Nat} (hd : d < E + 1) : ∀ m k T L tx ty, k + m = M → fi_inv (E + 1) T P L tx ty → T + m ≤ 60 → f + M ≤ L d →
    ∃ T' L' tx' ty', fi_inv (E + 1) T' P L' tx' ty' ∧
      (∀ post : Int32 → SX → Prop, post (nI T') (nI (E + 1), nI T', nI P, tx', fi_A L', pt) → wX_paste_83 post (nI M) (nI (64 * d + f)) (m + 1) (nI k) (nI (E + 1)) (nI T) (nI P) tx (fi_A L) pt) ∧
      (∀ post : Int32 → SY → Prop, post (nI T') (nI (E + 1), nI T', nI P, ty', fi_A L', pt) → wY_paste_81 post (nI d) (nI f) (nI M) (m + 1) (nI k) (nI (E + 1)) (nI T) (nI P) ty (fi_A L) pt) := by
  intro m
  induction m with
  | zero =>
    intro k T L tx ty h1 H hT hf
    have hl := fi_L60 H d
    refine ⟨T, L, tx, ty, H, fun post h => ?_, fun post h => ?_⟩
    · rw [wX_paste_83]
      exact pk_le M k (fun _ => h) (fun g => absurd g (by omega))
    · rw [wY_paste_81]
      exact pk_le M k (fun _ => h) (fun g => absurd g (by omega))
  | succ m ih =>
    intro k T L tx ty h1 H hT hf
    have hl := fi_L60 H d
    have hE := H.1.2
    have ht : ty (60 * d + f + k) = tx (64 * d + f + k) := by
      rw [show 60 * d + f + k = 60 * d + (f + k) by omega, fi_tx H (by omega), show 64 * d + (f + k) = 64 * d + f + k by omega]
    have hL' : f + M ≤ fi_up L E (L E + 1) d := by
      by_cases e : d = E
      · subst e; rw [fi_up_s]; omega
      · rw [fi_up_n e]; exact hf
    obtain ⟨T', L', tx', ty', H', hX, hY⟩ := ih (k + 1) (T + 1) _ _ _ (by omega) (fi_app H (by omega) (tx (64 * d + f + k))) (by omega) hL'
    refine ⟨T', L', tx', ty', H', fun post h => ?_, fun post h => ?_⟩
    · rw [wX_paste_83]
      refine pk_le M k (fun g => absurd g (by omega)) (fun _ => ?_)
      rw [nI_add (64 * d + f) k, nI_clamp (n := 64 * d + f + k) (by omega)]
      exact ⟨pk_in (64 * d + f + k) 320 (by omega), fx_app H (by omega) (nm_r (nI_1 k) (hX post h))⟩
    · rw [wY_paste_81]
      refine pk_le M k (fun g => absurd g (by omega)) (fun _ => ?_)
      rw [fi_m60, nI_add (60 * d) f, nI_add (60 * d + f) k, nI_clamp (n := 60 * d + f + k) (by omega), ht]
      exact ⟨pk_in (60 * d + f + k) 300 (by omega), fy_app H (by omega) (nm_r (nI_1 k) (hY post h))⟩
theorem fi_open (H : fi_inv D T P L tx ty) (h : D < 5) : fi_inv (D + 1) T P L tx ty := by
  obtain ⟨⟨h1, h2⟩, h3, h5, h6, h7⟩ := H
  exact ⟨⟨by omega, by omega⟩, h3, h5, fun d hd => h6 d (by omega), h7⟩
theorem fx_open {post : Int32 → SX → Prop} (H : fi_inv D T P L tx ty) (h0 : ¬ D < 5 → post (-1) (nI D, nI T, nI P, tx, fi_A L, pt)) (h1 : D < 5 → post (nI (D + 1)) (nI (D + 1), nI T, nI P, tx, fi_A L, pt)) : wpX_open post (nI D, nI T, nI P, tx, fi_A L, pt) := by
  have hD := H.1.2
  have h6 := H.2.2.2.1
  unfold wpX_open
  refine pk_lt D 5 (fun g => ⟨pk_in D 5 g, ?_⟩) (fun g => h0 (by omega))
  rw [nI_clamp (n := D) (by omega), fi_A_0 (h6 D (Nat.le_refl D)), nI_1 D]
  exact nm_e (nm_e (h1 g))
theorem fy_open {post : Int32 → SY → Prop} (H : fi_inv D T P L tx ty) (h0 : ¬ D < 5 → post (-1) (nI D, nI T, nI P, ty, fi_A L, pt)) (h1 : D < 5 → post (nI (D + 1)) (nI (D + 1), nI T, nI P, ty, fi_A L, pt)) : wpY_open post (nI D, nI T, nI P, ty, fi_A L, pt) := by
  have hD := H.1.2
  have h6 := H.2.2.2.1
  unfold wpY_open
  refine pk_lt D 5 (fun g => nm_r (nI_1 D) ?_) (fun g => h0 (by omega))
  rw [nI_pred D, nI_clamp (n := D) (by omega), fi_A_0 (h6 D (Nat.le_refl D))]
  exact ⟨pk_in D 5 g, nm_e (h1 g)⟩
theorem fx_pop {post : Int32 → SX → Prop} (H : fi_inv (E + 1) T P L tx ty) (h0 : L E = 0 → post (-1) (nI (E + 1), nI T, nI P, tx, fi_A L, pt)) (h1 : ∀ l t, L E = l + 1 → T = t + 1 → post (tx (64 * E + l)) (nI (E + 1), nI t, nI P, tx, fi_A (fi_up L E l), pt)) : wpX_pop post (nI (E + 1), nI T, nI P, tx, fi_A L, pt) := by
  have hE := H.1.2
  have hl := fi_L60 H E
  have ht := fi_LT H E
  unfold wpX_pop
  refine nm_r (nI_pred E) ⟨pk_in E 5 (by omega), pk_eq (L E) 0 h0 (fun g => ?_) (fi_Ac (by omega)) rfl (by omega) (by omega)⟩
  obtain ⟨l, el⟩ : ∃ l, L E = l + 1 := ⟨L E - 1, by omega⟩
  obtain ⟨t, rfl⟩ : ∃ t, T = t + 1 := ⟨T - 1, by omega⟩
  rw [fi_Ac (d := E) (by omega), el, nI_pred l, nI_pred t, nI_clamp (n := E) (by omega), fi_A_up]
  refine ⟨pk_in E 5 (by omega), pk_in E 5 (by omega), nm_e (nm_e ⟨pk_in E 5 (by omega), ?_⟩)⟩
  have e1 : 64 * nI E + fi_A (fi_up L E l) E = nI (64 * E + l) := by
    rw [fi_m64, ← nI_add]
    unfold fi_A
    rw [fi_up_s]
  rw [e1, nI_clamp (n := 64 * E + l) (by omega)]
  exact ⟨pk_in (64 * E + l) 320 (by omega), h1 l t el rfl⟩
theorem fy_pop {post : Int32 → SY → Prop} (H : fi_inv (E + 1) T P L tx ty) (h0 : L E = 0 → post (-1) (nI (E + 1), nI T, nI P, ty, fi_A L, pt)) (h1 : ∀ l t, L E = l + 1 → T = t + 1 → post (ty (60 * E + l)) (nI (E + 1), nI t, nI P, ty, fi_A (fi_up L E l), pt)) : wpY_pop post (nI (E + 1), nI T, nI P, ty, fi_A L, pt) := by
  have hE := H.1.2
  have hl := fi_L60 H E
  have ht := fi_LT H E
  unfold wpY_pop
  refine nm_r (nI_pred E) ⟨pk_in E 5 (by omega), pk_eq (L E) 0 h0 (fun g => ?_) (fi_Ac (by omega)) rfl (by omega) (by omega)⟩
  obtain ⟨l, el⟩ : ∃ l, L E = l + 1 := ⟨L E - 1, by omega⟩
  obtain ⟨t, rfl⟩ : ∃ t, T = t + 1 := ⟨T - 1, by omega⟩
  rw [fi_Ac (d := E) (by omega), el, nI_pred l, nI_pred t, nI_clamp (n := E) (by omega), fi_A_up]
  refine ⟨pk_in E 5 (by omega), pk_in E 5 (by omega), nm_e (nm_e ⟨pk_in E 5 (by omega), ?_⟩)⟩
  have e1 : 60 * nI E + fi_A (fi_up L E l) E = nI (60 * E + l) := by
    rw [fi_m60, ← nI_add]
    unfold fi_A
    rw [fi_up_s]
  rw [e1, nI_clamp (n := 60 * E + l) (by omega)]
  exact ⟨pk_in (60 * E + l) 300 (by omega), h1 l t el rfl⟩
theorem fx_close {post : Int32 → SX → Prop} (H : fi_inv (E + 1) T P L tx ty) (h0 : E = 0 → post (nI (L E)) (nI (E + 1), nI (T - L E), nI P, tx, fi_A (fi_up L E 0), pt)) (h1 : ¬ E = 0 → post (nI (L E)) (nI E, nI (T - L E), nI P, tx, fi_A (fi_up L E 0), pt)) : wpX_close post (nI (E + 1), nI T, nI P, tx, fi_A L, pt) := by
  have hE := H.1.2
  have ht := fi_LT H E
  unfold wpX_close
  refine nm_r (nI_pred E) ⟨pk_in E 5 (by omega), nm_r (fi_Ac (by omega)) ⟨pk_in E 5 (by omega), ?_⟩⟩
  rw [nI_clamp (n := E) (by omega), fi_A_up0, pk_sub ht]
  exact nm_e (nm_e (pk_le (E + 1) 1 (fun g => h0 (by omega)) (fun g => nm_r (nI_pred E) (h1 (by omega)))))
theorem fy_close {post : Int32 → SY → Prop} (H : fi_inv (E + 1) T P L tx ty) (h0 : E = 0 → post (nI (L E)) (nI (E + 1), nI (T - L E), nI P, ty, fi_A (fi_up L E 0), pt)) (h1 : ¬ E = 0 → post (nI (L E)) (nI E, nI (T - L E), nI P, ty, fi_A (fi_up L E 0), pt)) : wpY_close post (nI (E + 1), nI T, nI P, ty, fi_A L, pt) := by
  have hE := H.1.2
  have ht := fi_LT H E
  unfold wpY_close
  refine nm_r (nI_pred E) ⟨pk_in E 5 (by omega), nm_r (fi_Ac (by omega)) ⟨pk_in E 5 (by omega), ?_⟩⟩
  rw [nI_clamp (n := E) (by omega), fi_A_up0, pk_sub ht]
  exact nm_e (nm_e (pk_le (E + 1) 1 (fun g => h0 (by omega)) (fun g => nm_r (nI_pred E) (h1 (by omega)))))
theorem fi_close (H : fi_inv (E + 1) T P L tx ty) (h : ¬ E = 0) : fi_inv E (T - L E) P (fi_up L E 0) tx ty := by
  have hh := fi_cutL (x := 0) H (Nat.zero_le _)
  obtain ⟨⟨h1, h2⟩, h3, h5, h6, h7⟩ := hh
  refine ⟨⟨by omega, by omega⟩, h3, h5, fun d hd => ?_, h7⟩
  by_cases e : d = E
  · rw [e, fi_up_s]
  · exact h6 d (by omega)
theorem fi_pat {Q : Nat} (H : fi_inv D T P L tx ty) (h : Q ≤ 8) : fi_inv D T Q L tx ty := ⟨H.1, H.2.1, h, H.2.2.2⟩
end
