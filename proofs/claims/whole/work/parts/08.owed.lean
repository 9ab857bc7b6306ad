/-- both sides hold the same documents (the component's place is 64 d + p, the reference's 60 d + p), lengths, pattern and counts -/
def i_Rel (_ : Nat) (u : SX) (v : SY) : Prop := ∃ (D T P : Nat) (L : Nat → Nat) (tx ty pt : Nat → Int32), u = (nI D, nI T, nI P, tx, fi_A L, pt) ∧ v = (nI D, nI T, nI P, ty, fi_A L, pt) ∧ fi_inv D T P L tx ty
theorem fi_rel {k D T P : Nat} {L : Nat → Nat} {tx ty pt : Nat → Int32} (H : fi_inv D T P L tx ty) : i_Rel k (nI D, nI T, nI P, tx, fi_A L, pt) (nI D, nI T, nI P, ty, fi_A L, pt) := ⟨D, T, P, L, tx, ty, pt, rfl, rfl, H⟩
theorem i_up {k : Nat} {u : SX} {v : SY} (h : i_Rel k u v) : i_Rel (k + 3) u v := h
theorem i_vc0 : wpX_init (fun u => wpY_init (fun v => i_Rel 0 u v)) := ⟨1, 0, 0, fun _ => 0, fun _ => 0, fun _ => 0, fun _ => 0, rfl, rfl, ⟨by omega, by omega⟩, ⟨rfl, by omega⟩, by omega, fun _ _ => rfl, fun _ _ _ h => absurd h (Nat.not_lt_zero _)⟩
theorem i_vc_push {k : Nat} {u : SX} {v : SY} (I : i_Rel k u v) (hk : k + 3 ≤ 1536) (v1 : Int32) : wpX_push (fun r u' => wpY_push (fun r' v' => r' = r ∧ i_Rel (k + 3) u' v') v v1) u v1 := by
  obtain ⟨D, T, P, L, tx, ty, pt, rfl, rfl, H⟩ := I
  have hT := H.2.1.2
  obtain ⟨E, rfl⟩ : ∃ E, D = E + 1 := ⟨D - 1, by have := H.1.1; omega⟩
  unfold wpX_push wpY_push
  by_cases hx : v1 < 0
  · exact fx_isSym_n hx (br_t rfl (fy_badSym_n hx (br_f fi_10 ⟨rfl, fi_rel H⟩)))
  · obtain ⟨j, hj, rfl⟩ := nI_of hx
    refine fx_isSym hj (fun h5 => br_f fi_10 (pk_lt T 60 (fun g => fx_app H g ?_) (fun g => ?_))) (fun h5 => br_t rfl ?_)
    · exact fy_badSym hj (fun _ => br_t rfl (pk_lt T 60 (fun _ => fy_app H g ⟨rfl, fi_rel (fi_app H g _)⟩) (fun z => absurd z (by omega)))) (fun z => absurd h5 z)
    · exact fy_badSym hj (fun _ => br_t rfl (pk_lt T 60 (fun z => absurd z (by omega)) (fun _ => ⟨rfl, fi_rel H⟩))) (fun z => absurd h5 z)
    · exact fy_badSym hj (fun z => absurd z h5) (fun _ => br_f fi_10 ⟨rfl, fi_rel H⟩)
theorem i_vc_paste {k : Nat} {u : SX} {v : SY} (I : i_Rel k u v) (hk : k + 3 ≤ 1536) (v1 : Int32) (v2 : Int32) : wpX_paste (fun r u' => wpY_paste (fun r' v' => r' = r ∧ i_Rel (k + 3) u' v') v v1 v2) u v1 v2 := by
  obtain ⟨D, T, P, L, tx, ty, pt, rfl, rfl, H⟩ := I
  have hT := H.2.1.2
  by_cases hx : v1 < 0
  · unfold wpX_paste wpY_paste
    exact fx_isDoc_n hx (br_t rfl (fy_bad_n hx (br_f fi_10 ⟨rfl, fi_rel H⟩)))
  · obtain ⟨d, hd, rfl⟩ := nI_of hx
    by_cases hD : d < D
    · by_cases hw : 0 ≤ v2
      · obtain ⟨w, hw2, rfl⟩ := nI_of (x := v2) (Int32.not_lt.mpr hw)
        refine fx_paste H hD hw2 (fun z => ?_) (fun z z2 => ?_) (fun z z2 => ?_)
        · exact fy_paste H hD hw2 (fun _ => ⟨rfl, fi_rel H⟩) (fun y _ => absurd y z) (fun y _ => absurd y z)
        · exact fy_paste H hD hw2 (fun y => absurd z y) (fun _ _ => ⟨rfl, fi_rel H⟩) (fun _ y => absurd y z2)
        · obtain ⟨E, rfl⟩ : ∃ E, D = E + 1 := ⟨D - 1, by omega⟩
          obtain ⟨T', L', tx', ty', H', hX, hY⟩ := fi_paste (E := E) (P := P) (pt := pt) (d := d) (f := w / 64) (M := w % 64) hD (w % 64) 0 T L tx ty (by omega) H z2 z.2.2
          refine ⟨w % 64 + 1, hX _ ?_⟩
          exact fy_paste H hD hw2 (fun y => absurd z y) (fun _ y => absurd z2 y) (fun _ _ => ⟨w % 64 + 1, hY _ ⟨rfl, fi_rel H'⟩⟩)
      · unfold wpX_paste wpY_paste
        exact fx_isDoc H hd (fun _ => br_f fi_10 (br_f hw (fy_bad H hd (fun _ => br_t rfl (br_f hw ⟨rfl, fi_rel H⟩)) (fun z => absurd hD z)))) (fun z => absurd hD z)
    · unfold wpX_paste wpY_paste
      exact fx_isDoc H hd (fun z => absurd z hD) (fun _ => br_t rfl (fy_bad H hd (fun z => absurd z hD) (fun _ => br_f fi_10 ⟨rfl, fi_rel H⟩)))
theorem i_vc_open {k : Nat} {u : SX} {v : SY} (I : i_Rel k u v) (hk : k + 3 ≤ 1536) : wpX_open (fun r u' => wpY_open (fun r' v' => r' = r ∧ i_Rel (k + 3) u' v') v) u := by
  obtain ⟨D, T, P, L, tx, ty, pt, rfl, rfl, H⟩ := I
  exact fx_open H (fun h => fy_open H (fun _ => ⟨rfl, fi_rel H⟩) (fun z => absurd z h)) (fun h => fy_open H (fun z => absurd h z) (fun _ => ⟨rfl, fi_rel (fi_open H h)⟩))
theorem i_vc_pop {k : Nat} {u : SX} {v : SY} (I : i_Rel k u v) (hk : k + 3 ≤ 1536) : wpX_pop (fun r u' => wpY_pop (fun r' v' => r' = r ∧ i_Rel (k + 3) u' v') v) u := by
  obtain ⟨D, T, P, L, tx, ty, pt, rfl, rfl, H⟩ := I
  obtain ⟨E, rfl⟩ : ∃ E, D = E + 1 := ⟨D - 1, by have := H.1.1; omega⟩
  refine fx_pop H (fun h => fy_pop H (fun _ => ⟨rfl, fi_rel H⟩) (fun l t z _ => absurd z (by omega))) (fun l t h ht => fy_pop H (fun z => absurd z (by omega)) (fun l' t' z zt => ?_))
  obtain rfl : l' = l := by omega
  obtain rfl : t' = t := by omega
  have hc := fi_cutL (x := l') H (by omega)
  have hl := fi_LT H E
  rw [show T - L E + l' = t' by omega] at hc
  exact ⟨fi_tx H (by omega), fi_rel hc⟩
theorem i_vc_close {k : Nat} {u : SX} {v : SY} (I : i_Rel k u v) (hk : k + 3 ≤ 1536) : wpX_close (fun r u' => wpY_close (fun r' v' => r' = r ∧ i_Rel (k + 3) u' v') v) u := by
  obtain ⟨D, T, P, L, tx, ty, pt, rfl, rfl, H⟩ := I
  obtain ⟨E, rfl⟩ : ∃ E, D = E + 1 := ⟨D - 1, by have := H.1.1; omega⟩
  exact fx_close H (fun h => fy_close H (fun _ => ⟨rfl, fi_rel (fi_cutL (x := 0) H (Nat.zero_le _))⟩) (fun z => absurd h z)) (fun h => fy_close H (fun z => absurd z h) (fun _ => ⟨rfl, fi_rel (fi_close H h)⟩))
theorem i_vc_documents {k : Nat} {u : SX} {v : SY} (I : i_Rel k u v) (hk : k + 3 ≤ 1536) : wpX_documents (fun r => wpY_documents (fun r' => r' = r ∧ i_Rel (k + 3) u v) v) u := by
  obtain ⟨D, T, P, L, tx, ty, pt, rfl, rfl, H⟩ := I
  exact ⟨rfl, fi_rel H⟩
theorem i_vc_length {k : Nat} {u : SX} {v : SY} (I : i_Rel k u v) (hk : k + 3 ≤ 1536) (v1 : Int32) : wpX_length (fun r => wpY_length (fun r' => r' = r ∧ i_Rel (k + 3) u v) v v1) u v1 := by
  obtain ⟨D, T, P, L, tx, ty, pt, rfl, rfl, H⟩ := I
  have hD := H.1.2
  unfold wpX_length wpY_length
  by_cases hx : v1 < 0
  · exact fx_isDoc_n hx (br_t rfl (fy_bad_n hx (br_f fi_10 ⟨rfl, fi_rel H⟩)))
  · obtain ⟨d, hd, rfl⟩ := nI_of hx
    exact fx_isDoc H hd (fun h => br_f fi_10 ⟨pk_in d 5 (by omega), fy_bad H hd (fun _ => br_t rfl ⟨pk_in d 5 (by omega), rfl, fi_rel H⟩) (fun z => absurd h z)⟩) (fun h => br_t rfl (fy_bad H hd (fun z => absurd z h) (fun _ => br_f fi_10 ⟨rfl, fi_rel H⟩)))
theorem i_vc_symbolAt {k : Nat} {u : SX} {v : SY} (I : i_Rel k u v) (hk : k + 3 ≤ 1536) (v1 : Int32) : wpX_symbolAt (fun r => wpY_symbolAt (fun r' => r' = r ∧ i_Rel (k + 3) u v) v v1) u v1 := by
  obtain ⟨D, T, P, L, tx, ty, pt, rfl, rfl, H⟩ := I
  unfold wpX_symbolAt wpY_symbolAt
  by_cases hx : v1 < 0
  · exact fx_isPlace_n hx (br_t rfl (fy_badPlace_n hx (br_f fi_10 ⟨rfl, fi_rel H⟩)))
  · obtain ⟨q, hq, rfl⟩ := nI_of hx
    refine fx_isPlace H hq (fun e => br_f fi_10 ?_) (fun e => br_t rfl (fy_badPlace H hq (fun z => absurd (z.symm.trans e) (by decide)) (fun _ => br_f fi_10 ⟨rfl, fi_rel H⟩)))
    have ho := fi_okl H e
    have hl := fi_L60 H (q / 64)
    have e1 : 60 * (nI q / 64) + (nI q - nI q / 64 * 64) = nI (60 * (q / 64) + q % 64) := by rw [fi_r64' hq, fi_d64 hq, fi_m60, nI_add]
    refine ⟨pk_in q 320 (by omega), fy_badPlace H hq (fun _ => br_t rfl ⟨fi_640, fi_640, ?_⟩) (fun z => absurd (z.symm.trans e) (by decide))⟩
    rw [e1, nI_clamp (n := 60 * (q / 64) + q % 64) (by omega), nI_clamp (n := q) (by omega)]
    refine ⟨pk_in (60 * (q / 64) + q % 64) 300 (by omega), ?_, fi_rel H⟩
    rw [fi_tx H ho.2.2, show 64 * (q / 64) + q % 64 = q by omega]
theorem i_vc_ask {k : Nat} {u : SX} {v : SY} (I : i_Rel k u v) (hk : k + 3 ≤ 1536) (v1 : Int32) : wpX_ask (fun r u' => wpY_ask (fun r' v' => r' = r ∧ i_Rel (k + 3) u' v') v v1) u v1 := by
  obtain ⟨D, T, P, L, tx, ty, pt, rfl, rfl, H⟩ := I
  have hP := H.2.2.1
  unfold wpX_ask wpY_ask
  by_cases hx : v1 < 0
  · exact fx_isSym_n hx (br_t rfl (fy_badSym_n hx (br_f fi_10 ⟨rfl, fi_rel H⟩)))
  · obtain ⟨j, hj, rfl⟩ := nI_of hx
    refine fx_isSym hj (fun h5 => br_f fi_10 (pk_lt P 8 (fun g => ⟨pk_in P 8 g, ?_⟩) (fun g => ?_))) (fun h5 => br_t rfl ?_)
    · rw [nI_1 P]
      exact nm_e (nm_e (fy_badSym hj (fun _ => br_t rfl (pk_lt P 8 (fun _ => ⟨pk_in P 8 g, nm_e (nm_r (nI_1 P) ⟨rfl, fi_rel (fi_pat H (by omega))⟩)⟩) (fun z => absurd z (by omega)))) (fun z => absurd h5 z)))
    · exact fy_badSym hj (fun _ => br_t rfl (pk_lt P 8 (fun z => absurd z (by omega)) (fun _ => ⟨rfl, fi_rel H⟩))) (fun z => absurd h5 z)
    · exact fy_badSym hj (fun z => absurd z h5) (fun _ => br_f fi_10 ⟨rfl, fi_rel H⟩)
theorem i_vc_forget {k : Nat} {u : SX} {v : SY} (I : i_Rel k u v) (hk : k + 3 ≤ 1536) : wpX_forget (fun r u' => wpY_forget (fun r' v' => r' = r ∧ i_Rel (k + 3) u' v') v) u := by
  obtain ⟨D, T, P, L, tx, ty, pt, rfl, rfl, H⟩ := I
  exact ⟨rfl, fi_rel (P := 0) (fi_pat H (by omega))⟩
theorem i_vc_count {k : Nat} {u : SX} {v : SY} (I : i_Rel k u v) (hk : k + 3 ≤ 1536) : wpX_count (fun r => wpY_count (fun r' => r' = r ∧ i_Rel (k + 3) u v) v) u := by
  obtain ⟨D, T, P, L, tx, ty, pt, rfl, rfl, H⟩ := I
  exact fx_count H (fun h => fy_count H (fun _ => ⟨rfl, fi_rel H⟩) (fun z => absurd h z)) (fun h => fy_count H (fun z => absurd z h) (fun _ => ⟨rfl, fi_rel H⟩))
theorem i_vc_occurrence {k : Nat} {u : SX} {v : SY} (I : i_Rel k u v) (hk : k + 3 ≤ 1536) (v1 : Int32) : wpX_occurrence (fun r => wpY_occurrence (fun r' => r' = r ∧ i_Rel (k + 3) u v) v v1) u v1 := by
  obtain ⟨D, T, P, L, tx, ty, pt, rfl, rfl, H⟩ := I
  exact fx_occurrence H (fun h => fy_occurrence H (fun _ => ⟨rfl, fi_rel H⟩) (fun z => absurd h z)) (fun h => fy_occurrence H (fun z => absurd z h) (fun _ => ⟨rfl, fi_rel H⟩))
theorem i_vc_countIn {k : Nat} {u : SX} {v : SY} (I : i_Rel k u v) (hk : k + 3 ≤ 1536) (v1 : Int32) : wpX_countIn (fun r => wpY_countIn (fun r' => r' = r ∧ i_Rel (k + 3) u v) v v1) u v1 := by
  obtain ⟨D, T, P, L, tx, ty, pt, rfl, rfl, H⟩ := I
  have hP := H.2.2.1
  have hD := H.1.2
  unfold wpX_countIn wpY_countIn
  refine pk_eq P 0 (fun h => pk_eq P 0 (fun _ => ⟨rfl, fi_rel H⟩) (fun z => absurd h z)) (fun h => ?_)
  by_cases hx : v1 < 0
  · exact fx_isDoc_n hx (br_t rfl (pk_eq P 0 (fun z => absurd z h) (fun _ => fy_bad_n hx (br_f fi_10 ⟨rfl, fi_rel H⟩))))
  · obtain ⟨d, hd, rfl⟩ := nI_of hx
    refine fx_isDoc H hd (fun g => br_f fi_10 (fx_occ H (by omega) ?_)) (fun g => br_t rfl ?_)
    · exact pk_eq P 0 (fun z => absurd z h) (fun _ => fy_bad H hd (fun _ => br_t rfl (fy_occ H (by omega) ⟨rfl, fi_rel H⟩)) (fun z => absurd g z))
    · exact pk_eq P 0 (fun z => absurd z h) (fun _ => fy_bad H hd (fun z => absurd z g) (fun _ => br_f fi_10 ⟨rfl, fi_rel H⟩))
theorem i_vc_spread {k : Nat} {u : SX} {v : SY} (I : i_Rel k u v) (hk : k + 3 ≤ 1536) : wpX_spread (fun r => wpY_spread (fun r' => r' = r ∧ i_Rel (k + 3) u v) v) u := by
  obtain ⟨D, T, P, L, tx, ty, pt, rfl, rfl, H⟩ := I
  exact fx_spread H (fun h => fy_spread H (fun _ => ⟨rfl, fi_rel H⟩) (fun z => absurd h z)) (fun h => fy_spread H (fun z => absurd z h) (fun _ => ⟨rfl, fi_rel H⟩))
theorem i_vc_longestEnd {k : Nat} {u : SX} {v : SY} (I : i_Rel k u v) (hk : k + 3 ≤ 1536) : wpX_longestEnd (fun r => wpY_longestEnd (fun r' => r' = r ∧ i_Rel (k + 3) u v) v) u := by
  obtain ⟨D, T, P, L, tx, ty, pt, rfl, rfl, H⟩ := I
  exact fx_longestEnd H (fy_longestEnd H ⟨rfl, fi_rel H⟩)
theorem i_vc_longestBegin {k : Nat} {u : SX} {v : SY} (I : i_Rel k u v) (hk : k + 3 ≤ 1536) : wpX_longestBegin (fun r => wpY_longestBegin (fun r' => r' = r ∧ i_Rel (k + 3) u v) v) u := by
  obtain ⟨D, T, P, L, tx, ty, pt, rfl, rfl, H⟩ := I
  exact fx_longestBegin H (fy_longestBegin H ⟨rfl, fi_rel H⟩)
theorem i_vc_ranked {k : Nat} {u : SX} {v : SY} (I : i_Rel k u v) (hk : k + 3 ≤ 1536) (v1 : Int32) : wpX_ranked (fun r => wpY_ranked (fun r' => r' = r ∧ i_Rel (k + 3) u v) v v1) u v1 := by
  obtain ⟨D, T, P, L, tx, ty, pt, rfl, rfl, H⟩ := I
  exact fx_ranked H (fy_ranked H ⟨rfl, fi_rel H⟩)
theorem i_vc_rankOf {k : Nat} {u : SX} {v : SY} (I : i_Rel k u v) (hk : k + 3 ≤ 1536) (v1 : Int32) : wpX_rankOf (fun r => wpY_rankOf (fun r' => r' = r ∧ i_Rel (k + 3) u v) v v1) u v1 := by
  obtain ⟨D, T, P, L, tx, ty, pt, rfl, rfl, H⟩ := I
  unfold wpX_rankOf wpY_rankOf
  by_cases hx : v1 < 0
  · exact fx_isPlace_n hx (br_t rfl (fy_badPlace_n hx (br_f fi_10 ⟨rfl, fi_rel H⟩)))
  · obtain ⟨q, hq, rfl⟩ := nI_of hx
    refine fx_isPlace H hq (fun e => br_f fi_10 ?_) (fun e => br_t rfl (fy_badPlace H hq (fun z => absurd (z.symm.trans e) (by decide)) (fun _ => br_f fi_10 ⟨rfl, fi_rel H⟩)))
    have ho := fi_okl H e
    have hl := fi_L60 H (q / 64)
    refine fx_rk H e (fy_badPlace H hq (fun _ => br_t rfl ⟨fi_640, fi_640, ?_⟩) (fun z => absurd (z.symm.trans e) (by decide)))
    rw [fi_r64' hq, fi_d64 hq]
    refine fy_rk H ho.1 ho.2.1 ⟨?_, fi_rel H⟩
    rw [show 64 * (q / 64) + q % 64 = q by omega]
theorem i_vc_common {k : Nat} {u : SX} {v : SY} (I : i_Rel k u v) (hk : k + 3 ≤ 1536) (v1 : Int32) (v2 : Int32) : wpX_common (fun r => wpY_common (fun r' => r' = r ∧ i_Rel (k + 3) u v) v v1 v2) u v1 v2 := by
  obtain ⟨D, T, P, L, tx, ty, pt, rfl, rfl, H⟩ := I
  unfold wpX_common wpY_common
  by_cases hx : v1 < 0
  · exact fx_isPlace_n hx (br_t rfl (fy_badPlace_n hx (br_f fi_10 ⟨rfl, fi_rel H⟩)))
  · obtain ⟨q, hq, rfl⟩ := nI_of hx
    refine fx_isPlace H hq (fun e => br_f fi_10 ?_) (fun e => br_t rfl (fy_badPlace H hq (fun z => absurd (z.symm.trans e) (by decide)) (fun _ => br_f fi_10 ⟨rfl, fi_rel H⟩)))
    by_cases hy : v2 < 0
    · exact fx_isPlace_n hy (br_t rfl (fy_badPlace H hq (fun _ => br_t rfl (fy_badPlace_n hy (br_f fi_10 ⟨rfl, fi_rel H⟩))) (fun z => absurd (z.symm.trans e) (by decide))))
    · obtain ⟨r, hr, rfl⟩ := nI_of hy
      refine fx_isPlace H hr (fun e2 => br_f fi_10 ?_) (fun e2 => br_t rfl (fy_badPlace H hq (fun _ => br_t rfl (fy_badPlace H hr (fun z => absurd (z.symm.trans e2) (by decide)) (fun _ => br_f fi_10 ⟨rfl, fi_rel H⟩))) (fun z => absurd (z.symm.trans e) (by decide))))
      have ho := fi_okl H e
      have ho2 := fi_okl H e2
      refine fx_sh H ho.1 ho.2.1 ho2.1 ho2.2.1 (fy_badPlace H hq (fun _ => br_t rfl (fy_badPlace H hr (fun _ => br_t rfl ⟨fi_640, fi_640, fi_640, fi_640, ?_⟩) (fun z => absurd (z.symm.trans e2) (by decide)))) (fun z => absurd (z.symm.trans e) (by decide)))
      rw [fi_r64' hq, fi_d64 hq, fi_r64' hr, fi_d64 hr]
      refine fy_sh H ho.1 ho2.1 ho.2.1 ho2.2.1 ⟨?_, fi_rel H⟩
      rw [show 64 * (q / 64) + q % 64 = q by omega, show 64 * (r / 64) + r % 64 = r by omega]
theorem i_vc_repeated {k : Nat} {u : SX} {v : SY} (I : i_Rel k u v) (hk : k + 3 ≤ 1536) : wpX_repeated (fun r => wpY_repeated (fun r' => r' = r ∧ i_Rel (k + 3) u v) v) u := by
  obtain ⟨D, T, P, L, tx, ty, pt, rfl, rfl, H⟩ := I
  exact fx_repeated H (fy_repeated H ⟨rfl, fi_rel H⟩)
theorem i_vc_different {k : Nat} {u : SX} {v : SY} (I : i_Rel k u v) (hk : k + 3 ≤ 1536) : wpX_different (fun r => wpY_different (fun r' => r' = r ∧ i_Rel (k + 3) u v) v) u := by
  obtain ⟨D, T, P, L, tx, ty, pt, rfl, rfl, H⟩ := I
  exact fx_different H (fy_different H ⟨rfl, fi_rel H⟩)
theorem i_vc_extensions {k : Nat} {u : SX} {v : SY} (I : i_Rel k u v) (hk : k + 3 ≤ 1536) : wpX_extensions (fun r => wpY_extensions (fun r' => r' = r ∧ i_Rel (k + 3) u v) v) u := by
  obtain ⟨D, T, P, L, tx, ty, pt, rfl, rfl, H⟩ := I
  exact fx_extensions H (fy_extensions H ⟨rfl, fi_rel H⟩)
