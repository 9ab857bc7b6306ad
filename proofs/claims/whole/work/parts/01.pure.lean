/-! numbers: rows of kit/rows (pk_) -/
theorem pk_us {f : Nat → Int32} {k : Nat} {x : Int32} : upd f k x k = x := if_pos rfl
theorem pk_un {f : Nat → Int32} {k j : Nat} {x : Int32} (h : j ≠ k) : upd f k x j = f j := if_neg h
theorem pk_sub {a b : Nat} (h : b ≤ a) : nI a - nI b = nI (a - b) := by
  obtain ⟨c, rfl⟩ : ∃ c, a = c + b := ⟨a - b, by omega⟩
  rw [← nI_add, Int32.add_sub_cancel, Nat.add_sub_cancel]
theorem pk_m1 (n : Nat) : nI (n + 1) + (-1) = nI n := by
  rw [← nI_1, Int32.add_assoc, show (1 : Int32) + (-1) = 0 from rfl, Int32.add_zero]
theorem pk_mul (a b : Nat) : nI a * nI b = nI (a * b) := (Int32.ofNat_mul a b).symm
theorem pk_div {a d : Nat} (ha : a < 2 ^ 31) (h0 : 0 < d) (hd : d < 2 ^ 31) : nI a / nI d = nI (a / d) := by
  apply Int32.toInt_inj.mp
  rw [lg_idiv_nonneg (by rw [nI_toInt ha]; omega) (by rw [nI_toInt hd]; omega), nI_toInt ha, nI_toInt hd, nI_toInt (Nat.lt_of_le_of_lt (Nat.div_le_self a d) ha)]
  first | rfl | exact (Int.natCast_ediv _ _).symm
theorem pk_rem {a d : Nat} (ha : a < 2 ^ 31) (h0 : 0 < d) (hd : d < 2 ^ 31) : nI a - nI a / nI d * nI d = nI (a % d) := by
  rw [pk_div ha h0 hd, pk_mul, pk_sub (Nat.div_mul_le_self a d)]
  exact congrArg nI (by have := Nat.div_add_mod' a d; omega)
theorem pk_sub_toInt {a b : Nat} (ha : a < 2 ^ 30) (hb : b < 2 ^ 30) : (nI a - nI b).toInt = (a : Int) - b := by
  rw [Int32.toInt_sub, nI_toInt (by omega), nI_toInt (by omega)]
  exact Int.bmod_eq_of_le (by omega) (by omega)
theorem pk_sneg {a b : Nat} (hb : b < 2 ^ 30) (h : a < b) : nI a - nI b < 0 := by
  rw [Int32.lt_iff_toInt_lt, pk_sub_toInt (by omega) hb, show (0 : Int32).toInt = 0 from by decide]
  omega
theorem pk_ix (x : Int32) {n : Nat} (hn : n < 2 ^ 31) : x < 0 ∨ nI n ≤ x ∨ ∃ j : Nat, j < n ∧ x = nI j := by
  by_cases h : x < 0
  · exact Or.inl h
  · obtain ⟨j, hj, rfl⟩ := nI_of h
    by_cases h2 : j < n
    · exact Or.inr (Or.inr ⟨j, h2, rfl⟩)
    · exact Or.inr (Or.inl (nI_le (by omega) hj))
theorem pk_le {x y : Int32} {A B : Prop} (a b : Nat) (f : a ≤ b → A) (g : b < a → B) (hx : x = nI a := by rfl) (hy : y = nI b := by rfl) (ha : a < 2 ^ 31 := by omega) (hb : b < 2 ^ 31 := by omega) : (x ≤ y → A) ∧ (¬ x ≤ y → B) := by
  subst hx hy
  rw [nI_leI ha hb]
  exact ⟨f, fun z => g (by omega)⟩
theorem pk_lt {x y : Int32} {A B : Prop} (a b : Nat) (f : a < b → A) (g : b ≤ a → B) (hx : x = nI a := by rfl) (hy : y = nI b := by rfl) (ha : a < 2 ^ 31 := by omega) (hb : b < 2 ^ 31 := by omega) : (x < y → A) ∧ (¬ x < y → B) := by
  subst hx hy
  rw [nI_ltI ha hb]
  exact ⟨f, fun z => g (by omega)⟩
theorem pk_eq {x y : Int32} {A B : Prop} (a b : Nat) (f : a = b → A) (g : a ≠ b → B) (hx : x = nI a := by rfl) (hy : y = nI b := by rfl) (ha : a < 2 ^ 31 := by omega) (hb : b < 2 ^ 31 := by omega) : (x = y → A) ∧ (¬ x = y → B) := by
  subst hx hy
  rw [nI_eq ha hb]
  exact ⟨f, g⟩
theorem pk_in {x : Int32} (n N : Nat) (h : n < N) (hx : x = nI n := by rfl) (hN : N < 2 ^ 31 := by omega) : vp_in x N := by
  subst hx
  exact vp_in_nI h hN
theorem pk_cl {x : Int32} (n : Nat) (hx : x = nI n := by rfl) (h : n < 2 ^ 31 := by omega) : x.toNatClampNeg = n := by
  subst hx
  exact nI_clamp h
theorem fi_m64 (d : Nat) : (64 : Int32) * nI d = nI (64 * d) := pk_mul 64 d
theorem fi_m60 (d : Nat) : (60 : Int32) * nI d = nI (60 * d) := pk_mul 60 d
theorem fi_d64 {q : Nat} (h : q < 2 ^ 31) : nI q / 64 = nI (q / 64) := pk_div (d := 64) h (by decide) (by decide)
theorem fi_r64 {q : Nat} (h : q < 2 ^ 31) : nI q - nI (q / 64) * 64 = nI (q % 64) := by
  have := pk_rem (d := 64) h (by decide) (by decide)
  rw [pk_div h (by decide) (by decide)] at this
  exact this
theorem fi_r64' {q : Nat} (h : q < 2 ^ 31) : nI q - nI q / 64 * 64 = nI (q % 64) := pk_rem (d := 64) h (by decide) (by decide)

/-! the places: a fold over the places of the first D documents, in rising order, with an early answer -/
def fi_ok (D : Nat) (L : Nat → Nat) (q : Nat) : Bool := decide (q / 64 < D) && decide (q % 64 < L (q / 64))
theorem fi_ok_t {D : Nat} {L : Nat → Nat} {q : Nat} (h : fi_ok D L q = true) : q / 64 < D ∧ q % 64 < L (q / 64) := by
  unfold fi_ok at h
  rw [Bool.and_eq_true, decide_eq_true_eq, decide_eq_true_eq] at h
  exact h
theorem fi_ok_i {D : Nat} {L : Nat → Nat} {q : Nat} (h1 : q / 64 < D) (h2 : q % 64 < L (q / 64)) : fi_ok D L q = true := by
  unfold fi_ok
  rw [Bool.and_eq_true, decide_eq_true_eq, decide_eq_true_eq]
  exact ⟨h1, h2⟩
theorem fi_ok_f {D : Nat} {L : Nat → Nat} {q : Nat} (h : ¬ (q / 64 < D ∧ q % 64 < L (q / 64))) : fi_ok D L q = false := by
  cases e : fi_ok D L q
  · rfl
  · exact absurd (fi_ok_t e) h
theorem fi_ok_n {D : Nat} {L : Nat → Nat} {q : Nat} (h : fi_ok D L q = false) : ¬ (q / 64 < D ∧ q % 64 < L (q / 64)) := by
  intro z
  rw [fi_ok_i z.1 z.2] at h
  exact absurd h (by decide)
theorem fi_dv {d p : Nat} (hp : p < 64) : (64 * d + p) / 64 = d := by omega
theorem fi_md {d p : Nat} (hp : p < 64) : (64 * d + p) % 64 = p := by omega
theorem fi_ok_dp {D : Nat} {L : Nat → Nat} {d p : Nat} (hp : p < 64) (hd : d < D) (h : p < L d) : fi_ok D L (64 * d + p) = true := by
  apply fi_ok_i
  · rw [fi_dv hp]; exact hd
  · rw [fi_dv hp, fi_md hp]; exact h
def fi_fo (ok : Nat → Bool) (st : Nat → Int32 → Sum Int32 Int32) (fin : Int32 → Int32) : Nat → Nat → Int32 → Int32
  | 0, _, s => fin s
  | n + 1, q, s => match ok q with
    | false => fi_fo ok st fin n (q + 1) s
    | true => match st q s with
      | .inl r => r
      | .inr s' => fi_fo ok st fin n (q + 1) s'
theorem fi_fo_f {ok : Nat → Bool} {st : Nat → Int32 → Sum Int32 Int32} {fin : Int32 → Int32} {n q : Nat} {s : Int32} (h : ok q = false) : fi_fo ok st fin (n + 1) q s = fi_fo ok st fin n (q + 1) s := by
  simp only [fi_fo, h]
theorem fi_fo_l {ok : Nat → Bool} {st : Nat → Int32 → Sum Int32 Int32} {fin : Int32 → Int32} {n q : Nat} {s r : Int32} (h : ok q = true) (e : st q s = .inl r) : fi_fo ok st fin (n + 1) q s = r := by
  simp only [fi_fo, h, e]
theorem fi_fo_r {ok : Nat → Bool} {st : Nat → Int32 → Sum Int32 Int32} {fin : Int32 → Int32} {n q : Nat} {s s' : Int32} (h : ok q = true) (e : st q s = .inr s') : fi_fo ok st fin (n + 1) q s = fi_fo ok st fin n (q + 1) s' := by
  simp only [fi_fo, h, e]
theorem fi_skip (ok : Nat → Bool) (st : Nat → Int32 → Sum Int32 Int32) (fin : Int32 → Int32) : ∀ (m n q : Nat) (s : Int32), (∀ j, j < m → ok (q + j) = false) → fi_fo ok st fin (m + n) q s = fi_fo ok st fin n (q + m) s := by
  intro m
  induction m with
  | zero =>
    intro n q s _
    rw [Nat.zero_add, Nat.add_zero]
  | succ m ih =>
    intro n q s h
    have h0 : ok q = false := h 0 (by omega)
    have h1 : ∀ j, j < m → ok (q + 1 + j) = false := by
      intro j hj
      have := h (j + 1) (by omega)
      rwa [show q + (j + 1) = q + 1 + j by omega] at this
    rw [show m + 1 + n = (m + n) + 1 by omega, fi_fo_f h0, ih n (q + 1) s h1, show q + 1 + m = q + (m + 1) by omega]
/-- rows behind which nothing happens -/
theorem fi_tail (ok : Nat → Bool) (st : Nat → Int32 → Sum Int32 Int32) (fin : Int32 → Int32) : ∀ (n q : Nat) (s : Int32), (∀ j t, q ≤ j → st j t = .inr t) → fi_fo ok st fin n q s = fin s := by
  intro n
  induction n with
  | zero => intro q s _; rfl
  | succ n ih =>
    intro q s h
    have h2 : ∀ j t, q + 1 ≤ j → st j t = .inr t := fun j t hj => h j t (by omega)
    cases e : ok q
    · rw [fi_fo_f e]; exact ih _ _ h2
    · rw [fi_fo_r e (h q s (Nat.le_refl q))]; exact ih _ _ h2
theorem fi_cut (ok : Nat → Bool) (st : Nat → Int32 → Sum Int32 Int32) (fin : Int32 → Int32) : ∀ (m n q : Nat) (s : Int32), (∀ j t, q + m ≤ j → st j t = .inr t) → fi_fo ok st fin (m + n) q s = fi_fo ok st fin m q s := by
  intro m
  induction m with
  | zero =>
    intro n q s h
    rw [Nat.zero_add]
    exact fi_tail ok st fin n q s h
  | succ m ih =>
    intro n q s h
    have h2 : ∀ j t, q + 1 + m ≤ j → st j t = .inr t := fun j t hj => h j t (by omega)
    rw [show m + 1 + n = (m + n) + 1 by omega]
    cases e : ok q
    · rw [fi_fo_f e, fi_fo_f e]; exact ih n _ _ h2
    · cases e2 : st q s
      · rw [fi_fo_l e e2, fi_fo_l e e2]
      · rw [fi_fo_r e e2, fi_fo_r e e2]; exact ih n _ _ h2
theorem fi_okc {ok ok' : Nat → Bool} {st : Nat → Int32 → Sum Int32 Int32} {fin : Int32 → Int32} : ∀ (n q : Nat) (s : Int32), (∀ j, q ≤ j → j < q + n → ok j = ok' j) → fi_fo ok st fin n q s = fi_fo ok' st fin n q s := by
  intro n
  induction n with
  | zero => intro q s _; rfl
  | succ n ih =>
    intro q s h
    have h2 : ∀ j, q + 1 ≤ j → j < q + 1 + n → ok j = ok' j := fun j h3 h4 => h j (by omega) (by omega)
    have h0 : ok q = ok' q := h q (Nat.le_refl q) (by omega)
    cases e : ok q
    · rw [fi_fo_f e, fi_fo_f (h0.symm.trans e)]; exact ih _ _ h2
    · cases e2 : st q s
      · rw [fi_fo_l e e2, fi_fo_l (h0.symm.trans e) e2]
      · rw [fi_fo_r e e2, fi_fo_r (h0.symm.trans e) e2]; exact ih _ _ h2
/-- a walk over all numbers below e that asks of each whether it is a place -/
theorem fi_X (W : Nat → Nat → Int32 → Prop) (post : Int32 → Prop) (e : Nat) (ok : Nat → Bool) (st : Nat → Int32 → Sum Int32 Int32) (fin : Int32 → Int32)
    (hx : ∀ n s, post (fin s) → W (n + 1) e s)
    (hs : ∀ n q s, q < e → (ok q = false → W n (q + 1) s) → (∀ r, ok q = true → st q s = .inl r → post r) → (∀ s', ok q = true → st q s = .inr s' → W n (q + 1) s') → W (n + 1) q s) :
    ∀ (m n q : Nat) (s : Int32), q + m = e → m < n → post (fi_fo ok st fin m q s) → W n q s := by
  intro m
  induction m with
  | zero =>
    intro n q s h1 h2 h3
    obtain ⟨n, rfl⟩ : ∃ k, n = k + 1 := ⟨n - 1, by omega⟩
    have h4 : q = e := by omega
    rw [h4]
    exact hx n s h3
  | succ m ih =>
    intro n q s h1 h2 h3
    obtain ⟨n, rfl⟩ : ∃ k, n = k + 1 := ⟨n - 1, by omega⟩
    refine hs n q s (by omega) (fun h => ih n (q + 1) s (by omega) (by omega) ?_) (fun r h e => ?_) (fun s' h e => ih n (q + 1) s' (by omega) (by omega) ?_)
    · rwa [fi_fo_f h] at h3
    · rwa [fi_fo_l h e] at h3
    · rwa [fi_fo_r h e] at h3
/-- two nested walks: documents, then positions -/
theorem fi_Y (W : Nat → Nat → Int32 → Prop) (V : Nat → Nat → Nat → Nat → Int32 → Prop) (post : Int32 → Prop) (D : Nat) (L : Nat → Nat) (st : Nat → Int32 → Sum Int32 Int32) (fin : Int32 → Int32)
    (hD : D ≤ 5) (hL : ∀ d, L d ≤ 60)
    (hx : ∀ n s, post (fin s) → W (n + 1) D s)
    (hin : ∀ n d s, d < D → (∃ m, V n d m 0 s) → W (n + 1) d s)
    (hex : ∀ n m d s, d < D → W n (d + 1) s → V n d (m + 1) (L d) s)
    (hst : ∀ n m d p s, d < D → p < L d → (∀ r, st (64 * d + p) s = .inl r → post r) → (∀ s', st (64 * d + p) s = .inr s' → V n d m (p + 1) s') → V n d (m + 1) p s) :
    ∀ (n d : Nat) (s : Int32), d ≤ D → D - d < n → post (fi_fo (fi_ok D L) st fin (320 - 64 * d) (64 * d) s) → W n d s := by
  intro n
  induction n with
  | zero => intro d s h1 h2; omega
  | succ n ih =>
    intro d s h1 h2 h3
    by_cases hd : d < D
    · refine hin n d s hd ⟨L d + 1, ?_⟩
      have hLd := hL d
      have key : ∀ (k p : Nat) (s : Int32), p + k = L d → post (fi_fo (fi_ok D L) st fin (320 - 64 * d - p) (64 * d + p) s) → V n d (k + 1) p s := by
        intro k
        induction k with
        | zero =>
          intro p s h4 h5
          have h6 : p = L d := by omega
          have hs : ∀ j, j < 64 - p → fi_ok D L (64 * d + p + j) = false := by
            intro j hj
            apply fi_ok_f
            rw [show 64 * d + p + j = 64 * d + (p + j) by omega, fi_dv (by omega), fi_md (by omega)]
            omega
          have h7 : 320 - 64 * d - p = (64 - p) + (320 - 64 * (d + 1)) := by omega
          have h8 := fi_skip (fi_ok D L) st fin (64 - p) (320 - 64 * (d + 1)) (64 * d + p) s hs
          rw [h7, h8, show 64 * d + p + (64 - p) = 64 * (d + 1) by omega] at h5
          rw [h6]
          exact hex n 0 d s hd (ih (d + 1) s (by omega) (by omega) h5)
        | succ k ihk =>
          intro p s h4 h5
          have hp : p < L d := by omega
          have h7 : 320 - 64 * d - p = (320 - 64 * d - (p + 1)) + 1 := by omega
          have hok : fi_ok D L (64 * d + p) = true := fi_ok_dp (by omega) hd hp
          rw [h7] at h5
          refine hst n (k + 1) d p s hd hp (fun r e => ?_) (fun s' e => ihk (p + 1) s' (by omega) ?_)
          · rwa [fi_fo_l hok e] at h5
          · rw [fi_fo_r hok e] at h5
            exact h5
      exact key (L d) 0 s (by omega) h3
    · have h4 : d = D := by omega
      rw [h4] at h3 ⊢
      refine hx n s ?_
      have h8 := fi_skip (fi_ok D L) st fin (320 - 64 * D) 0 (64 * D) s (fun j hj => fi_ok_f (by omega))
      rw [Nat.add_zero] at h8
      rw [h8] at h3
      exact h3
